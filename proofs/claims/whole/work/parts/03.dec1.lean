theorem dX6_offer_0 : decode cX6_offer 0 = .ok (.iload_n 1, 1) := by decide +kernel
theorem dX6_offer_1 : decode cX6_offer 1 = .ok (.istore_n 3, 1) := by decide +kernel
theorem dX6_offer_2 : decode cX6_offer 2 = .ok (.iload_n 3, 1) := by decide +kernel
theorem dX6_offer_3 : decode cX6_offer 3 = .ok (.ifCond .le 66, 3) := by decide +kernel
theorem dX6_offer_6 : decode cX6_offer 6 = .ok (.iconst 0, 1) := by decide +kernel
theorem dX6_offer_7 : decode cX6_offer 7 = .ok (.istore 4, 2) := by decide +kernel
theorem dX6_offer_9 : decode cX6_offer 9 = .ok (.iload 4, 2) := by decide +kernel
theorem dX6_offer_11 : decode cX6_offer 11 = .ok (.bipush 6, 2) := by decide +kernel
theorem dX6_offer_13 : decode cX6_offer 13 = .ok (.if_icmp .ge 50, 3) := by decide +kernel
theorem dX6_offer_16 : decode cX6_offer 16 = .ok (.iload_n 3, 1) := by decide +kernel
theorem dX6_offer_17 : decode cX6_offer 17 = .ok (.iload_n 1, 1) := by decide +kernel
theorem dX6_offer_18 : decode cX6_offer 18 = .ok (.iconst (-1), 1) := by decide +kernel
theorem dX6_offer_19 : decode cX6_offer 19 = .ok (.ixor, 1) := by decide +kernel
theorem dX6_offer_20 : decode cX6_offer 20 = .ok (.iand, 1) := by decide +kernel
theorem dX6_offer_21 : decode cX6_offer 21 = .ok (.ifCond .ne 42, 3) := by decide +kernel
theorem dX6_offer_24 : decode cX6_offer 24 = .ok (.iload_n 3, 1) := by decide +kernel
theorem dX6_offer_25 : decode cX6_offer 25 = .ok (.iload_n 2, 1) := by decide +kernel
theorem dX6_offer_26 : decode cX6_offer 26 = .ok (.iand, 1) := by decide +kernel
theorem dX6_offer_27 : decode cX6_offer 27 = .ok (.iconst 1, 1) := by decide +kernel
theorem dX6_offer_28 : decode cX6_offer 28 = .ok (.iload 4, 2) := by decide +kernel
theorem dX6_offer_30 : decode cX6_offer 30 = .ok (.ishl, 1) := by decide +kernel
theorem dX6_offer_31 : decode cX6_offer 31 = .ok (.iand, 1) := by decide +kernel
theorem dX6_offer_32 : decode cX6_offer 32 = .ok (.ifCond .eq 25, 3) := by decide +kernel
theorem dX6_offer_35 : decode cX6_offer 35 = .ok (.aload_n 0, 1) := by decide +kernel
theorem dX6_offer_36 : decode cX6_offer 36 = .ok (.getfield 15, 3) := by decide +kernel
theorem dX6_offer_39 : decode cX6_offer 39 = .ok (.iload_n 3, 1) := by decide +kernel
theorem dX6_offer_40 : decode cX6_offer 40 = .ok (.dup2, 1) := by decide +kernel
theorem dX6_offer_41 : decode cX6_offer 41 = .ok (.iaload, 1) := by decide +kernel
theorem dX6_offer_42 : decode cX6_offer 42 = .ok (.aload_n 0, 1) := by decide +kernel
theorem dX6_offer_43 : decode cX6_offer 43 = .ok (.getfield 15, 3) := by decide +kernel
theorem dX6_offer_46 : decode cX6_offer 46 = .ok (.iload_n 3, 1) := by decide +kernel
theorem dX6_offer_47 : decode cX6_offer 47 = .ok (.iconst 1, 1) := by decide +kernel
theorem dX6_offer_48 : decode cX6_offer 48 = .ok (.iload 4, 2) := by decide +kernel
theorem dX6_offer_50 : decode cX6_offer 50 = .ok (.ishl, 1) := by decide +kernel
theorem dX6_offer_51 : decode cX6_offer 51 = .ok (.iconst (-1), 1) := by decide +kernel
theorem dX6_offer_52 : decode cX6_offer 52 = .ok (.ixor, 1) := by decide +kernel
theorem dX6_offer_53 : decode cX6_offer 53 = .ok (.iand, 1) := by decide +kernel
theorem dX6_offer_54 : decode cX6_offer 54 = .ok (.iaload, 1) := by decide +kernel
theorem dX6_offer_55 : decode cX6_offer 55 = .ok (.iadd, 1) := by decide +kernel
theorem dX6_offer_56 : decode cX6_offer 56 = .ok (.iastore, 1) := by decide +kernel
theorem dX6_offer_57 : decode cX6_offer 57 = .ok (.iinc 4 1, 3) := by decide +kernel
theorem dX6_offer_60 : decode cX6_offer 60 = .ok (.goto (-51), 3) := by decide +kernel
theorem dX6_offer_63 : decode cX6_offer 63 = .ok (.iinc 3 (-1), 3) := by decide +kernel
theorem dX6_offer_66 : decode cX6_offer 66 = .ok (.goto (-64), 3) := by decide +kernel
theorem dX6_offer_69 : decode cX6_offer 69 = .ok (.return_, 1) := by decide +kernel
theorem dX7_init_0 : decode cX7_init 0 = .ok (.aload_n 0, 1) := by decide +kernel
theorem dX7_init_1 : decode cX7_init 1 = .ok (.invokespecial 3, 3) := by decide +kernel
theorem dX7_init_4 : decode cX7_init 4 = .ok (.aload_n 0, 1) := by decide +kernel
theorem dX7_init_5 : decode cX7_init 5 = .ok (.new 9, 3) := by decide +kernel
theorem dX7_init_8 : decode cX7_init 8 = .ok (.dup, 1) := by decide +kernel
theorem dX7_init_9 : decode cX7_init 9 = .ok (.invokespecial 11, 3) := by decide +kernel
theorem dX7_init_12 : decode cX7_init 12 = .ok (.putfield 12, 3) := by decide +kernel
theorem dX7_init_15 : decode cX7_init 15 = .ok (.aload_n 0, 1) := by decide +kernel
theorem dX7_init_16 : decode cX7_init 16 = .ok (.new 9, 3) := by decide +kernel
theorem dX7_init_19 : decode cX7_init 19 = .ok (.dup, 1) := by decide +kernel
theorem dX7_init_20 : decode cX7_init 20 = .ok (.invokespecial 11, 3) := by decide +kernel
theorem dX7_init_23 : decode cX7_init 23 = .ok (.putfield 16, 3) := by decide +kernel
theorem dX7_init_26 : decode cX7_init 26 = .ok (.aload_n 0, 1) := by decide +kernel
theorem dX7_init_27 : decode cX7_init 27 = .ok (.new 9, 3) := by decide +kernel
theorem dX7_init_30 : decode cX7_init 30 = .ok (.dup, 1) := by decide +kernel
theorem dX7_init_31 : decode cX7_init 31 = .ok (.invokespecial 11, 3) := by decide +kernel
theorem dX7_init_34 : decode cX7_init 34 = .ok (.putfield 19, 3) := by decide +kernel
theorem dX7_init_37 : decode cX7_init 37 = .ok (.aload_n 0, 1) := by decide +kernel
theorem dX7_init_38 : decode cX7_init 38 = .ok (.new 22, 3) := by decide +kernel
theorem dX7_init_41 : decode cX7_init 41 = .ok (.dup, 1) := by decide +kernel
theorem dX7_init_42 : decode cX7_init 42 = .ok (.invokespecial 24, 3) := by decide +kernel
theorem dX7_init_45 : decode cX7_init 45 = .ok (.putfield 25, 3) := by decide +kernel
theorem dX7_init_48 : decode cX7_init 48 = .ok (.aload_n 0, 1) := by decide +kernel
theorem dX7_init_49 : decode cX7_init 49 = .ok (.new 29, 3) := by decide +kernel
theorem dX7_init_52 : decode cX7_init 52 = .ok (.dup, 1) := by decide +kernel
theorem dX7_init_53 : decode cX7_init 53 = .ok (.invokespecial 31, 3) := by decide +kernel
theorem dX7_init_56 : decode cX7_init 56 = .ok (.putfield 32, 3) := by decide +kernel
theorem dX7_init_59 : decode cX7_init 59 = .ok (.aload_n 0, 1) := by decide +kernel
theorem dX7_init_60 : decode cX7_init 60 = .ok (.new 36, 3) := by decide +kernel
theorem dX7_init_63 : decode cX7_init 63 = .ok (.dup, 1) := by decide +kernel
theorem dX7_init_64 : decode cX7_init 64 = .ok (.invokespecial 38, 3) := by decide +kernel
theorem dX7_init_67 : decode cX7_init 67 = .ok (.putfield 39, 3) := by decide +kernel
theorem dX7_init_70 : decode cX7_init 70 = .ok (.aload_n 0, 1) := by decide +kernel
theorem dX7_init_71 : decode cX7_init 71 = .ok (.new 43, 3) := by decide +kernel
theorem dX7_init_74 : decode cX7_init 74 = .ok (.dup, 1) := by decide +kernel
theorem dX7_init_75 : decode cX7_init 75 = .ok (.aload_n 0, 1) := by decide +kernel
theorem dX7_init_76 : decode cX7_init 76 = .ok (.getfield 39, 3) := by decide +kernel
theorem dX7_init_79 : decode cX7_init 79 = .ok (.aload_n 0, 1) := by decide +kernel
theorem dX7_init_80 : decode cX7_init 80 = .ok (.getfield 19, 3) := by decide +kernel
theorem dX7_init_83 : decode cX7_init 83 = .ok (.invokespecial 45, 3) := by decide +kernel
theorem dX7_init_86 : decode cX7_init 86 = .ok (.putfield 48, 3) := by decide +kernel
theorem dX7_init_89 : decode cX7_init 89 = .ok (.aload_n 0, 1) := by decide +kernel
theorem dX7_init_90 : decode cX7_init 90 = .ok (.iconst 4, 1) := by decide +kernel
theorem dX7_init_91 : decode cX7_init 91 = .ok (.anewarray 52, 3) := by decide +kernel
theorem dX7_init_94 : decode cX7_init 94 = .ok (.putfield 54, 3) := by decide +kernel
theorem dX7_init_97 : decode cX7_init 97 = .ok (.aload_n 0, 1) := by decide +kernel
theorem dX7_init_98 : decode cX7_init 98 = .ok (.bipush 7, 2) := by decide +kernel
theorem dX7_init_100 : decode cX7_init 100 = .ok (.newarray .int, 2) := by decide +kernel
theorem dX7_init_102 : decode cX7_init 102 = .ok (.putfield 58, 3) := by decide +kernel
theorem dX7_init_105 : decode cX7_init 105 = .ok (.iconst 0, 1) := by decide +kernel
theorem dX7_init_106 : decode cX7_init 106 = .ok (.istore_n 1, 1) := by decide +kernel
theorem dX7_init_107 : decode cX7_init 107 = .ok (.iload_n 1, 1) := by decide +kernel
theorem dX7_init_108 : decode cX7_init 108 = .ok (.iconst 4, 1) := by decide +kernel
theorem dX7_init_109 : decode cX7_init 109 = .ok (.if_icmp .ge 22, 3) := by decide +kernel
theorem dX7_init_112 : decode cX7_init 112 = .ok (.aload_n 0, 1) := by decide +kernel
theorem dX7_init_113 : decode cX7_init 113 = .ok (.getfield 54, 3) := by decide +kernel
theorem dX7_init_116 : decode cX7_init 116 = .ok (.iload_n 1, 1) := by decide +kernel
theorem dX7_init_117 : decode cX7_init 117 = .ok (.new 52, 3) := by decide +kernel
theorem dX7_init_120 : decode cX7_init 120 = .ok (.dup, 1) := by decide +kernel
theorem dX7_init_121 : decode cX7_init 121 = .ok (.invokespecial 62, 3) := by decide +kernel
theorem dX7_init_124 : decode cX7_init 124 = .ok (.aastore, 1) := by decide +kernel
theorem dX7_init_125 : decode cX7_init 125 = .ok (.iinc 1 1, 3) := by decide +kernel
theorem dX7_init_128 : decode cX7_init 128 = .ok (.goto (-21), 3) := by decide +kernel
theorem dX7_init_131 : decode cX7_init 131 = .ok (.return_, 1) := by decide +kernel
theorem dX7_part_0 : decode cX7_part 0 = .ok (.iload_n 1, 1) := by decide +kernel
theorem dX7_part_1 : decode cX7_part 1 = .ok (.invokestatic 63, 3) := by decide +kernel
theorem dX7_part_4 : decode cX7_part 4 = .ok (.ifCond .ne 10, 3) := by decide +kernel
theorem dX7_part_7 : decode cX7_part 7 = .ok (.aload_n 0, 1) := by decide +kernel
theorem dX7_part_8 : decode cX7_part 8 = .ok (.ldc 67, 2) := by decide +kernel
theorem dX7_part_10 : decode cX7_part 10 = .ok (.invokevirtual 68, 3) := by decide +kernel
theorem dX7_part_13 : decode cX7_part 13 = .ok (.ireturn, 1) := by decide +kernel
theorem dX7_part_14 : decode cX7_part 14 = .ok (.aload_n 0, 1) := by decide +kernel
theorem dX7_part_15 : decode cX7_part 15 = .ok (.getfield 12, 3) := by decide +kernel
theorem dX7_part_18 : decode cX7_part 18 = .ok (.getfield 72, 3) := by decide +kernel
theorem dX7_part_21 : decode cX7_part 21 = .ok (.bipush 10, 2) := by decide +kernel
theorem dX7_part_23 : decode cX7_part 23 = .ok (.if_icmp .lt 10, 3) := by decide +kernel
theorem dX7_part_26 : decode cX7_part 26 = .ok (.aload_n 0, 1) := by decide +kernel
theorem dX7_part_27 : decode cX7_part 27 = .ok (.ldc 76, 2) := by decide +kernel
theorem dX7_part_29 : decode cX7_part 29 = .ok (.invokevirtual 68, 3) := by decide +kernel
theorem dX7_part_32 : decode cX7_part 32 = .ok (.ireturn, 1) := by decide +kernel
theorem dX7_part_33 : decode cX7_part 33 = .ok (.aload_n 0, 1) := by decide +kernel
theorem dX7_part_34 : decode cX7_part 34 = .ok (.getfield 12, 3) := by decide +kernel
theorem dX7_part_37 : decode cX7_part 37 = .ok (.iload_n 1, 1) := by decide +kernel
theorem dX7_part_38 : decode cX7_part 38 = .ok (.iconst 0, 1) := by decide +kernel
theorem dX7_part_39 : decode cX7_part 39 = .ok (.bipush 10, 2) := by decide +kernel
theorem dX7_part_41 : decode cX7_part 41 = .ok (.iconst (-1), 1) := by decide +kernel
theorem dX7_part_42 : decode cX7_part 42 = .ok (.invokevirtual 77, 3) := by decide +kernel
theorem dX7_part_45 : decode cX7_part 45 = .ok (.ireturn, 1) := by decide +kernel
theorem dX7_of_0 : decode cX7_of 0 = .ok (.aload_n 0, 1) := by decide +kernel
theorem dX7_of_1 : decode cX7_of 1 = .ok (.getfield 12, 3) := by decide +kernel
theorem dX7_of_4 : decode cX7_of 4 = .ok (.iload_n 2, 1) := by decide +kernel
theorem dX7_of_5 : decode cX7_of 5 = .ok (.invokevirtual 81, 3) := by decide +kernel
theorem dX7_of_8 : decode cX7_of 8 = .ok (.astore_n 3, 1) := by decide +kernel
theorem dX7_of_9 : decode cX7_of 9 = .ok (.aload_n 0, 1) := by decide +kernel
theorem dX7_of_10 : decode cX7_of 10 = .ok (.getfield 12, 3) := by decide +kernel
theorem dX7_of_13 : decode cX7_of 13 = .ok (.iload_n 1, 1) := by decide +kernel
theorem dX7_of_14 : decode cX7_of 14 = .ok (.invokevirtual 85, 3) := by decide +kernel
theorem dX7_of_17 : decode cX7_of 17 = .ok (.ifCond .eq 7, 3) := by decide +kernel
theorem dX7_of_20 : decode cX7_of 20 = .ok (.aload_n 3, 1) := by decide +kernel
theorem dX7_of_21 : decode cX7_of 21 = .ok (.ifnonnull 10, 3) := by decide +kernel
theorem dX7_of_24 : decode cX7_of 24 = .ok (.aload_n 0, 1) := by decide +kernel
theorem dX7_of_25 : decode cX7_of 25 = .ok (.ldc 67, 2) := by decide +kernel
theorem dX7_of_27 : decode cX7_of 27 = .ok (.invokevirtual 68, 3) := by decide +kernel
theorem dX7_of_30 : decode cX7_of 30 = .ok (.ireturn, 1) := by decide +kernel
theorem dX7_of_31 : decode cX7_of 31 = .ok (.aload_n 3, 1) := by decide +kernel
theorem dX7_of_32 : decode cX7_of 32 = .ok (.iload_n 1, 1) := by decide +kernel
theorem dX7_of_33 : decode cX7_of 33 = .ok (.iaload, 1) := by decide +kernel
theorem dX7_of_34 : decode cX7_of 34 = .ok (.ireturn, 1) := by decide +kernel
theorem dX7_change_0 : decode cX7_change 0 = .ok (.aload_n 0, 1) := by decide +kernel
theorem dX7_change_1 : decode cX7_change 1 = .ok (.getfield 12, 3) := by decide +kernel
theorem dX7_change_4 : decode cX7_change 4 = .ok (.iload_n 2, 1) := by decide +kernel
theorem dX7_change_5 : decode cX7_change 5 = .ok (.invokevirtual 81, 3) := by decide +kernel
theorem dX7_change_8 : decode cX7_change 8 = .ok (.astore 4, 2) := by decide +kernel
theorem dX7_change_10 : decode cX7_change 10 = .ok (.aload_n 0, 1) := by decide +kernel
theorem dX7_change_11 : decode cX7_change 11 = .ok (.getfield 12, 3) := by decide +kernel
theorem dX7_change_14 : decode cX7_change 14 = .ok (.iload_n 1, 1) := by decide +kernel
theorem dX7_change_15 : decode cX7_change 15 = .ok (.invokevirtual 85, 3) := by decide +kernel
theorem dX7_change_18 : decode cX7_change 18 = .ok (.ifCond .eq 25, 3) := by decide +kernel
theorem dX7_change_21 : decode cX7_change 21 = .ok (.aload 4, 2) := by decide +kernel
theorem dX7_change_23 : decode cX7_change 23 = .ok (.ifnull 20, 3) := by decide +kernel
theorem dX7_change_26 : decode cX7_change 26 = .ok (.iload_n 3, 1) := by decide +kernel
theorem dX7_change_27 : decode cX7_change 27 = .ok (.getstatic 88, 3) := by decide +kernel
theorem dX7_change_30 : decode cX7_change 30 = .ok (.iload_n 2, 1) := by decide +kernel
theorem dX7_change_31 : decode cX7_change 31 = .ok (.iaload, 1) := by decide +kernel
theorem dX7_change_32 : decode cX7_change 32 = .ok (.getstatic 91, 3) := by decide +kernel
theorem dX7_change_35 : decode cX7_change 35 = .ok (.iload_n 2, 1) := by decide +kernel
theorem dX7_change_36 : decode cX7_change 36 = .ok (.iaload, 1) := by decide +kernel
theorem dX7_change_37 : decode cX7_change 37 = .ok (.invokestatic 94, 3) := by decide +kernel
theorem dX7_change_40 : decode cX7_change 40 = .ok (.ifCond .ne 10, 3) := by decide +kernel
theorem dX7_change_43 : decode cX7_change 43 = .ok (.aload_n 0, 1) := by decide +kernel
theorem dX7_change_44 : decode cX7_change 44 = .ok (.ldc 67, 2) := by decide +kernel
theorem dX7_change_46 : decode cX7_change 46 = .ok (.invokevirtual 68, 3) := by decide +kernel
theorem dX7_change_49 : decode cX7_change 49 = .ok (.ireturn, 1) := by decide +kernel
theorem dX7_change_50 : decode cX7_change 50 = .ok (.aload 4, 2) := by decide +kernel
theorem dX7_change_52 : decode cX7_change 52 = .ok (.iload_n 1, 1) := by decide +kernel
theorem dX7_change_53 : decode cX7_change 53 = .ok (.iaload, 1) := by decide +kernel
theorem dX7_change_54 : decode cX7_change 54 = .ok (.istore 5, 2) := by decide +kernel
theorem dX7_change_56 : decode cX7_change 56 = .ok (.aload 4, 2) := by decide +kernel
theorem dX7_change_58 : decode cX7_change 58 = .ok (.iload_n 1, 1) := by decide +kernel
theorem dX7_change_59 : decode cX7_change 59 = .ok (.iload_n 3, 1) := by decide +kernel
theorem dX7_change_60 : decode cX7_change 60 = .ok (.iastore, 1) := by decide +kernel
theorem dX7_change_61 : decode cX7_change 61 = .ok (.iload 5, 2) := by decide +kernel
theorem dX7_change_63 : decode cX7_change 63 = .ok (.ireturn, 1) := by decide +kernel
theorem dX7_face_0 : decode cX7_face 0 = .ok (.iload_n 1, 1) := by decide +kernel
theorem dX7_face_1 : decode cX7_face 1 = .ok (.invokestatic 98, 3) := by decide +kernel
theorem dX7_face_4 : decode cX7_face 4 = .ok (.ifCond .eq 32, 3) := by decide +kernel
theorem dX7_face_7 : decode cX7_face 7 = .ok (.iload_n 2, 1) := by decide +kernel
theorem dX7_face_8 : decode cX7_face 8 = .ok (.iconst 0, 1) := by decide +kernel
theorem dX7_face_9 : decode cX7_face 9 = .ok (.iconst 1, 1) := by decide +kernel
theorem dX7_face_10 : decode cX7_face 10 = .ok (.invokestatic 94, 3) := by decide +kernel
theorem dX7_face_13 : decode cX7_face 13 = .ok (.ifCond .eq 23, 3) := by decide +kernel
theorem dX7_face_16 : decode cX7_face 16 = .ok (.iload_n 3, 1) := by decide +kernel
theorem dX7_face_17 : decode cX7_face 17 = .ok (.iconst 0, 1) := by decide +kernel
theorem dX7_face_18 : decode cX7_face 18 = .ok (.iload_n 2, 1) := by decide +kernel
theorem dX7_face_19 : decode cX7_face 19 = .ok (.ifCond .ne 9, 3) := by decide +kernel
theorem dX7_face_22 : decode cX7_face 22 = .ok (.sipush 255, 3) := by decide +kernel
theorem dX7_face_25 : decode cX7_face 25 = .ok (.goto 5, 3) := by decide +kernel
theorem dX7_face_28 : decode cX7_face 28 = .ok (.bipush 99, 2) := by decide +kernel
theorem dX7_face_30 : decode cX7_face 30 = .ok (.invokestatic 94, 3) := by decide +kernel
theorem dX7_face_33 : decode cX7_face 33 = .ok (.ifCond .ne 10, 3) := by decide +kernel
theorem dX7_face_36 : decode cX7_face 36 = .ok (.aload_n 0, 1) := by decide +kernel
theorem dX7_face_37 : decode cX7_face 37 = .ok (.ldc 67, 2) := by decide +kernel
theorem dX7_face_39 : decode cX7_face 39 = .ok (.invokevirtual 68, 3) := by decide +kernel
theorem dX7_face_42 : decode cX7_face 42 = .ok (.ireturn, 1) := by decide +kernel
theorem dX7_face_43 : decode cX7_face 43 = .ok (.iload_n 2, 1) := by decide +kernel
theorem dX7_face_44 : decode cX7_face 44 = .ok (.ifCond .ne 13, 3) := by decide +kernel
theorem dX7_face_47 : decode cX7_face 47 = .ok (.aload_n 0, 1) := by decide +kernel
theorem dX7_face_48 : decode cX7_face 48 = .ok (.getfield 12, 3) := by decide +kernel
theorem dX7_face_51 : decode cX7_face 51 = .ok (.getfield 101, 3) := by decide +kernel
theorem dX7_face_54 : decode cX7_face 54 = .ok (.goto 10, 3) := by decide +kernel
theorem dX7_face_57 : decode cX7_face 57 = .ok (.aload_n 0, 1) := by decide +kernel
theorem dX7_face_58 : decode cX7_face 58 = .ok (.getfield 12, 3) := by decide +kernel
theorem dX7_face_61 : decode cX7_face 61 = .ok (.getfield 104, 3) := by decide +kernel
theorem dX7_face_64 : decode cX7_face 64 = .ok (.astore 4, 2) := by decide +kernel
theorem dX7_face_66 : decode cX7_face 66 = .ok (.aload 4, 2) := by decide +kernel
theorem dX7_face_68 : decode cX7_face 68 = .ok (.iload_n 1, 1) := by decide +kernel
theorem dX7_face_69 : decode cX7_face 69 = .ok (.iaload, 1) := by decide +kernel
theorem dX7_face_70 : decode cX7_face 70 = .ok (.istore 5, 2) := by decide +kernel
theorem dX7_face_72 : decode cX7_face 72 = .ok (.aload 4, 2) := by decide +kernel
theorem dX7_face_74 : decode cX7_face 74 = .ok (.iload_n 1, 1) := by decide +kernel
theorem dX7_face_75 : decode cX7_face 75 = .ok (.iload_n 3, 1) := by decide +kernel
theorem dX7_face_76 : decode cX7_face 76 = .ok (.iastore, 1) := by decide +kernel
theorem dX7_face_77 : decode cX7_face 77 = .ok (.iload 5, 2) := by decide +kernel
theorem dX7_face_79 : decode cX7_face 79 = .ok (.ireturn, 1) := by decide +kernel
theorem dX7_show_0 : decode cX7_show 0 = .ok (.iload_n 1, 1) := by decide +kernel
theorem dX7_show_1 : decode cX7_show 1 = .ok (.invokestatic 107, 3) := by decide +kernel
theorem dX7_show_4 : decode cX7_show 4 = .ok (.ifCond .eq 15, 3) := by decide +kernel
theorem dX7_show_7 : decode cX7_show 7 = .ok (.iload_n 2, 1) := by decide +kernel
theorem dX7_show_8 : decode cX7_show 8 = .ok (.invokestatic 98, 3) := by decide +kernel
theorem dX7_show_11 : decode cX7_show 11 = .ok (.ifCond .ne 15, 3) := by decide +kernel
theorem dX7_show_14 : decode cX7_show 14 = .ok (.iload_n 2, 1) := by decide +kernel
theorem dX7_show_15 : decode cX7_show 15 = .ok (.iconst (-1), 1) := by decide +kernel
theorem dX7_show_16 : decode cX7_show 16 = .ok (.if_icmp .eq 10, 3) := by decide +kernel
theorem dX7_show_19 : decode cX7_show 19 = .ok (.aload_n 0, 1) := by decide +kernel
theorem dX7_show_20 : decode cX7_show 20 = .ok (.ldc 67, 2) := by decide +kernel
theorem dX7_show_22 : decode cX7_show 22 = .ok (.invokevirtual 68, 3) := by decide +kernel
theorem dX7_show_25 : decode cX7_show 25 = .ok (.ireturn, 1) := by decide +kernel
theorem dX7_show_26 : decode cX7_show 26 = .ok (.aload_n 0, 1) := by decide +kernel
theorem dX7_show_27 : decode cX7_show 27 = .ok (.getfield 12, 3) := by decide +kernel
theorem dX7_show_30 : decode cX7_show 30 = .ok (.getfield 110, 3) := by decide +kernel
theorem dX7_show_33 : decode cX7_show 33 = .ok (.iload_n 1, 1) := by decide +kernel
theorem dX7_show_34 : decode cX7_show 34 = .ok (.iaload, 1) := by decide +kernel
theorem dX7_show_35 : decode cX7_show 35 = .ok (.istore_n 3, 1) := by decide +kernel
theorem dX7_show_36 : decode cX7_show 36 = .ok (.aload_n 0, 1) := by decide +kernel
theorem dX7_show_37 : decode cX7_show 37 = .ok (.getfield 12, 3) := by decide +kernel
theorem dX7_show_40 : decode cX7_show 40 = .ok (.getfield 110, 3) := by decide +kernel
theorem dX7_show_43 : decode cX7_show 43 = .ok (.iload_n 1, 1) := by decide +kernel
theorem dX7_show_44 : decode cX7_show 44 = .ok (.iload_n 2, 1) := by decide +kernel
theorem dX7_show_45 : decode cX7_show 45 = .ok (.iastore, 1) := by decide +kernel
theorem dX7_show_46 : decode cX7_show 46 = .ok (.iload_n 3, 1) := by decide +kernel
theorem dX7_show_47 : decode cX7_show 47 = .ok (.ireturn, 1) := by decide +kernel
theorem dX7_pace_0 : decode cX7_pace 0 = .ok (.iload_n 1, 1) := by decide +kernel
theorem dX7_pace_1 : decode cX7_pace 1 = .ok (.iconst 1, 1) := by decide +kernel
theorem dX7_pace_2 : decode cX7_pace 2 = .ok (.bipush 20, 2) := by decide +kernel
theorem dX7_pace_4 : decode cX7_pace 4 = .ok (.invokestatic 94, 3) := by decide +kernel
theorem dX7_pace_7 : decode cX7_pace 7 = .ok (.ifCond .ne 10, 3) := by decide +kernel
theorem dX7_pace_10 : decode cX7_pace 10 = .ok (.aload_n 0, 1) := by decide +kernel
theorem dX7_pace_11 : decode cX7_pace 11 = .ok (.ldc 67, 2) := by decide +kernel
theorem dX7_pace_13 : decode cX7_pace 13 = .ok (.invokevirtual 68, 3) := by decide +kernel
theorem dX7_pace_16 : decode cX7_pace 16 = .ok (.ireturn, 1) := by decide +kernel
theorem dX7_pace_17 : decode cX7_pace 17 = .ok (.aload_n 0, 1) := by decide +kernel
theorem dX7_pace_18 : decode cX7_pace 18 = .ok (.getfield 12, 3) := by decide +kernel
theorem dX7_pace_21 : decode cX7_pace 21 = .ok (.getfield 113, 3) := by decide +kernel
theorem dX7_pace_24 : decode cX7_pace 24 = .ok (.istore_n 2, 1) := by decide +kernel
theorem dX7_pace_25 : decode cX7_pace 25 = .ok (.aload_n 0, 1) := by decide +kernel
theorem dX7_pace_26 : decode cX7_pace 26 = .ok (.getfield 12, 3) := by decide +kernel
theorem dX7_pace_29 : decode cX7_pace 29 = .ok (.iload_n 1, 1) := by decide +kernel
theorem dX7_pace_30 : decode cX7_pace 30 = .ok (.putfield 113, 3) := by decide +kernel
theorem dX7_pace_33 : decode cX7_pace 33 = .ok (.iload_n 2, 1) := by decide +kernel
theorem dX7_pace_34 : decode cX7_pace 34 = .ok (.ireturn, 1) := by decide +kernel
theorem dX7_room_0 : decode cX7_room 0 = .ok (.iload_n 1, 1) := by decide +kernel
theorem dX7_room_1 : decode cX7_room 1 = .ok (.invokestatic 107, 3) := by decide +kernel
theorem dX7_room_4 : decode cX7_room 4 = .ok (.ifCond .ne 10, 3) := by decide +kernel
theorem dX7_room_7 : decode cX7_room 7 = .ok (.aload_n 0, 1) := by decide +kernel
theorem dX7_room_8 : decode cX7_room 8 = .ok (.ldc 67, 2) := by decide +kernel
theorem dX7_room_10 : decode cX7_room 10 = .ok (.invokevirtual 68, 3) := by decide +kernel
theorem dX7_room_13 : decode cX7_room 13 = .ok (.ireturn, 1) := by decide +kernel
theorem dX7_room_14 : decode cX7_room 14 = .ok (.iload_n 2, 1) := by decide +kernel
theorem dX7_room_15 : decode cX7_room 15 = .ok (.tableswitch 66 0 3 #[29, 39, 48, 57], 29) := by decide +kernel
theorem dX7_room_44 : decode cX7_room 44 = .ok (.aload_n 0, 1) := by decide +kernel
theorem dX7_room_45 : decode cX7_room 45 = .ok (.getfield 12, 3) := by decide +kernel
theorem dX7_room_48 : decode cX7_room 48 = .ok (.getfield 110, 3) := by decide +kernel
theorem dX7_room_51 : decode cX7_room 51 = .ok (.iload_n 1, 1) := by decide +kernel
theorem dX7_room_52 : decode cX7_room 52 = .ok (.iaload, 1) := by decide +kernel
theorem dX7_room_53 : decode cX7_room 53 = .ok (.ireturn, 1) := by decide +kernel
theorem dX7_room_54 : decode cX7_room 54 = .ok (.aload_n 0, 1) := by decide +kernel
theorem dX7_room_55 : decode cX7_room 55 = .ok (.getfield 12, 3) := by decide +kernel
theorem dX7_room_58 : decode cX7_room 58 = .ok (.iload_n 1, 1) := by decide +kernel
theorem dX7_room_59 : decode cX7_room 59 = .ok (.invokevirtual 116, 3) := by decide +kernel
theorem dX7_room_62 : decode cX7_room 62 = .ok (.ireturn, 1) := by decide +kernel
theorem dX7_room_63 : decode cX7_room 63 = .ok (.aload_n 0, 1) := by decide +kernel
theorem dX7_room_64 : decode cX7_room 64 = .ok (.getfield 12, 3) := by decide +kernel
theorem dX7_room_67 : decode cX7_room 67 = .ok (.iload_n 1, 1) := by decide +kernel
theorem dX7_room_68 : decode cX7_room 68 = .ok (.invokevirtual 119, 3) := by decide +kernel
theorem dX7_room_71 : decode cX7_room 71 = .ok (.ireturn, 1) := by decide +kernel
theorem dX7_room_72 : decode cX7_room 72 = .ok (.aload_n 0, 1) := by decide +kernel
theorem dX7_room_73 : decode cX7_room 73 = .ok (.getfield 12, 3) := by decide +kernel
theorem dX7_room_76 : decode cX7_room 76 = .ok (.iload_n 1, 1) := by decide +kernel
theorem dX7_room_77 : decode cX7_room 77 = .ok (.invokevirtual 122, 3) := by decide +kernel
theorem dX7_room_80 : decode cX7_room 80 = .ok (.ireturn, 1) := by decide +kernel
theorem dX7_room_81 : decode cX7_room 81 = .ok (.aload_n 0, 1) := by decide +kernel
theorem dX7_room_82 : decode cX7_room 82 = .ok (.ldc 67, 2) := by decide +kernel
theorem dX7_room_84 : decode cX7_room 84 = .ok (.invokevirtual 68, 3) := by decide +kernel
theorem dX7_room_87 : decode cX7_room 87 = .ok (.ireturn, 1) := by decide +kernel
theorem dX7_like_0 : decode cX7_like 0 = .ok (.aload_n 0, 1) := by decide +kernel
theorem dX7_like_1 : decode cX7_like 1 = .ok (.getfield 12, 3) := by decide +kernel
theorem dX7_like_4 : decode cX7_like 4 = .ok (.iload_n 1, 1) := by decide +kernel
theorem dX7_like_5 : decode cX7_like 5 = .ok (.invokevirtual 85, 3) := by decide +kernel
theorem dX7_like_8 : decode cX7_like 8 = .ok (.ifCond .eq 10, 3) := by decide +kernel
theorem dX7_like_11 : decode cX7_like 11 = .ok (.iload_n 2, 1) := by decide +kernel
theorem dX7_like_12 : decode cX7_like 12 = .ok (.invokestatic 98, 3) := by decide +kernel
theorem dX7_like_15 : decode cX7_like 15 = .ok (.ifCond .ne 10, 3) := by decide +kernel
theorem dX7_like_18 : decode cX7_like 18 = .ok (.aload_n 0, 1) := by decide +kernel
theorem dX7_like_19 : decode cX7_like 19 = .ok (.ldc 67, 2) := by decide +kernel
theorem dX7_like_21 : decode cX7_like 21 = .ok (.invokevirtual 68, 3) := by decide +kernel
theorem dX7_like_24 : decode cX7_like 24 = .ok (.ireturn, 1) := by decide +kernel
theorem dX7_like_25 : decode cX7_like 25 = .ok (.aload_n 0, 1) := by decide +kernel
theorem dX7_like_26 : decode cX7_like 26 = .ok (.getfield 12, 3) := by decide +kernel
theorem dX7_like_29 : decode cX7_like 29 = .ok (.iload_n 1, 1) := by decide +kernel
theorem dX7_like_30 : decode cX7_like 30 = .ok (.iload_n 2, 1) := by decide +kernel
theorem dX7_like_31 : decode cX7_like 31 = .ok (.invokevirtual 125, 3) := by decide +kernel
theorem dX7_like_34 : decode cX7_like 34 = .ok (.ireturn, 1) := by decide +kernel
theorem dX7_carries_0 : decode cX7_carries 0 = .ok (.aload_n 0, 1) := by decide +kernel
theorem dX7_carries_1 : decode cX7_carries 1 = .ok (.getfield 12, 3) := by decide +kernel
theorem dX7_carries_4 : decode cX7_carries 4 = .ok (.iload_n 1, 1) := by decide +kernel
theorem dX7_carries_5 : decode cX7_carries 5 = .ok (.invokevirtual 85, 3) := by decide +kernel
theorem dX7_carries_8 : decode cX7_carries 8 = .ok (.ifCond .eq 10, 3) := by decide +kernel
theorem dX7_carries_11 : decode cX7_carries 11 = .ok (.iload_n 2, 1) := by decide +kernel
theorem dX7_carries_12 : decode cX7_carries 12 = .ok (.invokestatic 129, 3) := by decide +kernel
theorem dX7_carries_15 : decode cX7_carries 15 = .ok (.ifCond .ne 10, 3) := by decide +kernel
theorem dX7_carries_18 : decode cX7_carries 18 = .ok (.aload_n 0, 1) := by decide +kernel
theorem dX7_carries_19 : decode cX7_carries 19 = .ok (.ldc 67, 2) := by decide +kernel
theorem dX7_carries_21 : decode cX7_carries 21 = .ok (.invokevirtual 68, 3) := by decide +kernel
theorem dX7_carries_24 : decode cX7_carries 24 = .ok (.ireturn, 1) := by decide +kernel
theorem dX7_carries_25 : decode cX7_carries 25 = .ok (.aload_n 0, 1) := by decide +kernel
theorem dX7_carries_26 : decode cX7_carries 26 = .ok (.getfield 12, 3) := by decide +kernel
theorem dX7_carries_29 : decode cX7_carries 29 = .ok (.getfield 132, 3) := by decide +kernel
theorem dX7_carries_32 : decode cX7_carries 32 = .ok (.iload_n 1, 1) := by decide +kernel
theorem dX7_carries_33 : decode cX7_carries 33 = .ok (.iaload, 1) := by decide +kernel
theorem dX7_carries_34 : decode cX7_carries 34 = .ok (.iload_n 2, 1) := by decide +kernel
theorem dX7_carries_35 : decode cX7_carries 35 = .ok (.if_icmp .ne 10, 3) := by decide +kernel
theorem dX7_carries_38 : decode cX7_carries 38 = .ok (.aload_n 0, 1) := by decide +kernel
theorem dX7_carries_39 : decode cX7_carries 39 = .ok (.ldc 135, 2) := by decide +kernel
theorem dX7_carries_41 : decode cX7_carries 41 = .ok (.invokevirtual 68, 3) := by decide +kernel
theorem dX7_carries_44 : decode cX7_carries 44 = .ok (.ireturn, 1) := by decide +kernel
theorem dX7_carries_45 : decode cX7_carries 45 = .ok (.aload_n 0, 1) := by decide +kernel
theorem dX7_carries_46 : decode cX7_carries 46 = .ok (.getfield 12, 3) := by decide +kernel
theorem dX7_carries_49 : decode cX7_carries 49 = .ok (.iload_n 1, 1) := by decide +kernel
theorem dX7_carries_50 : decode cX7_carries 50 = .ok (.iload_n 2, 1) := by decide +kernel
theorem dX7_carries_51 : decode cX7_carries 51 = .ok (.invokevirtual 136, 3) := by decide +kernel
theorem dX7_carries_54 : decode cX7_carries 54 = .ok (.ireturn, 1) := by decide +kernel
theorem dX7_visitor_0 : decode cX7_visitor 0 = .ok (.aload_n 0, 1) := by decide +kernel
theorem dX7_visitor_1 : decode cX7_visitor 1 = .ok (.getfield 12, 3) := by decide +kernel
theorem dX7_visitor_4 : decode cX7_visitor 4 = .ok (.getfield 139, 3) := by decide +kernel
theorem dX7_visitor_7 : decode cX7_visitor 7 = .ok (.iconst 4, 1) := by decide +kernel
theorem dX7_visitor_8 : decode cX7_visitor 8 = .ok (.if_icmp .lt 10, 3) := by decide +kernel
theorem dX7_visitor_11 : decode cX7_visitor 11 = .ok (.aload_n 0, 1) := by decide +kernel
theorem dX7_visitor_12 : decode cX7_visitor 12 = .ok (.ldc 76, 2) := by decide +kernel
theorem dX7_visitor_14 : decode cX7_visitor 14 = .ok (.invokevirtual 68, 3) := by decide +kernel
theorem dX7_visitor_17 : decode cX7_visitor 17 = .ok (.ireturn, 1) := by decide +kernel
theorem dX7_visitor_18 : decode cX7_visitor 18 = .ok (.aload_n 0, 1) := by decide +kernel
theorem dX7_visitor_19 : decode cX7_visitor 19 = .ok (.getfield 12, 3) := by decide +kernel
theorem dX7_visitor_22 : decode cX7_visitor 22 = .ok (.invokevirtual 142, 3) := by decide +kernel
theorem dX7_visitor_25 : decode cX7_visitor 25 = .ok (.ireturn, 1) := by decide +kernel
theorem dX7_seen_0 : decode cX7_seen 0 = .ok (.aload_n 0, 1) := by decide +kernel
theorem dX7_seen_1 : decode cX7_seen 1 = .ok (.getfield 12, 3) := by decide +kernel
theorem dX7_seen_4 : decode cX7_seen 4 = .ok (.iload_n 1, 1) := by decide +kernel
theorem dX7_seen_5 : decode cX7_seen 5 = .ok (.invokevirtual 146, 3) := by decide +kernel
theorem dX7_seen_8 : decode cX7_seen 8 = .ok (.ifCond .ne 10, 3) := by decide +kernel
theorem dX7_seen_11 : decode cX7_seen 11 = .ok (.aload_n 0, 1) := by decide +kernel
theorem dX7_seen_12 : decode cX7_seen 12 = .ok (.ldc 67, 2) := by decide +kernel
theorem dX7_seen_14 : decode cX7_seen 14 = .ok (.invokevirtual 68, 3) := by decide +kernel
theorem dX7_seen_17 : decode cX7_seen 17 = .ok (.ireturn, 1) := by decide +kernel
theorem dX7_seen_18 : decode cX7_seen 18 = .ok (.iload_n 2, 1) := by decide +kernel
theorem dX7_seen_19 : decode cX7_seen 19 = .ok (.tableswitch 54 0 2 #[25, 34, 44], 25) := by decide +kernel
theorem dX7_seen_44 : decode cX7_seen 44 = .ok (.aload_n 0, 1) := by decide +kernel
theorem dX7_seen_45 : decode cX7_seen 45 = .ok (.getfield 12, 3) := by decide +kernel
theorem dX7_seen_48 : decode cX7_seen 48 = .ok (.iload_n 1, 1) := by decide +kernel
theorem dX7_seen_49 : decode cX7_seen 49 = .ok (.invokevirtual 149, 3) := by decide +kernel
theorem dX7_seen_52 : decode cX7_seen 52 = .ok (.ireturn, 1) := by decide +kernel
theorem dX7_seen_53 : decode cX7_seen 53 = .ok (.aload_n 0, 1) := by decide +kernel
theorem dX7_seen_54 : decode cX7_seen 54 = .ok (.getfield 12, 3) := by decide +kernel
theorem dX7_seen_57 : decode cX7_seen 57 = .ok (.iload_n 1, 1) := by decide +kernel
theorem dX7_seen_58 : decode cX7_seen 58 = .ok (.iconst 1, 1) := by decide +kernel
theorem dX7_seen_59 : decode cX7_seen 59 = .ok (.invokevirtual 152, 3) := by decide +kernel
theorem dX7_seen_62 : decode cX7_seen 62 = .ok (.ireturn, 1) := by decide +kernel
theorem dX7_seen_63 : decode cX7_seen 63 = .ok (.aload_n 0, 1) := by decide +kernel
theorem dX7_seen_64 : decode cX7_seen 64 = .ok (.getfield 12, 3) := by decide +kernel
theorem dX7_seen_67 : decode cX7_seen 67 = .ok (.iload_n 1, 1) := by decide +kernel
theorem dX7_seen_68 : decode cX7_seen 68 = .ok (.iconst 2, 1) := by decide +kernel
theorem dX7_seen_69 : decode cX7_seen 69 = .ok (.invokevirtual 152, 3) := by decide +kernel
theorem dX7_seen_72 : decode cX7_seen 72 = .ok (.ireturn, 1) := by decide +kernel
theorem dX7_seen_73 : decode cX7_seen 73 = .ok (.aload_n 0, 1) := by decide +kernel
theorem dX7_seen_74 : decode cX7_seen 74 = .ok (.ldc 67, 2) := by decide +kernel
theorem dX7_seen_76 : decode cX7_seen 76 = .ok (.invokevirtual 68, 3) := by decide +kernel
theorem dX7_seen_79 : decode cX7_seen 79 = .ok (.ireturn, 1) := by decide +kernel
theorem dX7_move_0 : decode cX7_move 0 = .ok (.aload_n 0, 1) := by decide +kernel
theorem dX7_move_1 : decode cX7_move 1 = .ok (.getfield 12, 3) := by decide +kernel
theorem dX7_move_4 : decode cX7_move 4 = .ok (.iload_n 1, 1) := by decide +kernel
theorem dX7_move_5 : decode cX7_move 5 = .ok (.invokevirtual 85, 3) := by decide +kernel
theorem dX7_move_8 : decode cX7_move 8 = .ok (.ifCond .eq 10, 3) := by decide +kernel
theorem dX7_move_11 : decode cX7_move 11 = .ok (.iload_n 2, 1) := by decide +kernel
theorem dX7_move_12 : decode cX7_move 12 = .ok (.invokestatic 129, 3) := by decide +kernel
theorem dX7_move_15 : decode cX7_move 15 = .ok (.ifCond .ne 10, 3) := by decide +kernel
theorem dX7_move_18 : decode cX7_move 18 = .ok (.aload_n 0, 1) := by decide +kernel
theorem dX7_move_19 : decode cX7_move 19 = .ok (.ldc 67, 2) := by decide +kernel
theorem dX7_move_21 : decode cX7_move 21 = .ok (.invokevirtual 68, 3) := by decide +kernel
theorem dX7_move_24 : decode cX7_move 24 = .ok (.ireturn, 1) := by decide +kernel
theorem dX7_move_25 : decode cX7_move 25 = .ok (.aload_n 0, 1) := by decide +kernel
theorem dX7_move_26 : decode cX7_move 26 = .ok (.getfield 12, 3) := by decide +kernel
theorem dX7_move_29 : decode cX7_move 29 = .ok (.getfield 132, 3) := by decide +kernel
theorem dX7_move_32 : decode cX7_move 32 = .ok (.iload_n 1, 1) := by decide +kernel
theorem dX7_move_33 : decode cX7_move 33 = .ok (.iaload, 1) := by decide +kernel
theorem dX7_move_34 : decode cX7_move 34 = .ok (.iload_n 2, 1) := by decide +kernel
theorem dX7_move_35 : decode cX7_move 35 = .ok (.if_icmp .eq 26, 3) := by decide +kernel
theorem dX7_move_38 : decode cX7_move 38 = .ok (.aload_n 0, 1) := by decide +kernel
theorem dX7_move_39 : decode cX7_move 39 = .ok (.getfield 12, 3) := by decide +kernel
theorem dX7_move_42 : decode cX7_move 42 = .ok (.getfield 155, 3) := by decide +kernel
theorem dX7_move_45 : decode cX7_move 45 = .ok (.aload_n 0, 1) := by decide +kernel
theorem dX7_move_46 : decode cX7_move 46 = .ok (.getfield 12, 3) := by decide +kernel
theorem dX7_move_49 : decode cX7_move 49 = .ok (.iload_n 1, 1) := by decide +kernel
theorem dX7_move_50 : decode cX7_move 50 = .ok (.iload_n 2, 1) := by decide +kernel
theorem dX7_move_51 : decode cX7_move 51 = .ok (.invokevirtual 136, 3) := by decide +kernel
theorem dX7_move_54 : decode cX7_move 54 = .ok (.iadd, 1) := by decide +kernel
theorem dX7_move_55 : decode cX7_move 55 = .ok (.sipush 9999, 3) := by decide +kernel
theorem dX7_move_58 : decode cX7_move 58 = .ok (.if_icmp .le 10, 3) := by decide +kernel
theorem dX7_move_61 : decode cX7_move 61 = .ok (.aload_n 0, 1) := by decide +kernel
theorem dX7_move_62 : decode cX7_move 62 = .ok (.ldc 135, 2) := by decide +kernel
theorem dX7_move_64 : decode cX7_move 64 = .ok (.invokevirtual 68, 3) := by decide +kernel
theorem dX7_move_67 : decode cX7_move 67 = .ok (.ireturn, 1) := by decide +kernel
theorem dX7_move_68 : decode cX7_move 68 = .ok (.aload_n 0, 1) := by decide +kernel
theorem dX7_move_69 : decode cX7_move 69 = .ok (.getfield 12, 3) := by decide +kernel
theorem dX7_move_72 : decode cX7_move 72 = .ok (.iload_n 1, 1) := by decide +kernel
theorem dX7_move_73 : decode cX7_move 73 = .ok (.iload_n 2, 1) := by decide +kernel
theorem dX7_move_74 : decode cX7_move 74 = .ok (.invokevirtual 158, 3) := by decide +kernel
theorem dX7_move_77 : decode cX7_move 77 = .ok (.aload_n 0, 1) := by decide +kernel
theorem dX7_move_78 : decode cX7_move 78 = .ok (.getfield 12, 3) := by decide +kernel
theorem dX7_move_81 : decode cX7_move 81 = .ok (.getfield 155, 3) := by decide +kernel
theorem dX7_move_84 : decode cX7_move 84 = .ok (.ireturn, 1) := by decide +kernel
theorem dX7_waits_0 : decode cX7_waits 0 = .ok (.iload_n 1, 1) := by decide +kernel
theorem dX7_waits_1 : decode cX7_waits 1 = .ok (.iconst 1, 1) := by decide +kernel
theorem dX7_waits_2 : decode cX7_waits 2 = .ok (.bipush 60, 2) := by decide +kernel
theorem dX7_waits_4 : decode cX7_waits 4 = .ok (.invokestatic 94, 3) := by decide +kernel
theorem dX7_waits_7 : decode cX7_waits 7 = .ok (.ifCond .ne 10, 3) := by decide +kernel
theorem dX7_waits_10 : decode cX7_waits 10 = .ok (.aload_n 0, 1) := by decide +kernel
theorem dX7_waits_11 : decode cX7_waits 11 = .ok (.ldc 67, 2) := by decide +kernel
theorem dX7_waits_13 : decode cX7_waits 13 = .ok (.invokevirtual 68, 3) := by decide +kernel
theorem dX7_waits_16 : decode cX7_waits 16 = .ok (.ireturn, 1) := by decide +kernel
theorem dX7_waits_17 : decode cX7_waits 17 = .ok (.aload_n 0, 1) := by decide +kernel
theorem dX7_waits_18 : decode cX7_waits 18 = .ok (.getfield 12, 3) := by decide +kernel
theorem dX7_waits_21 : decode cX7_waits 21 = .ok (.getfield 155, 3) := by decide +kernel
theorem dX7_waits_24 : decode cX7_waits 24 = .ok (.iload_n 1, 1) := by decide +kernel
theorem dX7_waits_25 : decode cX7_waits 25 = .ok (.iadd, 1) := by decide +kernel
theorem dX7_waits_26 : decode cX7_waits 26 = .ok (.sipush 9999, 3) := by decide +kernel
theorem dX7_waits_29 : decode cX7_waits 29 = .ok (.if_icmp .le 10, 3) := by decide +kernel
theorem dX7_waits_32 : decode cX7_waits 32 = .ok (.aload_n 0, 1) := by decide +kernel
theorem dX7_waits_33 : decode cX7_waits 33 = .ok (.ldc 135, 2) := by decide +kernel
theorem dX7_waits_35 : decode cX7_waits 35 = .ok (.invokevirtual 68, 3) := by decide +kernel
theorem dX7_waits_38 : decode cX7_waits 38 = .ok (.ireturn, 1) := by decide +kernel
theorem dX7_waits_39 : decode cX7_waits 39 = .ok (.aload_n 0, 1) := by decide +kernel
theorem dX7_waits_40 : decode cX7_waits 40 = .ok (.getfield 12, 3) := by decide +kernel
theorem dX7_waits_43 : decode cX7_waits 43 = .ok (.iload_n 1, 1) := by decide +kernel
theorem dX7_waits_44 : decode cX7_waits 44 = .ok (.invokevirtual 162, 3) := by decide +kernel
theorem dX7_waits_47 : decode cX7_waits 47 = .ok (.aload_n 0, 1) := by decide +kernel
theorem dX7_waits_48 : decode cX7_waits 48 = .ok (.getfield 12, 3) := by decide +kernel
theorem dX7_waits_51 : decode cX7_waits 51 = .ok (.invokevirtual 166, 3) := by decide +kernel
theorem dX7_waits_54 : decode cX7_waits 54 = .ok (.invokestatic 169, 3) := by decide +kernel
theorem dX7_waits_57 : decode cX7_waits 57 = .ok (.ireturn, 1) := by decide +kernel
theorem dX7_now_0 : decode cX7_now 0 = .ok (.iload_n 1, 1) := by decide +kernel
theorem dX7_now_1 : decode cX7_now 1 = .ok (.tableswitch 88 0 5 #[39, 47, 55, 63, 71, 80], 39) := by decide +kernel
theorem dX7_now_40 : decode cX7_now 40 = .ok (.aload_n 0, 1) := by decide +kernel
theorem dX7_now_41 : decode cX7_now 41 = .ok (.getfield 12, 3) := by decide +kernel
theorem dX7_now_44 : decode cX7_now 44 = .ok (.getfield 155, 3) := by decide +kernel
theorem dX7_now_47 : decode cX7_now 47 = .ok (.ireturn, 1) := by decide +kernel
theorem dX7_now_48 : decode cX7_now 48 = .ok (.aload_n 0, 1) := by decide +kernel
theorem dX7_now_49 : decode cX7_now 49 = .ok (.getfield 12, 3) := by decide +kernel
theorem dX7_now_52 : decode cX7_now 52 = .ok (.getfield 113, 3) := by decide +kernel
theorem dX7_now_55 : decode cX7_now 55 = .ok (.ireturn, 1) := by decide +kernel
theorem dX7_now_56 : decode cX7_now 56 = .ok (.aload_n 0, 1) := by decide +kernel
theorem dX7_now_57 : decode cX7_now 57 = .ok (.getfield 12, 3) := by decide +kernel
theorem dX7_now_60 : decode cX7_now 60 = .ok (.invokevirtual 174, 3) := by decide +kernel
theorem dX7_now_63 : decode cX7_now 63 = .ok (.ireturn, 1) := by decide +kernel
theorem dX7_now_64 : decode cX7_now 64 = .ok (.aload_n 0, 1) := by decide +kernel
theorem dX7_now_65 : decode cX7_now 65 = .ok (.getfield 12, 3) := by decide +kernel
theorem dX7_now_68 : decode cX7_now 68 = .ok (.invokevirtual 177, 3) := by decide +kernel
theorem dX7_now_71 : decode cX7_now 71 = .ok (.ireturn, 1) := by decide +kernel
theorem dX7_now_72 : decode cX7_now 72 = .ok (.aload_n 0, 1) := by decide +kernel
theorem dX7_now_73 : decode cX7_now 73 = .ok (.getfield 12, 3) := by decide +kernel
theorem dX7_now_76 : decode cX7_now 76 = .ok (.iconst (-1), 1) := by decide +kernel
theorem dX7_now_77 : decode cX7_now 77 = .ok (.invokevirtual 116, 3) := by decide +kernel
theorem dX7_now_80 : decode cX7_now 80 = .ok (.ireturn, 1) := by decide +kernel
theorem dX7_now_81 : decode cX7_now 81 = .ok (.aload_n 0, 1) := by decide +kernel
theorem dX7_now_82 : decode cX7_now 82 = .ok (.getfield 12, 3) := by decide +kernel
theorem dX7_now_85 : decode cX7_now 85 = .ok (.invokevirtual 166, 3) := by decide +kernel
theorem dX7_now_88 : decode cX7_now 88 = .ok (.ireturn, 1) := by decide +kernel
theorem dX7_now_89 : decode cX7_now 89 = .ok (.aload_n 0, 1) := by decide +kernel
theorem dX7_now_90 : decode cX7_now 90 = .ok (.ldc 67, 2) := by decide +kernel
theorem dX7_now_92 : decode cX7_now 92 = .ok (.invokevirtual 68, 3) := by decide +kernel
theorem dX7_now_95 : decode cX7_now 95 = .ok (.ireturn, 1) := by decide +kernel
theorem dX7_most_0 : decode cX7_most 0 = .ok (.aload_n 0, 1) := by decide +kernel
theorem dX7_most_1 : decode cX7_most 1 = .ok (.getfield 25, 3) := by decide +kernel
theorem dX7_most_4 : decode cX7_most 4 = .ok (.aload_n 0, 1) := by decide +kernel
theorem dX7_most_5 : decode cX7_most 5 = .ok (.getfield 12, 3) := by decide +kernel
theorem dX7_most_8 : decode cX7_most 8 = .ok (.invokevirtual 180, 3) := by decide +kernel
theorem dX7_most_11 : decode cX7_most 11 = .ok (.ireturn, 1) := by decide +kernel
theorem dX7_given_0 : decode cX7_given 0 = .ok (.iload_n 1, 1) := by decide +kernel
theorem dX7_given_1 : decode cX7_given 1 = .ok (.invokestatic 107, 3) := by decide +kernel
theorem dX7_given_4 : decode cX7_given 4 = .ok (.ifCond .ne 10, 3) := by decide +kernel
theorem dX7_given_7 : decode cX7_given 7 = .ok (.aload_n 0, 1) := by decide +kernel
theorem dX7_given_8 : decode cX7_given 8 = .ok (.ldc 67, 2) := by decide +kernel
theorem dX7_given_10 : decode cX7_given 10 = .ok (.invokevirtual 68, 3) := by decide +kernel
theorem dX7_given_13 : decode cX7_given 13 = .ok (.ireturn, 1) := by decide +kernel
theorem dX7_given_14 : decode cX7_given 14 = .ok (.aload_n 0, 1) := by decide +kernel
theorem dX7_given_15 : decode cX7_given 15 = .ok (.getfield 25, 3) := by decide +kernel
theorem dX7_given_18 : decode cX7_given 18 = .ok (.aload_n 0, 1) := by decide +kernel
theorem dX7_given_19 : decode cX7_given 19 = .ok (.getfield 12, 3) := by decide +kernel
theorem dX7_given_22 : decode cX7_given 22 = .ok (.iload_n 1, 1) := by decide +kernel
theorem dX7_given_23 : decode cX7_given 23 = .ok (.invokevirtual 184, 3) := by decide +kernel
theorem dX7_given_26 : decode cX7_given 26 = .ok (.ireturn, 1) := by decide +kernel
theorem dX7_likest_0 : decode cX7_likest 0 = .ok (.iload_n 1, 1) := by decide +kernel
theorem dX7_likest_1 : decode cX7_likest 1 = .ok (.invokestatic 98, 3) := by decide +kernel
theorem dX7_likest_4 : decode cX7_likest 4 = .ok (.ifCond .ne 10, 3) := by decide +kernel
theorem dX7_likest_7 : decode cX7_likest 7 = .ok (.aload_n 0, 1) := by decide +kernel
theorem dX7_likest_8 : decode cX7_likest 8 = .ok (.ldc 67, 2) := by decide +kernel
theorem dX7_likest_10 : decode cX7_likest 10 = .ok (.invokevirtual 68, 3) := by decide +kernel
theorem dX7_likest_13 : decode cX7_likest 13 = .ok (.ireturn, 1) := by decide +kernel
theorem dX7_likest_14 : decode cX7_likest 14 = .ok (.aload_n 0, 1) := by decide +kernel
theorem dX7_likest_15 : decode cX7_likest 15 = .ok (.getfield 12, 3) := by decide +kernel
theorem dX7_likest_18 : decode cX7_likest 18 = .ok (.getfield 72, 3) := by decide +kernel
theorem dX7_likest_21 : decode cX7_likest 21 = .ok (.ifCond .ne 10, 3) := by decide +kernel
theorem dX7_likest_24 : decode cX7_likest 24 = .ok (.aload_n 0, 1) := by decide +kernel
theorem dX7_likest_25 : decode cX7_likest 25 = .ok (.ldc 188, 2) := by decide +kernel
theorem dX7_likest_27 : decode cX7_likest 27 = .ok (.invokevirtual 68, 3) := by decide +kernel
theorem dX7_likest_30 : decode cX7_likest 30 = .ok (.ireturn, 1) := by decide +kernel
theorem dX7_likest_31 : decode cX7_likest 31 = .ok (.aload_n 0, 1) := by decide +kernel
theorem dX7_likest_32 : decode cX7_likest 32 = .ok (.getfield 12, 3) := by decide +kernel
theorem dX7_likest_35 : decode cX7_likest 35 = .ok (.iload_n 1, 1) := by decide +kernel
theorem dX7_likest_36 : decode cX7_likest 36 = .ok (.invokevirtual 189, 3) := by decide +kernel
theorem dX7_likest_39 : decode cX7_likest 39 = .ok (.ireturn, 1) := by decide +kernel
theorem dX7_whom_0 : decode cX7_whom 0 = .ok (.aload_n 0, 1) := by decide +kernel
theorem dX7_whom_1 : decode cX7_whom 1 = .ok (.getfield 12, 3) := by decide +kernel
theorem dX7_whom_4 : decode cX7_whom 4 = .ok (.iload_n 1, 1) := by decide +kernel
theorem dX7_whom_5 : decode cX7_whom 5 = .ok (.invokevirtual 85, 3) := by decide +kernel
theorem dX7_whom_8 : decode cX7_whom 8 = .ok (.ifCond .ne 10, 3) := by decide +kernel
theorem dX7_whom_11 : decode cX7_whom 11 = .ok (.aload_n 0, 1) := by decide +kernel
theorem dX7_whom_12 : decode cX7_whom 12 = .ok (.ldc 67, 2) := by decide +kernel
theorem dX7_whom_14 : decode cX7_whom 14 = .ok (.invokevirtual 68, 3) := by decide +kernel
theorem dX7_whom_17 : decode cX7_whom 17 = .ok (.ireturn, 1) := by decide +kernel
theorem dX7_whom_18 : decode cX7_whom 18 = .ok (.aload_n 0, 1) := by decide +kernel
theorem dX7_whom_19 : decode cX7_whom 19 = .ok (.getfield 12, 3) := by decide +kernel
theorem dX7_whom_22 : decode cX7_whom 22 = .ok (.iload_n 1, 1) := by decide +kernel
theorem dX7_whom_23 : decode cX7_whom 23 = .ok (.invokevirtual 192, 3) := by decide +kernel
theorem dX7_whom_26 : decode cX7_whom 26 = .ok (.ireturn, 1) := by decide +kernel
theorem dX7_missed_0 : decode cX7_missed 0 = .ok (.aload_n 0, 1) := by decide +kernel
theorem dX7_missed_1 : decode cX7_missed 1 = .ok (.getfield 12, 3) := by decide +kernel
theorem dX7_missed_4 : decode cX7_missed 4 = .ok (.iload_n 1, 1) := by decide +kernel
theorem dX7_missed_5 : decode cX7_missed 5 = .ok (.invokevirtual 85, 3) := by decide +kernel
theorem dX7_missed_8 : decode cX7_missed 8 = .ok (.ifCond .ne 10, 3) := by decide +kernel
theorem dX7_missed_11 : decode cX7_missed 11 = .ok (.aload_n 0, 1) := by decide +kernel
theorem dX7_missed_12 : decode cX7_missed 12 = .ok (.ldc 67, 2) := by decide +kernel
theorem dX7_missed_14 : decode cX7_missed 14 = .ok (.invokevirtual 68, 3) := by decide +kernel
theorem dX7_missed_17 : decode cX7_missed 17 = .ok (.ireturn, 1) := by decide +kernel
theorem dX7_missed_18 : decode cX7_missed 18 = .ok (.aload_n 0, 1) := by decide +kernel
theorem dX7_missed_19 : decode cX7_missed 19 = .ok (.getfield 25, 3) := by decide +kernel
theorem dX7_missed_22 : decode cX7_missed 22 = .ok (.aload_n 0, 1) := by decide +kernel
theorem dX7_missed_23 : decode cX7_missed 23 = .ok (.getfield 12, 3) := by decide +kernel
theorem dX7_missed_26 : decode cX7_missed 26 = .ok (.iload_n 1, 1) := by decide +kernel
theorem dX7_missed_27 : decode cX7_missed 27 = .ok (.invokevirtual 195, 3) := by decide +kernel
theorem dX7_missed_30 : decode cX7_missed 30 = .ok (.ireturn, 1) := by decide +kernel
theorem dX7_recast_0 : decode cX7_recast 0 = .ok (.aload_n 0, 1) := by decide +kernel
theorem dX7_recast_1 : decode cX7_recast 1 = .ok (.getfield 12, 3) := by decide +kernel
theorem dX7_recast_4 : decode cX7_recast 4 = .ok (.iload_n 1, 1) := by decide +kernel
theorem dX7_recast_5 : decode cX7_recast 5 = .ok (.invokevirtual 85, 3) := by decide +kernel
theorem dX7_recast_8 : decode cX7_recast 8 = .ok (.ifCond .ne 10, 3) := by decide +kernel
theorem dX7_recast_11 : decode cX7_recast 11 = .ok (.aload_n 0, 1) := by decide +kernel
theorem dX7_recast_12 : decode cX7_recast 12 = .ok (.ldc 67, 2) := by decide +kernel
theorem dX7_recast_14 : decode cX7_recast 14 = .ok (.invokevirtual 68, 3) := by decide +kernel
theorem dX7_recast_17 : decode cX7_recast 17 = .ok (.ireturn, 1) := by decide +kernel
theorem dX7_recast_18 : decode cX7_recast 18 = .ok (.aload_n 0, 1) := by decide +kernel
theorem dX7_recast_19 : decode cX7_recast 19 = .ok (.getfield 12, 3) := by decide +kernel
theorem dX7_recast_22 : decode cX7_recast 22 = .ok (.iload_n 1, 1) := by decide +kernel
theorem dX7_recast_23 : decode cX7_recast 23 = .ok (.invokevirtual 198, 3) := by decide +kernel
theorem dX7_recast_26 : decode cX7_recast 26 = .ok (.ifCond .ne 10, 3) := by decide +kernel
theorem dX7_recast_29 : decode cX7_recast 29 = .ok (.aload_n 0, 1) := by decide +kernel
theorem dX7_recast_30 : decode cX7_recast 30 = .ok (.ldc 201, 2) := by decide +kernel
theorem dX7_recast_32 : decode cX7_recast 32 = .ok (.invokevirtual 68, 3) := by decide +kernel
theorem dX7_recast_35 : decode cX7_recast 35 = .ok (.ireturn, 1) := by decide +kernel
theorem dX7_recast_36 : decode cX7_recast 36 = .ok (.aload_n 0, 1) := by decide +kernel
theorem dX7_recast_37 : decode cX7_recast 37 = .ok (.getfield 25, 3) := by decide +kernel
theorem dX7_recast_40 : decode cX7_recast 40 = .ok (.aload_n 0, 1) := by decide +kernel
theorem dX7_recast_41 : decode cX7_recast 41 = .ok (.getfield 12, 3) := by decide +kernel
theorem dX7_recast_44 : decode cX7_recast 44 = .ok (.iload_n 1, 1) := by decide +kernel
theorem dX7_recast_45 : decode cX7_recast 45 = .ok (.invokevirtual 202, 3) := by decide +kernel
theorem dX7_recast_48 : decode cX7_recast 48 = .ok (.ireturn, 1) := by decide +kernel
theorem dX7_kindFor_0 : decode cX7_kindFor 0 = .ok (.aload_n 0, 1) := by decide +kernel
theorem dX7_kindFor_1 : decode cX7_kindFor 1 = .ok (.getfield 12, 3) := by decide +kernel
theorem dX7_kindFor_4 : decode cX7_kindFor 4 = .ok (.iload_n 1, 1) := by decide +kernel
theorem dX7_kindFor_5 : decode cX7_kindFor 5 = .ok (.invokevirtual 85, 3) := by decide +kernel
theorem dX7_kindFor_8 : decode cX7_kindFor 8 = .ok (.ifCond .ne 10, 3) := by decide +kernel
theorem dX7_kindFor_11 : decode cX7_kindFor 11 = .ok (.aload_n 0, 1) := by decide +kernel
theorem dX7_kindFor_12 : decode cX7_kindFor 12 = .ok (.ldc 67, 2) := by decide +kernel
theorem dX7_kindFor_14 : decode cX7_kindFor 14 = .ok (.invokevirtual 68, 3) := by decide +kernel
theorem dX7_kindFor_17 : decode cX7_kindFor 17 = .ok (.ireturn, 1) := by decide +kernel
theorem dX7_kindFor_18 : decode cX7_kindFor 18 = .ok (.aload_n 0, 1) := by decide +kernel
theorem dX7_kindFor_19 : decode cX7_kindFor 19 = .ok (.getfield 25, 3) := by decide +kernel
theorem dX7_kindFor_22 : decode cX7_kindFor 22 = .ok (.aload_n 0, 1) := by decide +kernel
theorem dX7_kindFor_23 : decode cX7_kindFor 23 = .ok (.getfield 12, 3) := by decide +kernel
theorem dX7_kindFor_26 : decode cX7_kindFor 26 = .ok (.iload_n 1, 1) := by decide +kernel
theorem dX7_kindFor_27 : decode cX7_kindFor 27 = .ok (.invokevirtual 205, 3) := by decide +kernel
theorem dX7_kindFor_30 : decode cX7_kindFor 30 = .ok (.ireturn, 1) := by decide +kernel
theorem dX7_unseen_0 : decode cX7_unseen 0 = .ok (.aload_n 0, 1) := by decide +kernel
theorem dX7_unseen_1 : decode cX7_unseen 1 = .ok (.getfield 12, 3) := by decide +kernel
theorem dX7_unseen_4 : decode cX7_unseen 4 = .ok (.iload_n 1, 1) := by decide +kernel
theorem dX7_unseen_5 : decode cX7_unseen 5 = .ok (.invokevirtual 85, 3) := by decide +kernel
theorem dX7_unseen_8 : decode cX7_unseen 8 = .ok (.ifCond .eq 10, 3) := by decide +kernel
theorem dX7_unseen_11 : decode cX7_unseen 11 = .ok (.iload_n 2, 1) := by decide +kernel
theorem dX7_unseen_12 : decode cX7_unseen 12 = .ok (.invokestatic 129, 3) := by decide +kernel
theorem dX7_unseen_15 : decode cX7_unseen 15 = .ok (.ifCond .ne 10, 3) := by decide +kernel
theorem dX7_unseen_18 : decode cX7_unseen 18 = .ok (.aload_n 0, 1) := by decide +kernel
theorem dX7_unseen_19 : decode cX7_unseen 19 = .ok (.ldc 67, 2) := by decide +kernel
theorem dX7_unseen_21 : decode cX7_unseen 21 = .ok (.invokevirtual 68, 3) := by decide +kernel
theorem dX7_unseen_24 : decode cX7_unseen 24 = .ok (.ireturn, 1) := by decide +kernel
theorem dX7_unseen_25 : decode cX7_unseen 25 = .ok (.aload_n 0, 1) := by decide +kernel
theorem dX7_unseen_26 : decode cX7_unseen 26 = .ok (.getfield 12, 3) := by decide +kernel
theorem dX7_unseen_29 : decode cX7_unseen 29 = .ok (.getfield 132, 3) := by decide +kernel
theorem dX7_unseen_32 : decode cX7_unseen 32 = .ok (.iload_n 1, 1) := by decide +kernel
theorem dX7_unseen_33 : decode cX7_unseen 33 = .ok (.iaload, 1) := by decide +kernel
theorem dX7_unseen_34 : decode cX7_unseen 34 = .ok (.iload_n 2, 1) := by decide +kernel
theorem dX7_unseen_35 : decode cX7_unseen 35 = .ok (.if_icmp .eq 16, 3) := by decide +kernel
theorem dX7_unseen_38 : decode cX7_unseen 38 = .ok (.aload_n 0, 1) := by decide +kernel
theorem dX7_unseen_39 : decode cX7_unseen 39 = .ok (.getfield 12, 3) := by decide +kernel
theorem dX7_unseen_42 : decode cX7_unseen 42 = .ok (.getfield 155, 3) := by decide +kernel
theorem dX7_unseen_45 : decode cX7_unseen 45 = .ok (.sipush 9000, 3) := by decide +kernel
theorem dX7_unseen_48 : decode cX7_unseen 48 = .ok (.if_icmp .le 10, 3) := by decide +kernel
theorem dX7_unseen_51 : decode cX7_unseen 51 = .ok (.aload_n 0, 1) := by decide +kernel
theorem dX7_unseen_52 : decode cX7_unseen 52 = .ok (.ldc 135, 2) := by decide +kernel
theorem dX7_unseen_54 : decode cX7_unseen 54 = .ok (.invokevirtual 68, 3) := by decide +kernel
theorem dX7_unseen_57 : decode cX7_unseen 57 = .ok (.ireturn, 1) := by decide +kernel
theorem dX7_unseen_58 : decode cX7_unseen 58 = .ok (.iconst 0, 1) := by decide +kernel
theorem dX7_unseen_59 : decode cX7_unseen 59 = .ok (.istore_n 3, 1) := by decide +kernel
theorem dX7_unseen_60 : decode cX7_unseen 60 = .ok (.iload_n 3, 1) := by decide +kernel
theorem dX7_unseen_61 : decode cX7_unseen 61 = .ok (.bipush 60, 2) := by decide +kernel
theorem dX7_unseen_63 : decode cX7_unseen 63 = .ok (.if_icmp .gt 24, 3) := by decide +kernel
theorem dX7_unseen_66 : decode cX7_unseen 66 = .ok (.aload_n 0, 1) := by decide +kernel
theorem dX7_unseen_67 : decode cX7_unseen 67 = .ok (.getfield 12, 3) := by decide +kernel
theorem dX7_unseen_70 : decode cX7_unseen 70 = .ok (.iload_n 1, 1) := by decide +kernel
theorem dX7_unseen_71 : decode cX7_unseen 71 = .ok (.iload_n 2, 1) := by decide +kernel
theorem dX7_unseen_72 : decode cX7_unseen 72 = .ok (.iload_n 3, 1) := by decide +kernel
theorem dX7_unseen_73 : decode cX7_unseen 73 = .ok (.invokevirtual 208, 3) := by decide +kernel
theorem dX7_unseen_76 : decode cX7_unseen 76 = .ok (.ifCond .eq 5, 3) := by decide +kernel
theorem dX7_unseen_79 : decode cX7_unseen 79 = .ok (.iload_n 3, 1) := by decide +kernel
theorem dX7_unseen_80 : decode cX7_unseen 80 = .ok (.ireturn, 1) := by decide +kernel
theorem dX7_unseen_81 : decode cX7_unseen 81 = .ok (.iinc 3 1, 3) := by decide +kernel
theorem dX7_unseen_84 : decode cX7_unseen 84 = .ok (.goto (-24), 3) := by decide +kernel
theorem dX7_unseen_87 : decode cX7_unseen 87 = .ok (.aload_n 0, 1) := by decide +kernel
theorem dX7_unseen_88 : decode cX7_unseen 88 = .ok (.ldc 188, 2) := by decide +kernel
theorem dX7_unseen_90 : decode cX7_unseen 90 = .ok (.invokevirtual 68, 3) := by decide +kernel
theorem dX7_unseen_93 : decode cX7_unseen 93 = .ok (.ireturn, 1) := by decide +kernel
theorem dX7_hidden_0 : decode cX7_hidden 0 = .ok (.iload_n 1, 1) := by decide +kernel
theorem dX7_hidden_1 : decode cX7_hidden 1 = .ok (.invokestatic 129, 3) := by decide +kernel
theorem dX7_hidden_4 : decode cX7_hidden 4 = .ok (.ifCond .ne 10, 3) := by decide +kernel
theorem dX7_hidden_7 : decode cX7_hidden 7 = .ok (.aload_n 0, 1) := by decide +kernel
theorem dX7_hidden_8 : decode cX7_hidden 8 = .ok (.ldc 67, 2) := by decide +kernel
theorem dX7_hidden_10 : decode cX7_hidden 10 = .ok (.invokevirtual 68, 3) := by decide +kernel
theorem dX7_hidden_13 : decode cX7_hidden 13 = .ok (.ireturn, 1) := by decide +kernel
theorem dX7_hidden_14 : decode cX7_hidden 14 = .ok (.aload_n 0, 1) := by decide +kernel
theorem dX7_hidden_15 : decode cX7_hidden 15 = .ok (.getfield 12, 3) := by decide +kernel
theorem dX7_hidden_18 : decode cX7_hidden 18 = .ok (.getfield 155, 3) := by decide +kernel
theorem dX7_hidden_21 : decode cX7_hidden 21 = .ok (.sipush 9000, 3) := by decide +kernel
theorem dX7_hidden_24 : decode cX7_hidden 24 = .ok (.if_icmp .le 10, 3) := by decide +kernel
theorem dX7_hidden_27 : decode cX7_hidden 27 = .ok (.aload_n 0, 1) := by decide +kernel
theorem dX7_hidden_28 : decode cX7_hidden 28 = .ok (.ldc 135, 2) := by decide +kernel
theorem dX7_hidden_30 : decode cX7_hidden 30 = .ok (.invokevirtual 68, 3) := by decide +kernel
theorem dX7_hidden_33 : decode cX7_hidden 33 = .ok (.ireturn, 1) := by decide +kernel
theorem dX7_hidden_34 : decode cX7_hidden 34 = .ok (.iconst 0, 1) := by decide +kernel
theorem dX7_hidden_35 : decode cX7_hidden 35 = .ok (.istore_n 2, 1) := by decide +kernel
theorem dX7_hidden_36 : decode cX7_hidden 36 = .ok (.iconst 0, 1) := by decide +kernel
theorem dX7_hidden_37 : decode cX7_hidden 37 = .ok (.istore_n 3, 1) := by decide +kernel
theorem dX7_hidden_38 : decode cX7_hidden 38 = .ok (.iload_n 3, 1) := by decide +kernel
theorem dX7_hidden_39 : decode cX7_hidden 39 = .ok (.aload_n 0, 1) := by decide +kernel
theorem dX7_hidden_40 : decode cX7_hidden 40 = .ok (.getfield 12, 3) := by decide +kernel
theorem dX7_hidden_43 : decode cX7_hidden 43 = .ok (.getfield 72, 3) := by decide +kernel
theorem dX7_hidden_46 : decode cX7_hidden 46 = .ok (.if_icmp .ge 41, 3) := by decide +kernel
theorem dX7_hidden_49 : decode cX7_hidden 49 = .ok (.aload_n 0, 1) := by decide +kernel
theorem dX7_hidden_50 : decode cX7_hidden 50 = .ok (.getfield 12, 3) := by decide +kernel
theorem dX7_hidden_53 : decode cX7_hidden 53 = .ok (.getfield 132, 3) := by decide +kernel
theorem dX7_hidden_56 : decode cX7_hidden 56 = .ok (.iload_n 3, 1) := by decide +kernel
theorem dX7_hidden_57 : decode cX7_hidden 57 = .ok (.iaload, 1) := by decide +kernel
theorem dX7_hidden_58 : decode cX7_hidden 58 = .ok (.iload_n 1, 1) := by decide +kernel
theorem dX7_hidden_59 : decode cX7_hidden 59 = .ok (.if_icmp .eq 22, 3) := by decide +kernel
theorem dX7_hidden_62 : decode cX7_hidden 62 = .ok (.aload_n 0, 1) := by decide +kernel
theorem dX7_hidden_63 : decode cX7_hidden 63 = .ok (.getfield 12, 3) := by decide +kernel
theorem dX7_hidden_66 : decode cX7_hidden 66 = .ok (.iload_n 3, 1) := by decide +kernel
theorem dX7_hidden_67 : decode cX7_hidden 67 = .ok (.iload_n 1, 1) := by decide +kernel
theorem dX7_hidden_68 : decode cX7_hidden 68 = .ok (.iconst 0, 1) := by decide +kernel
theorem dX7_hidden_69 : decode cX7_hidden 69 = .ok (.invokevirtual 208, 3) := by decide +kernel
theorem dX7_hidden_72 : decode cX7_hidden 72 = .ok (.ifCond .eq 9, 3) := by decide +kernel
theorem dX7_hidden_75 : decode cX7_hidden 75 = .ok (.iload_n 2, 1) := by decide +kernel
theorem dX7_hidden_76 : decode cX7_hidden 76 = .ok (.iconst 1, 1) := by decide +kernel
theorem dX7_hidden_77 : decode cX7_hidden 77 = .ok (.iload_n 3, 1) := by decide +kernel
theorem dX7_hidden_78 : decode cX7_hidden 78 = .ok (.ishl, 1) := by decide +kernel
theorem dX7_hidden_79 : decode cX7_hidden 79 = .ok (.ior, 1) := by decide +kernel
theorem dX7_hidden_80 : decode cX7_hidden 80 = .ok (.istore_n 2, 1) := by decide +kernel
theorem dX7_hidden_81 : decode cX7_hidden 81 = .ok (.iinc 3 1, 3) := by decide +kernel
theorem dX7_hidden_84 : decode cX7_hidden 84 = .ok (.goto (-46), 3) := by decide +kernel
theorem dX7_hidden_87 : decode cX7_hidden 87 = .ok (.iload_n 2, 1) := by decide +kernel
theorem dX7_hidden_88 : decode cX7_hidden 88 = .ok (.ireturn, 1) := by decide +kernel
theorem dX7_empty_0 : decode cX7_empty 0 = .ok (.aload_n 0, 1) := by decide +kernel
theorem dX7_empty_1 : decode cX7_empty 1 = .ok (.getfield 12, 3) := by decide +kernel
theorem dX7_empty_4 : decode cX7_empty 4 = .ok (.invokevirtual 211, 3) := by decide +kernel
theorem dX7_empty_7 : decode cX7_empty 7 = .ok (.ireturn, 1) := by decide +kernel
theorem dX7_worth_0 : decode cX7_worth 0 = .ok (.iload_n 1, 1) := by decide +kernel
theorem dX7_worth_1 : decode cX7_worth 1 = .ok (.iconst 0, 1) := by decide +kernel
theorem dX7_worth_2 : decode cX7_worth 2 = .ok (.sipush 255, 3) := by decide +kernel
theorem dX7_worth_5 : decode cX7_worth 5 = .ok (.invokestatic 94, 3) := by decide +kernel
theorem dX7_worth_8 : decode cX7_worth 8 = .ok (.ifCond .eq 12, 3) := by decide +kernel
theorem dX7_worth_11 : decode cX7_worth 11 = .ok (.iload_n 2, 1) := by decide +kernel
theorem dX7_worth_12 : decode cX7_worth 12 = .ok (.iconst 0, 1) := by decide +kernel
theorem dX7_worth_13 : decode cX7_worth 13 = .ok (.iconst 1, 1) := by decide +kernel
theorem dX7_worth_14 : decode cX7_worth 14 = .ok (.invokestatic 94, 3) := by decide +kernel
theorem dX7_worth_17 : decode cX7_worth 17 = .ok (.ifCond .ne 10, 3) := by decide +kernel
theorem dX7_worth_20 : decode cX7_worth 20 = .ok (.aload_n 0, 1) := by decide +kernel
theorem dX7_worth_21 : decode cX7_worth 21 = .ok (.ldc 67, 2) := by decide +kernel
theorem dX7_worth_23 : decode cX7_worth 23 = .ok (.invokevirtual 68, 3) := by decide +kernel
theorem dX7_worth_26 : decode cX7_worth 26 = .ok (.ireturn, 1) := by decide +kernel
theorem dX7_worth_27 : decode cX7_worth 27 = .ok (.aload_n 0, 1) := by decide +kernel
theorem dX7_worth_28 : decode cX7_worth 28 = .ok (.getfield 12, 3) := by decide +kernel
theorem dX7_worth_31 : decode cX7_worth 31 = .ok (.invokevirtual 214, 3) := by decide +kernel
theorem dX7_worth_34 : decode cX7_worth 34 = .ok (.istore_n 3, 1) := by decide +kernel
theorem dX7_worth_35 : decode cX7_worth 35 = .ok (.iload_n 3, 1) := by decide +kernel
theorem dX7_worth_36 : decode cX7_worth 36 = .ok (.ifCond .ne 10, 3) := by decide +kernel
theorem dX7_worth_39 : decode cX7_worth 39 = .ok (.aload_n 0, 1) := by decide +kernel
theorem dX7_worth_40 : decode cX7_worth 40 = .ok (.ldc 188, 2) := by decide +kernel
theorem dX7_worth_42 : decode cX7_worth 42 = .ok (.invokevirtual 68, 3) := by decide +kernel
theorem dX7_worth_45 : decode cX7_worth 45 = .ok (.ireturn, 1) := by decide +kernel
theorem dX7_worth_46 : decode cX7_worth 46 = .ok (.aload_n 0, 1) := by decide +kernel
theorem dX7_worth_47 : decode cX7_worth 47 = .ok (.getfield 12, 3) := by decide +kernel
theorem dX7_worth_50 : decode cX7_worth 50 = .ok (.iload_n 1, 1) := by decide +kernel
theorem dX7_worth_51 : decode cX7_worth 51 = .ok (.invokevirtual 217, 3) := by decide +kernel
theorem dX7_worth_54 : decode cX7_worth 54 = .ok (.istore 4, 2) := by decide +kernel
theorem dX7_worth_56 : decode cX7_worth 56 = .ok (.iload 4, 2) := by decide +kernel
theorem dX7_worth_58 : decode cX7_worth 58 = .ok (.iload_n 3, 1) := by decide +kernel
theorem dX7_worth_59 : decode cX7_worth 59 = .ok (.invokestatic 220, 3) := by decide +kernel
theorem dX7_worth_62 : decode cX7_worth 62 = .ok (.istore 5, 2) := by decide +kernel
theorem dX7_worth_64 : decode cX7_worth 64 = .ok (.iload_n 2, 1) := by decide +kernel
theorem dX7_worth_65 : decode cX7_worth 65 = .ok (.ifCond .ne 8, 3) := by decide +kernel
theorem dX7_worth_68 : decode cX7_worth 68 = .ok (.iload 4, 2) := by decide +kernel
theorem dX7_worth_70 : decode cX7_worth 70 = .ok (.goto 4, 3) := by decide +kernel
theorem dX7_worth_73 : decode cX7_worth 73 = .ok (.iload_n 3, 1) := by decide +kernel
theorem dX7_worth_74 : decode cX7_worth 74 = .ok (.iload 5, 2) := by decide +kernel
theorem dX7_worth_76 : decode cX7_worth 76 = .ok (.idiv, 1) := by decide +kernel
theorem dX7_worth_77 : decode cX7_worth 77 = .ok (.ireturn, 1) := by decide +kernel
theorem dX7_next_0 : decode cX7_next 0 = .ok (.aload_n 0, 1) := by decide +kernel
theorem dX7_next_1 : decode cX7_next 1 = .ok (.getfield 12, 3) := by decide +kernel
theorem dX7_next_4 : decode cX7_next 4 = .ok (.invokevirtual 214, 3) := by decide +kernel
theorem dX7_next_7 : decode cX7_next 7 = .ok (.ifCond .ne 10, 3) := by decide +kernel
theorem dX7_next_10 : decode cX7_next 10 = .ok (.aload_n 0, 1) := by decide +kernel
theorem dX7_next_11 : decode cX7_next 11 = .ok (.ldc 188, 2) := by decide +kernel
theorem dX7_next_13 : decode cX7_next 13 = .ok (.invokevirtual 68, 3) := by decide +kernel
theorem dX7_next_16 : decode cX7_next 16 = .ok (.ireturn, 1) := by decide +kernel
theorem dX7_next_17 : decode cX7_next 17 = .ok (.iconst 0, 1) := by decide +kernel
theorem dX7_next_18 : decode cX7_next 18 = .ok (.istore_n 1, 1) := by decide +kernel
theorem dX7_next_19 : decode cX7_next 19 = .ok (.iconst (-1), 1) := by decide +kernel
theorem dX7_next_20 : decode cX7_next 20 = .ok (.istore_n 2, 1) := by decide +kernel
theorem dX7_next_21 : decode cX7_next 21 = .ok (.iconst 0, 1) := by decide +kernel
theorem dX7_next_22 : decode cX7_next 22 = .ok (.istore_n 3, 1) := by decide +kernel
theorem dX7_next_23 : decode cX7_next 23 = .ok (.iload_n 3, 1) := by decide +kernel
theorem dX7_next_24 : decode cX7_next 24 = .ok (.sipush 255, 3) := by decide +kernel
theorem dX7_next_27 : decode cX7_next 27 = .ok (.if_icmp .gt 30, 3) := by decide +kernel
theorem dX7_next_30 : decode cX7_next 30 = .ok (.aload_n 0, 1) := by decide +kernel
theorem dX7_next_31 : decode cX7_next 31 = .ok (.getfield 12, 3) := by decide +kernel
theorem dX7_next_34 : decode cX7_next 34 = .ok (.iload_n 3, 1) := by decide +kernel
theorem dX7_next_35 : decode cX7_next 35 = .ok (.invokevirtual 217, 3) := by decide +kernel
theorem dX7_next_38 : decode cX7_next 38 = .ok (.istore 4, 2) := by decide +kernel
theorem dX7_next_40 : decode cX7_next 40 = .ok (.iload 4, 2) := by decide +kernel
theorem dX7_next_42 : decode cX7_next 42 = .ok (.iload_n 2, 1) := by decide +kernel
theorem dX7_next_43 : decode cX7_next 43 = .ok (.if_icmp .le 8, 3) := by decide +kernel
theorem dX7_next_46 : decode cX7_next 46 = .ok (.iload 4, 2) := by decide +kernel
theorem dX7_next_48 : decode cX7_next 48 = .ok (.istore_n 2, 1) := by decide +kernel
theorem dX7_next_49 : decode cX7_next 49 = .ok (.iload_n 3, 1) := by decide +kernel
theorem dX7_next_50 : decode cX7_next 50 = .ok (.istore_n 1, 1) := by decide +kernel
theorem dX7_next_51 : decode cX7_next 51 = .ok (.iinc 3 1, 3) := by decide +kernel
theorem dX7_next_54 : decode cX7_next 54 = .ok (.goto (-31), 3) := by decide +kernel
theorem dX7_next_57 : decode cX7_next 57 = .ok (.iload_n 1, 1) := by decide +kernel
theorem dX7_next_58 : decode cX7_next 58 = .ok (.ireturn, 1) := by decide +kernel
theorem dX7_mould_0 : decode cX7_mould 0 = .ok (.iload_n 1, 1) := by decide +kernel
theorem dX7_mould_1 : decode cX7_mould 1 = .ok (.invokestatic 98, 3) := by decide +kernel
theorem dX7_mould_4 : decode cX7_mould 4 = .ok (.ifCond .ne 10, 3) := by decide +kernel
theorem dX7_mould_7 : decode cX7_mould 7 = .ok (.aload_n 0, 1) := by decide +kernel
theorem dX7_mould_8 : decode cX7_mould 8 = .ok (.ldc 67, 2) := by decide +kernel
theorem dX7_mould_10 : decode cX7_mould 10 = .ok (.invokevirtual 68, 3) := by decide +kernel
theorem dX7_mould_13 : decode cX7_mould 13 = .ok (.ireturn, 1) := by decide +kernel
theorem dX7_mould_14 : decode cX7_mould 14 = .ok (.aload_n 0, 1) := by decide +kernel
theorem dX7_mould_15 : decode cX7_mould 15 = .ok (.getfield 12, 3) := by decide +kernel
theorem dX7_mould_18 : decode cX7_mould 18 = .ok (.getfield 72, 3) := by decide +kernel
theorem dX7_mould_21 : decode cX7_mould 21 = .ok (.ifCond .ne 10, 3) := by decide +kernel
theorem dX7_mould_24 : decode cX7_mould 24 = .ok (.aload_n 0, 1) := by decide +kernel
theorem dX7_mould_25 : decode cX7_mould 25 = .ok (.ldc 188, 2) := by decide +kernel
theorem dX7_mould_27 : decode cX7_mould 27 = .ok (.invokevirtual 68, 3) := by decide +kernel
theorem dX7_mould_30 : decode cX7_mould 30 = .ok (.ireturn, 1) := by decide +kernel
theorem dX7_mould_31 : decode cX7_mould 31 = .ok (.aload_n 0, 1) := by decide +kernel
theorem dX7_mould_32 : decode cX7_mould 32 = .ok (.getfield 12, 3) := by decide +kernel
theorem dX7_mould_35 : decode cX7_mould 35 = .ok (.iload_n 1, 1) := by decide +kernel
theorem dX7_mould_36 : decode cX7_mould 36 = .ok (.invokevirtual 223, 3) := by decide +kernel
theorem dX7_mould_39 : decode cX7_mould 39 = .ok (.ireturn, 1) := by decide +kernel
theorem dX7_cuts_0 : decode cX7_cuts 0 = .ok (.iload_n 1, 1) := by decide +kernel
theorem dX7_cuts_1 : decode cX7_cuts 1 = .ok (.invokestatic 98, 3) := by decide +kernel
theorem dX7_cuts_4 : decode cX7_cuts 4 = .ok (.ifCond .ne 10, 3) := by decide +kernel
theorem dX7_cuts_7 : decode cX7_cuts 7 = .ok (.aload_n 0, 1) := by decide +kernel
theorem dX7_cuts_8 : decode cX7_cuts 8 = .ok (.ldc 67, 2) := by decide +kernel
theorem dX7_cuts_10 : decode cX7_cuts 10 = .ok (.invokevirtual 68, 3) := by decide +kernel
theorem dX7_cuts_13 : decode cX7_cuts 13 = .ok (.ireturn, 1) := by decide +kernel
theorem dX7_cuts_14 : decode cX7_cuts 14 = .ok (.aload_n 0, 1) := by decide +kernel
theorem dX7_cuts_15 : decode cX7_cuts 15 = .ok (.getfield 12, 3) := by decide +kernel
theorem dX7_cuts_18 : decode cX7_cuts 18 = .ok (.getfield 72, 3) := by decide +kernel
theorem dX7_cuts_21 : decode cX7_cuts 21 = .ok (.ifCond .ne 10, 3) := by decide +kernel
theorem dX7_cuts_24 : decode cX7_cuts 24 = .ok (.aload_n 0, 1) := by decide +kernel
theorem dX7_cuts_25 : decode cX7_cuts 25 = .ok (.ldc 188, 2) := by decide +kernel
theorem dX7_cuts_27 : decode cX7_cuts 27 = .ok (.invokevirtual 68, 3) := by decide +kernel
theorem dX7_cuts_30 : decode cX7_cuts 30 = .ok (.ireturn, 1) := by decide +kernel
theorem dX7_cuts_31 : decode cX7_cuts 31 = .ok (.aload_n 0, 1) := by decide +kernel
theorem dX7_cuts_32 : decode cX7_cuts 32 = .ok (.getfield 12, 3) := by decide +kernel
theorem dX7_cuts_35 : decode cX7_cuts 35 = .ok (.aload_n 0, 1) := by decide +kernel
theorem dX7_cuts_36 : decode cX7_cuts 36 = .ok (.getfield 12, 3) := by decide +kernel
theorem dX7_cuts_39 : decode cX7_cuts 39 = .ok (.iload_n 1, 1) := by decide +kernel
theorem dX7_cuts_40 : decode cX7_cuts 40 = .ok (.invokevirtual 223, 3) := by decide +kernel
theorem dX7_cuts_43 : decode cX7_cuts 43 = .ok (.iload_n 1, 1) := by decide +kernel
theorem dX7_cuts_44 : decode cX7_cuts 44 = .ok (.invokevirtual 226, 3) := by decide +kernel
theorem dX7_cuts_47 : decode cX7_cuts 47 = .ok (.ireturn, 1) := by decide +kernel
theorem dX7_fits_0 : decode cX7_fits 0 = .ok (.iload_n 1, 1) := by decide +kernel
theorem dX7_fits_1 : decode cX7_fits 1 = .ok (.invokestatic 229, 3) := by decide +kernel
theorem dX7_fits_4 : decode cX7_fits 4 = .ok (.ifCond .ne 10, 3) := by decide +kernel
theorem dX7_fits_7 : decode cX7_fits 7 = .ok (.aload_n 0, 1) := by decide +kernel
theorem dX7_fits_8 : decode cX7_fits 8 = .ok (.ldc 67, 2) := by decide +kernel
theorem dX7_fits_10 : decode cX7_fits 10 = .ok (.invokevirtual 68, 3) := by decide +kernel
theorem dX7_fits_13 : decode cX7_fits 13 = .ok (.ireturn, 1) := by decide +kernel
theorem dX7_fits_14 : decode cX7_fits 14 = .ok (.aload_n 0, 1) := by decide +kernel
theorem dX7_fits_15 : decode cX7_fits 15 = .ok (.getfield 54, 3) := by decide +kernel
theorem dX7_fits_18 : decode cX7_fits 18 = .ok (.iload_n 1, 1) := by decide +kernel
theorem dX7_fits_19 : decode cX7_fits 19 = .ok (.aaload, 1) := by decide +kernel
theorem dX7_fits_20 : decode cX7_fits 20 = .ok (.invokevirtual 232, 3) := by decide +kernel
theorem dX7_fits_23 : decode cX7_fits 23 = .ok (.ifCond .eq 10, 3) := by decide +kernel
theorem dX7_fits_26 : decode cX7_fits 26 = .ok (.aload_n 0, 1) := by decide +kernel
theorem dX7_fits_27 : decode cX7_fits 27 = .ok (.ldc 236, 2) := by decide +kernel
theorem dX7_fits_29 : decode cX7_fits 29 = .ok (.invokevirtual 68, 3) := by decide +kernel
theorem dX7_fits_32 : decode cX7_fits 32 = .ok (.ireturn, 1) := by decide +kernel
theorem dX7_fits_33 : decode cX7_fits 33 = .ok (.aload_n 0, 1) := by decide +kernel
theorem dX7_fits_34 : decode cX7_fits 34 = .ok (.getfield 32, 3) := by decide +kernel
theorem dX7_fits_37 : decode cX7_fits 37 = .ok (.aload_n 0, 1) := by decide +kernel
theorem dX7_fits_38 : decode cX7_fits 38 = .ok (.getfield 12, 3) := by decide +kernel
theorem dX7_fits_41 : decode cX7_fits 41 = .ok (.aload_n 0, 1) := by decide +kernel
theorem dX7_fits_42 : decode cX7_fits 42 = .ok (.getfield 54, 3) := by decide +kernel
theorem dX7_fits_45 : decode cX7_fits 45 = .ok (.iload_n 1, 1) := by decide +kernel
theorem dX7_fits_46 : decode cX7_fits 46 = .ok (.aaload, 1) := by decide +kernel
theorem dX7_fits_47 : decode cX7_fits 47 = .ok (.invokevirtual 237, 3) := by decide +kernel
theorem dX7_fits_50 : decode cX7_fits 50 = .ok (.ireturn, 1) := by decide +kernel
theorem dX7_maybe_0 : decode cX7_maybe 0 = .ok (.iload_n 1, 1) := by decide +kernel
theorem dX7_maybe_1 : decode cX7_maybe 1 = .ok (.invokestatic 229, 3) := by decide +kernel
theorem dX7_maybe_4 : decode cX7_maybe 4 = .ok (.ifCond .ne 10, 3) := by decide +kernel
theorem dX7_maybe_7 : decode cX7_maybe 7 = .ok (.aload_n 0, 1) := by decide +kernel
theorem dX7_maybe_8 : decode cX7_maybe 8 = .ok (.ldc 67, 2) := by decide +kernel
theorem dX7_maybe_10 : decode cX7_maybe 10 = .ok (.invokevirtual 68, 3) := by decide +kernel
theorem dX7_maybe_13 : decode cX7_maybe 13 = .ok (.ireturn, 1) := by decide +kernel
theorem dX7_maybe_14 : decode cX7_maybe 14 = .ok (.aload_n 0, 1) := by decide +kernel
theorem dX7_maybe_15 : decode cX7_maybe 15 = .ok (.getfield 54, 3) := by decide +kernel
theorem dX7_maybe_18 : decode cX7_maybe 18 = .ok (.iload_n 1, 1) := by decide +kernel
theorem dX7_maybe_19 : decode cX7_maybe 19 = .ok (.aaload, 1) := by decide +kernel
theorem dX7_maybe_20 : decode cX7_maybe 20 = .ok (.invokevirtual 232, 3) := by decide +kernel
theorem dX7_maybe_23 : decode cX7_maybe 23 = .ok (.ifCond .eq 10, 3) := by decide +kernel
theorem dX7_maybe_26 : decode cX7_maybe 26 = .ok (.aload_n 0, 1) := by decide +kernel
theorem dX7_maybe_27 : decode cX7_maybe 27 = .ok (.ldc 236, 2) := by decide +kernel
theorem dX7_maybe_29 : decode cX7_maybe 29 = .ok (.invokevirtual 68, 3) := by decide +kernel
theorem dX7_maybe_32 : decode cX7_maybe 32 = .ok (.ireturn, 1) := by decide +kernel
theorem dX7_maybe_33 : decode cX7_maybe 33 = .ok (.iload_n 2, 1) := by decide +kernel
theorem dX7_maybe_34 : decode cX7_maybe 34 = .ok (.invokestatic 98, 3) := by decide +kernel
theorem dX7_maybe_37 : decode cX7_maybe 37 = .ok (.ifCond .eq 16, 3) := by decide +kernel
theorem dX7_maybe_40 : decode cX7_maybe 40 = .ok (.iload_n 2, 1) := by decide +kernel
theorem dX7_maybe_41 : decode cX7_maybe 41 = .ok (.aload_n 0, 1) := by decide +kernel
theorem dX7_maybe_42 : decode cX7_maybe 42 = .ok (.getfield 54, 3) := by decide +kernel
theorem dX7_maybe_45 : decode cX7_maybe 45 = .ok (.iload_n 1, 1) := by decide +kernel
theorem dX7_maybe_46 : decode cX7_maybe 46 = .ok (.aaload, 1) := by decide +kernel
theorem dX7_maybe_47 : decode cX7_maybe 47 = .ok (.getfield 241, 3) := by decide +kernel
theorem dX7_maybe_50 : decode cX7_maybe 50 = .ok (.if_icmp .lt 10, 3) := by decide +kernel
theorem dX7_maybe_53 : decode cX7_maybe 53 = .ok (.aload_n 0, 1) := by decide +kernel
theorem dX7_maybe_54 : decode cX7_maybe 54 = .ok (.ldc 67, 2) := by decide +kernel
theorem dX7_maybe_56 : decode cX7_maybe 56 = .ok (.invokevirtual 68, 3) := by decide +kernel
theorem dX7_maybe_59 : decode cX7_maybe 59 = .ok (.ireturn, 1) := by decide +kernel
theorem dX7_maybe_60 : decode cX7_maybe 60 = .ok (.aload_n 0, 1) := by decide +kernel
theorem dX7_maybe_61 : decode cX7_maybe 61 = .ok (.getfield 32, 3) := by decide +kernel
theorem dX7_maybe_64 : decode cX7_maybe 64 = .ok (.aload_n 0, 1) := by decide +kernel
theorem dX7_maybe_65 : decode cX7_maybe 65 = .ok (.getfield 12, 3) := by decide +kernel
theorem dX7_maybe_68 : decode cX7_maybe 68 = .ok (.aload_n 0, 1) := by decide +kernel
theorem dX7_maybe_69 : decode cX7_maybe 69 = .ok (.getfield 54, 3) := by decide +kernel
theorem dX7_maybe_72 : decode cX7_maybe 72 = .ok (.iload_n 1, 1) := by decide +kernel
theorem dX7_maybe_73 : decode cX7_maybe 73 = .ok (.aaload, 1) := by decide +kernel
theorem dX7_maybe_74 : decode cX7_maybe 74 = .ok (.iload_n 2, 1) := by decide +kernel
theorem dX7_maybe_75 : decode cX7_maybe 75 = .ok (.invokevirtual 244, 3) := by decide +kernel
theorem dX7_maybe_78 : decode cX7_maybe 78 = .ok (.ireturn, 1) := by decide +kernel
theorem dX7_stand_0 : decode cX7_stand 0 = .ok (.iload_n 1, 1) := by decide +kernel
theorem dX7_stand_1 : decode cX7_stand 1 = .ok (.iconst 0, 1) := by decide +kernel
theorem dX7_stand_2 : decode cX7_stand 2 = .ok (.iconst 1, 1) := by decide +kernel
theorem dX7_stand_3 : decode cX7_stand 3 = .ok (.aload_n 0, 1) := by decide +kernel
theorem dX7_stand_4 : decode cX7_stand 4 = .ok (.getfield 12, 3) := by decide +kernel
theorem dX7_stand_7 : decode cX7_stand 7 = .ok (.getfield 72, 3) := by decide +kernel
theorem dX7_stand_10 : decode cX7_stand 10 = .ok (.ishl, 1) := by decide +kernel
theorem dX7_stand_11 : decode cX7_stand 11 = .ok (.iconst 1, 1) := by decide +kernel
theorem dX7_stand_12 : decode cX7_stand 12 = .ok (.isub, 1) := by decide +kernel
theorem dX7_stand_13 : decode cX7_stand 13 = .ok (.invokestatic 94, 3) := by decide +kernel
theorem dX7_stand_16 : decode cX7_stand 16 = .ok (.ifCond .eq 13, 3) := by decide +kernel
theorem dX7_stand_19 : decode cX7_stand 19 = .ok (.iload_n 2, 1) := by decide +kernel
theorem dX7_stand_20 : decode cX7_stand 20 = .ok (.iconst 0, 1) := by decide +kernel
theorem dX7_stand_21 : decode cX7_stand 21 = .ok (.bipush 99, 2) := by decide +kernel
theorem dX7_stand_23 : decode cX7_stand 23 = .ok (.invokestatic 94, 3) := by decide +kernel
theorem dX7_stand_26 : decode cX7_stand 26 = .ok (.ifCond .ne 10, 3) := by decide +kernel
theorem dX7_stand_29 : decode cX7_stand 29 = .ok (.aload_n 0, 1) := by decide +kernel
theorem dX7_stand_30 : decode cX7_stand 30 = .ok (.ldc 67, 2) := by decide +kernel
theorem dX7_stand_32 : decode cX7_stand 32 = .ok (.invokevirtual 68, 3) := by decide +kernel
theorem dX7_stand_35 : decode cX7_stand 35 = .ok (.ireturn, 1) := by decide +kernel
theorem dX7_stand_36 : decode cX7_stand 36 = .ok (.iconst 0, 1) := by decide +kernel
theorem dX7_stand_37 : decode cX7_stand 37 = .ok (.istore_n 3, 1) := by decide +kernel
theorem dX7_stand_38 : decode cX7_stand 38 = .ok (.iconst 0, 1) := by decide +kernel
theorem dX7_stand_39 : decode cX7_stand 39 = .ok (.istore 4, 2) := by decide +kernel
theorem dX7_stand_41 : decode cX7_stand 41 = .ok (.iload 4, 2) := by decide +kernel
theorem dX7_stand_43 : decode cX7_stand 43 = .ok (.bipush 6, 2) := by decide +kernel
theorem dX7_stand_45 : decode cX7_stand 45 = .ok (.if_icmp .ge 33, 3) := by decide +kernel
theorem dX7_stand_48 : decode cX7_stand 48 = .ok (.aload_n 0, 1) := by decide +kernel
theorem dX7_stand_49 : decode cX7_stand 49 = .ok (.getfield 12, 3) := by decide +kernel
theorem dX7_stand_52 : decode cX7_stand 52 = .ok (.iload 4, 2) := by decide +kernel
theorem dX7_stand_54 : decode cX7_stand 54 = .ok (.iload_n 2, 1) := by decide +kernel
theorem dX7_stand_55 : decode cX7_stand 55 = .ok (.invokevirtual 248, 3) := by decide +kernel
theorem dX7_stand_58 : decode cX7_stand 58 = .ok (.iload_n 1, 1) := by decide +kernel
theorem dX7_stand_59 : decode cX7_stand 59 = .ok (.iconst (-1), 1) := by decide +kernel
theorem dX7_stand_60 : decode cX7_stand 60 = .ok (.ixor, 1) := by decide +kernel
theorem dX7_stand_61 : decode cX7_stand 61 = .ok (.iand, 1) := by decide +kernel
theorem dX7_stand_62 : decode cX7_stand 62 = .ok (.ifCond .eq 10, 3) := by decide +kernel
theorem dX7_stand_65 : decode cX7_stand 65 = .ok (.iload_n 3, 1) := by decide +kernel
theorem dX7_stand_66 : decode cX7_stand 66 = .ok (.iconst 1, 1) := by decide +kernel
theorem dX7_stand_67 : decode cX7_stand 67 = .ok (.iload 4, 2) := by decide +kernel
theorem dX7_stand_69 : decode cX7_stand 69 = .ok (.ishl, 1) := by decide +kernel
theorem dX7_stand_70 : decode cX7_stand 70 = .ok (.ior, 1) := by decide +kernel
theorem dX7_stand_71 : decode cX7_stand 71 = .ok (.istore_n 3, 1) := by decide +kernel
theorem dX7_stand_72 : decode cX7_stand 72 = .ok (.iinc 4 1, 3) := by decide +kernel
theorem dX7_stand_75 : decode cX7_stand 75 = .ok (.goto (-34), 3) := by decide +kernel
theorem dX7_stand_78 : decode cX7_stand 78 = .ok (.iload_n 3, 1) := by decide +kernel
theorem dX7_stand_79 : decode cX7_stand 79 = .ok (.ireturn, 1) := by decide +kernel
theorem dX7_fire_0 : decode cX7_fire 0 = .ok (.iload_n 1, 1) := by decide +kernel
theorem dX7_fire_1 : decode cX7_fire 1 = .ok (.invokestatic 98, 3) := by decide +kernel
theorem dX7_fire_4 : decode cX7_fire 4 = .ok (.ifCond .eq 13, 3) := by decide +kernel
theorem dX7_fire_7 : decode cX7_fire 7 = .ok (.iload_n 2, 1) := by decide +kernel
theorem dX7_fire_8 : decode cX7_fire 8 = .ok (.iconst 0, 1) := by decide +kernel
theorem dX7_fire_9 : decode cX7_fire 9 = .ok (.bipush 99, 2) := by decide +kernel
theorem dX7_fire_11 : decode cX7_fire 11 = .ok (.invokestatic 94, 3) := by decide +kernel
theorem dX7_fire_14 : decode cX7_fire 14 = .ok (.ifCond .ne 10, 3) := by decide +kernel
theorem dX7_fire_17 : decode cX7_fire 17 = .ok (.aload_n 0, 1) := by decide +kernel
theorem dX7_fire_18 : decode cX7_fire 18 = .ok (.ldc 67, 2) := by decide +kernel
theorem dX7_fire_20 : decode cX7_fire 20 = .ok (.invokevirtual 68, 3) := by decide +kernel
theorem dX7_fire_23 : decode cX7_fire 23 = .ok (.ireturn, 1) := by decide +kernel
theorem dX7_fire_24 : decode cX7_fire 24 = .ok (.aload_n 0, 1) := by decide +kernel
theorem dX7_fire_25 : decode cX7_fire 25 = .ok (.getfield 12, 3) := by decide +kernel
theorem dX7_fire_28 : decode cX7_fire 28 = .ok (.iload_n 1, 1) := by decide +kernel
theorem dX7_fire_29 : decode cX7_fire 29 = .ok (.iload_n 2, 1) := by decide +kernel
theorem dX7_fire_30 : decode cX7_fire 30 = .ok (.invokevirtual 248, 3) := by decide +kernel
theorem dX7_fire_33 : decode cX7_fire 33 = .ok (.ireturn, 1) := by decide +kernel
theorem dX7_papers_0 : decode cX7_papers 0 = .ok (.iload_n 1, 1) := by decide +kernel
theorem dX7_papers_1 : decode cX7_papers 1 = .ok (.iconst 1, 1) := by decide +kernel
theorem dX7_papers_2 : decode cX7_papers 2 = .ok (.bipush 12, 2) := by decide +kernel
theorem dX7_papers_4 : decode cX7_papers 4 = .ok (.invokestatic 94, 3) := by decide +kernel
theorem dX7_papers_7 : decode cX7_papers 7 = .ok (.ifCond .ne 10, 3) := by decide +kernel
theorem dX7_papers_10 : decode cX7_papers 10 = .ok (.aload_n 0, 1) := by decide +kernel
theorem dX7_papers_11 : decode cX7_papers 11 = .ok (.ldc 67, 2) := by decide +kernel
theorem dX7_papers_13 : decode cX7_papers 13 = .ok (.invokevirtual 68, 3) := by decide +kernel
theorem dX7_papers_16 : decode cX7_papers 16 = .ok (.ireturn, 1) := by decide +kernel
theorem dX7_papers_17 : decode cX7_papers 17 = .ok (.iconst 0, 1) := by decide +kernel
theorem dX7_papers_18 : decode cX7_papers 18 = .ok (.istore_n 2, 1) := by decide +kernel
theorem dX7_papers_19 : decode cX7_papers 19 = .ok (.iload_n 2, 1) := by decide +kernel
theorem dX7_papers_20 : decode cX7_papers 20 = .ok (.iload_n 1, 1) := by decide +kernel
theorem dX7_papers_21 : decode cX7_papers 21 = .ok (.if_icmp .ge 39, 3) := by decide +kernel
theorem dX7_papers_24 : decode cX7_papers 24 = .ok (.aload_n 0, 1) := by decide +kernel
theorem dX7_papers_25 : decode cX7_papers 25 = .ok (.getfield 12, 3) := by decide +kernel
theorem dX7_papers_28 : decode cX7_papers 28 = .ok (.invokevirtual 251, 3) := by decide +kernel
theorem dX7_papers_31 : decode cX7_papers 31 = .ok (.bipush 6, 2) := by decide +kernel
theorem dX7_papers_33 : decode cX7_papers 33 = .ok (.irem, 1) := by decide +kernel
theorem dX7_papers_34 : decode cX7_papers 34 = .ok (.istore_n 3, 1) := by decide +kernel
theorem dX7_papers_35 : decode cX7_papers 35 = .ok (.aload_n 0, 1) := by decide +kernel
theorem dX7_papers_36 : decode cX7_papers 36 = .ok (.getfield 12, 3) := by decide +kernel
theorem dX7_papers_39 : decode cX7_papers 39 = .ok (.getfield 110, 3) := by decide +kernel
theorem dX7_papers_42 : decode cX7_papers 42 = .ok (.iload_n 3, 1) := by decide +kernel
theorem dX7_papers_43 : decode cX7_papers 43 = .ok (.aload_n 0, 1) := by decide +kernel
theorem dX7_papers_44 : decode cX7_papers 44 = .ok (.getfield 12, 3) := by decide +kernel
theorem dX7_papers_47 : decode cX7_papers 47 = .ok (.invokevirtual 251, 3) := by decide +kernel
theorem dX7_papers_50 : decode cX7_papers 50 = .ok (.bipush 6, 2) := by decide +kernel
theorem dX7_papers_52 : decode cX7_papers 52 = .ok (.irem, 1) := by decide +kernel
theorem dX7_papers_53 : decode cX7_papers 53 = .ok (.iastore, 1) := by decide +kernel
theorem dX7_papers_54 : decode cX7_papers 54 = .ok (.iinc 2 1, 3) := by decide +kernel
theorem dX7_papers_57 : decode cX7_papers 57 = .ok (.goto (-38), 3) := by decide +kernel
theorem dX7_papers_60 : decode cX7_papers 60 = .ok (.aload_n 0, 1) := by decide +kernel
theorem dX7_papers_61 : decode cX7_papers 61 = .ok (.getfield 25, 3) := by decide +kernel
theorem dX7_papers_64 : decode cX7_papers 64 = .ok (.aload_n 0, 1) := by decide +kernel
theorem dX7_papers_65 : decode cX7_papers 65 = .ok (.getfield 12, 3) := by decide +kernel
theorem dX7_papers_68 : decode cX7_papers 68 = .ok (.invokevirtual 180, 3) := by decide +kernel
theorem dX7_papers_71 : decode cX7_papers 71 = .ok (.ireturn, 1) := by decide +kernel
theorem dX7_seed_0 : decode cX7_seed 0 = .ok (.aload_n 0, 1) := by decide +kernel
theorem dX7_seed_1 : decode cX7_seed 1 = .ok (.getfield 12, 3) := by decide +kernel
theorem dX7_seed_4 : decode cX7_seed 4 = .ok (.getfield 254, 3) := by decide +kernel
theorem dX7_seed_7 : decode cX7_seed 7 = .ok (.istore_n 2, 1) := by decide +kernel
theorem dX7_seed_8 : decode cX7_seed 8 = .ok (.aload_n 0, 1) := by decide +kernel
theorem dX7_seed_9 : decode cX7_seed 9 = .ok (.getfield 12, 3) := by decide +kernel
theorem dX7_seed_12 : decode cX7_seed 12 = .ok (.iload_n 1, 1) := by decide +kernel
theorem dX7_seed_13 : decode cX7_seed 13 = .ok (.putfield 254, 3) := by decide +kernel
theorem dX7_seed_16 : decode cX7_seed 16 = .ok (.iload_n 2, 1) := by decide +kernel
theorem dX7_seed_17 : decode cX7_seed 17 = .ok (.ireturn, 1) := by decide +kernel
theorem dX7_feed_0 : decode cX7_feed 0 = .ok (.iload_n 2, 1) := by decide +kernel
theorem dX7_feed_1 : decode cX7_feed 1 = .ok (.iconst 1, 1) := by decide +kernel
theorem dX7_feed_2 : decode cX7_feed 2 = .ok (.iconst 4, 1) := by decide +kernel
theorem dX7_feed_3 : decode cX7_feed 3 = .ok (.invokestatic 94, 3) := by decide +kernel
theorem dX7_feed_6 : decode cX7_feed 6 = .ok (.ifCond .ne 10, 3) := by decide +kernel
theorem dX7_feed_9 : decode cX7_feed 9 = .ok (.aload_n 0, 1) := by decide +kernel
theorem dX7_feed_10 : decode cX7_feed 10 = .ok (.ldc 67, 2) := by decide +kernel
theorem dX7_feed_12 : decode cX7_feed 12 = .ok (.invokevirtual 68, 3) := by decide +kernel
theorem dX7_feed_15 : decode cX7_feed 15 = .ok (.ireturn, 1) := by decide +kernel
theorem dX7_feed_16 : decode cX7_feed 16 = .ok (.aload_n 0, 1) := by decide +kernel
theorem dX7_feed_17 : decode cX7_feed 17 = .ok (.getfield 39, 3) := by decide +kernel
theorem dX7_feed_20 : decode cX7_feed 20 = .ok (.getfield 257, 3) := by decide +kernel
theorem dX7_feed_23 : decode cX7_feed 23 = .ok (.iload_n 2, 1) := by decide +kernel
theorem dX7_feed_24 : decode cX7_feed 24 = .ok (.iadd, 1) := by decide +kernel
theorem dX7_feed_25 : decode cX7_feed 25 = .ok (.bipush 120, 2) := by decide +kernel
theorem dX7_feed_27 : decode cX7_feed 27 = .ok (.if_icmp .le 10, 3) := by decide +kernel
theorem dX7_feed_30 : decode cX7_feed 30 = .ok (.aload_n 0, 1) := by decide +kernel
theorem dX7_feed_31 : decode cX7_feed 31 = .ok (.ldc 76, 2) := by decide +kernel
theorem dX7_feed_33 : decode cX7_feed 33 = .ok (.invokevirtual 68, 3) := by decide +kernel
theorem dX7_feed_36 : decode cX7_feed 36 = .ok (.ireturn, 1) := by decide +kernel
theorem dX7_feed_37 : decode cX7_feed 37 = .ok (.iload_n 2, 1) := by decide +kernel
theorem dX7_feed_38 : decode cX7_feed 38 = .ok (.iconst 1, 1) := by decide +kernel
theorem dX7_feed_39 : decode cX7_feed 39 = .ok (.isub, 1) := by decide +kernel
theorem dX7_feed_40 : decode cX7_feed 40 = .ok (.istore_n 3, 1) := by decide +kernel
theorem dX7_feed_41 : decode cX7_feed 41 = .ok (.iload_n 3, 1) := by decide +kernel
theorem dX7_feed_42 : decode cX7_feed 42 = .ok (.ifCond .lt 23, 3) := by decide +kernel
theorem dX7_feed_45 : decode cX7_feed 45 = .ok (.aload_n 0, 1) := by decide +kernel
theorem dX7_feed_46 : decode cX7_feed 46 = .ok (.getfield 39, 3) := by decide +kernel
theorem dX7_feed_49 : decode cX7_feed 49 = .ok (.iload_n 1, 1) := by decide +kernel
theorem dX7_feed_50 : decode cX7_feed 50 = .ok (.bipush 8, 2) := by decide +kernel
theorem dX7_feed_52 : decode cX7_feed 52 = .ok (.iload_n 3, 1) := by decide +kernel
theorem dX7_feed_53 : decode cX7_feed 53 = .ok (.imul, 1) := by decide +kernel
theorem dX7_feed_54 : decode cX7_feed 54 = .ok (.ishr, 1) := by decide +kernel
theorem dX7_feed_55 : decode cX7_feed 55 = .ok (.i2b, 1) := by decide +kernel
theorem dX7_feed_56 : decode cX7_feed 56 = .ok (.invokevirtual 260, 3) := by decide +kernel
theorem dX7_feed_59 : decode cX7_feed 59 = .ok (.iinc 3 (-1), 3) := by decide +kernel
theorem dX7_feed_62 : decode cX7_feed 62 = .ok (.goto (-21), 3) := by decide +kernel
theorem dX7_feed_65 : decode cX7_feed 65 = .ok (.aload_n 0, 1) := by decide +kernel
theorem dX7_feed_66 : decode cX7_feed 66 = .ok (.getfield 39, 3) := by decide +kernel
theorem dX7_feed_69 : decode cX7_feed 69 = .ok (.getfield 257, 3) := by decide +kernel
theorem dX7_feed_72 : decode cX7_feed 72 = .ok (.ireturn, 1) := by decide +kernel
theorem dX7_wipe_0 : decode cX7_wipe 0 = .ok (.aload_n 0, 1) := by decide +kernel
theorem dX7_wipe_1 : decode cX7_wipe 1 = .ok (.getfield 39, 3) := by decide +kernel
theorem dX7_wipe_4 : decode cX7_wipe 4 = .ok (.getfield 257, 3) := by decide +kernel
theorem dX7_wipe_7 : decode cX7_wipe 7 = .ok (.istore_n 1, 1) := by decide +kernel
theorem dX7_wipe_8 : decode cX7_wipe 8 = .ok (.aload_n 0, 1) := by decide +kernel
theorem dX7_wipe_9 : decode cX7_wipe 9 = .ok (.getfield 39, 3) := by decide +kernel
theorem dX7_wipe_12 : decode cX7_wipe 12 = .ok (.iconst 0, 1) := by decide +kernel
theorem dX7_wipe_13 : decode cX7_wipe 13 = .ok (.putfield 257, 3) := by decide +kernel
theorem dX7_wipe_16 : decode cX7_wipe 16 = .ok (.iload_n 1, 1) := by decide +kernel
theorem dX7_wipe_17 : decode cX7_wipe 17 = .ok (.ireturn, 1) := by decide +kernel
theorem dX7_text_0 : decode cX7_text 0 = .ok (.aload_n 0, 1) := by decide +kernel
theorem dX7_text_1 : decode cX7_text 1 = .ok (.getfield 19, 3) := by decide +kernel
theorem dX7_text_4 : decode cX7_text 4 = .ok (.aload_n 0, 1) := by decide +kernel
theorem dX7_text_5 : decode cX7_text 5 = .ok (.getfield 12, 3) := by decide +kernel
theorem dX7_text_8 : decode cX7_text 8 = .ok (.invokevirtual 264, 3) := by decide +kernel
theorem dX7_text_11 : decode cX7_text 11 = .ok (.aload_n 0, 1) := by decide +kernel
theorem dX7_text_12 : decode cX7_text 12 = .ok (.getfield 48, 3) := by decide +kernel
theorem dX7_text_15 : decode cX7_text 15 = .ok (.invokevirtual 268, 3) := by decide +kernel
theorem dX7_text_18 : decode cX7_text 18 = .ok (.istore_n 1, 1) := by decide +kernel
theorem dX7_text_19 : decode cX7_text 19 = .ok (.iload_n 1, 1) := by decide +kernel
theorem dX7_text_20 : decode cX7_text 20 = .ok (.ifCond .lt 14, 3) := by decide +kernel
theorem dX7_text_23 : decode cX7_text 23 = .ok (.aload_n 0, 1) := by decide +kernel
theorem dX7_text_24 : decode cX7_text 24 = .ok (.getfield 12, 3) := by decide +kernel
theorem dX7_text_27 : decode cX7_text 27 = .ok (.aload_n 0, 1) := by decide +kernel
theorem dX7_text_28 : decode cX7_text 28 = .ok (.getfield 19, 3) := by decide +kernel
theorem dX7_text_31 : decode cX7_text 31 = .ok (.invokevirtual 264, 3) := by decide +kernel
theorem dX7_text_34 : decode cX7_text 34 = .ok (.aload_n 0, 1) := by decide +kernel
theorem dX7_text_35 : decode cX7_text 35 = .ok (.getfield 39, 3) := by decide +kernel
theorem dX7_text_38 : decode cX7_text 38 = .ok (.iconst 0, 1) := by decide +kernel
theorem dX7_text_39 : decode cX7_text 39 = .ok (.putfield 257, 3) := by decide +kernel
theorem dX7_text_42 : decode cX7_text 42 = .ok (.iload_n 1, 1) := by decide +kernel
theorem dX7_text_43 : decode cX7_text 43 = .ok (.ireturn, 1) := by decide +kernel
theorem dX7_hold_0 : decode cX7_hold 0 = .ok (.iload_n 1, 1) := by decide +kernel
theorem dX7_hold_1 : decode cX7_hold 1 = .ok (.invokestatic 271, 3) := by decide +kernel
theorem dX7_hold_4 : decode cX7_hold 4 = .ok (.ifCond .eq 19, 3) := by decide +kernel
theorem dX7_hold_7 : decode cX7_hold 7 = .ok (.aload_n 0, 1) := by decide +kernel
theorem dX7_hold_8 : decode cX7_hold 8 = .ok (.getfield 12, 3) := by decide +kernel
theorem dX7_hold_11 : decode cX7_hold 11 = .ok (.iload_n 2, 1) := by decide +kernel
theorem dX7_hold_12 : decode cX7_hold 12 = .ok (.invokevirtual 85, 3) := by decide +kernel
theorem dX7_hold_15 : decode cX7_hold 15 = .ok (.ifCond .ne 15, 3) := by decide +kernel
theorem dX7_hold_18 : decode cX7_hold 18 = .ok (.iload_n 2, 1) := by decide +kernel
theorem dX7_hold_19 : decode cX7_hold 19 = .ok (.iconst (-1), 1) := by decide +kernel
theorem dX7_hold_20 : decode cX7_hold 20 = .ok (.if_icmp .eq 10, 3) := by decide +kernel
theorem dX7_hold_23 : decode cX7_hold 23 = .ok (.aload_n 0, 1) := by decide +kernel
theorem dX7_hold_24 : decode cX7_hold 24 = .ok (.ldc 67, 2) := by decide +kernel
theorem dX7_hold_26 : decode cX7_hold 26 = .ok (.invokevirtual 68, 3) := by decide +kernel
theorem dX7_hold_29 : decode cX7_hold 29 = .ok (.ireturn, 1) := by decide +kernel
theorem dX7_hold_30 : decode cX7_hold 30 = .ok (.aload_n 0, 1) := by decide +kernel
theorem dX7_hold_31 : decode cX7_hold 31 = .ok (.getfield 12, 3) := by decide +kernel
theorem dX7_hold_34 : decode cX7_hold 34 = .ok (.getfield 274, 3) := by decide +kernel
theorem dX7_hold_37 : decode cX7_hold 37 = .ok (.iload_n 1, 1) := by decide +kernel
theorem dX7_hold_38 : decode cX7_hold 38 = .ok (.iload_n 2, 1) := by decide +kernel
theorem dX7_hold_39 : decode cX7_hold 39 = .ok (.iastore, 1) := by decide +kernel
theorem dX7_hold_40 : decode cX7_hold 40 = .ok (.iconst 1, 1) := by decide +kernel
theorem dX7_hold_41 : decode cX7_hold 41 = .ok (.ireturn, 1) := by decide +kernel
theorem dX7_as_0 : decode cX7_as 0 = .ok (.iload_n 1, 1) := by decide +kernel
theorem dX7_as_1 : decode cX7_as 1 = .ok (.invokestatic 271, 3) := by decide +kernel
theorem dX7_as_4 : decode cX7_as 4 = .ok (.ifCond .eq 10, 3) := by decide +kernel
theorem dX7_as_7 : decode cX7_as 7 = .ok (.iload_n 2, 1) := by decide +kernel
theorem dX7_as_8 : decode cX7_as 8 = .ok (.invokestatic 63, 3) := by decide +kernel
theorem dX7_as_11 : decode cX7_as 11 = .ok (.ifCond .ne 10, 3) := by decide +kernel
theorem dX7_as_14 : decode cX7_as 14 = .ok (.aload_n 0, 1) := by decide +kernel
theorem dX7_as_15 : decode cX7_as 15 = .ok (.ldc 67, 2) := by decide +kernel
theorem dX7_as_17 : decode cX7_as 17 = .ok (.invokevirtual 68, 3) := by decide +kernel
theorem dX7_as_20 : decode cX7_as 20 = .ok (.ireturn, 1) := by decide +kernel
theorem dX7_as_21 : decode cX7_as 21 = .ok (.aload_n 0, 1) := by decide +kernel
theorem dX7_as_22 : decode cX7_as 22 = .ok (.getfield 12, 3) := by decide +kernel
theorem dX7_as_25 : decode cX7_as 25 = .ok (.getfield 274, 3) := by decide +kernel
theorem dX7_as_28 : decode cX7_as 28 = .ok (.iload_n 1, 1) := by decide +kernel
theorem dX7_as_29 : decode cX7_as 29 = .ok (.iaload, 1) := by decide +kernel
theorem dX7_as_30 : decode cX7_as 30 = .ok (.istore_n 3, 1) := by decide +kernel
theorem dX7_as_31 : decode cX7_as 31 = .ok (.aload_n 0, 1) := by decide +kernel
theorem dX7_as_32 : decode cX7_as 32 = .ok (.getfield 12, 3) := by decide +kernel
theorem dX7_as_35 : decode cX7_as 35 = .ok (.iload_n 3, 1) := by decide +kernel
theorem dX7_as_36 : decode cX7_as 36 = .ok (.invokevirtual 85, 3) := by decide +kernel
theorem dX7_as_39 : decode cX7_as 39 = .ok (.ifCond .ne 10, 3) := by decide +kernel
theorem dX7_as_42 : decode cX7_as 42 = .ok (.aload_n 0, 1) := by decide +kernel
theorem dX7_as_43 : decode cX7_as 43 = .ok (.ldc 236, 2) := by decide +kernel
theorem dX7_as_45 : decode cX7_as 45 = .ok (.invokevirtual 68, 3) := by decide +kernel
theorem dX7_as_48 : decode cX7_as 48 = .ok (.ireturn, 1) := by decide +kernel
theorem dX7_as_49 : decode cX7_as 49 = .ok (.aload_n 0, 1) := by decide +kernel
theorem dX7_as_50 : decode cX7_as 50 = .ok (.getfield 12, 3) := by decide +kernel
theorem dX7_as_53 : decode cX7_as 53 = .ok (.getfield 277, 3) := by decide +kernel
theorem dX7_as_56 : decode cX7_as 56 = .ok (.iload_n 3, 1) := by decide +kernel
theorem dX7_as_57 : decode cX7_as 57 = .ok (.iaload, 1) := by decide +kernel
theorem dX7_as_58 : decode cX7_as 58 = .ok (.iload_n 2, 1) := by decide +kernel
theorem dX7_as_59 : decode cX7_as 59 = .ok (.invokestatic 280, 3) := by decide +kernel
theorem dX7_as_62 : decode cX7_as 62 = .ok (.ifCond .ne 10, 3) := by decide +kernel
theorem dX7_as_65 : decode cX7_as 65 = .ok (.aload_n 0, 1) := by decide +kernel
theorem dX7_as_66 : decode cX7_as 66 = .ok (.ldc 201, 2) := by decide +kernel
theorem dX7_as_68 : decode cX7_as 68 = .ok (.invokevirtual 68, 3) := by decide +kernel
theorem dX7_as_71 : decode cX7_as 71 = .ok (.ireturn, 1) := by decide +kernel
theorem dX7_as_72 : decode cX7_as 72 = .ok (.iload_n 3, 1) := by decide +kernel
theorem dX7_as_73 : decode cX7_as 73 = .ok (.ireturn, 1) := by decide +kernel
theorem dX7_sheet_0 : decode cX7_sheet 0 = .ok (.iload_n 1, 1) := by decide +kernel
theorem dX7_sheet_1 : decode cX7_sheet 1 = .ok (.invokestatic 229, 3) := by decide +kernel
theorem dX7_sheet_4 : decode cX7_sheet 4 = .ok (.ifCond .eq 25, 3) := by decide +kernel
theorem dX7_sheet_7 : decode cX7_sheet 7 = .ok (.iload_n 2, 1) := by decide +kernel
theorem dX7_sheet_8 : decode cX7_sheet 8 = .ok (.ifCond .eq 28, 3) := by decide +kernel
theorem dX7_sheet_11 : decode cX7_sheet 11 = .ok (.iload_n 2, 1) := by decide +kernel
theorem dX7_sheet_12 : decode cX7_sheet 12 = .ok (.bipush 8, 2) := by decide +kernel
theorem dX7_sheet_14 : decode cX7_sheet 14 = .ok (.if_icmp .eq 22, 3) := by decide +kernel
theorem dX7_sheet_17 : decode cX7_sheet 17 = .ok (.iload_n 2, 1) := by decide +kernel
theorem dX7_sheet_18 : decode cX7_sheet 18 = .ok (.bipush 16, 2) := by decide +kernel
theorem dX7_sheet_20 : decode cX7_sheet 20 = .ok (.if_icmp .eq 16, 3) := by decide +kernel
theorem dX7_sheet_23 : decode cX7_sheet 23 = .ok (.iload_n 2, 1) := by decide +kernel
theorem dX7_sheet_24 : decode cX7_sheet 24 = .ok (.bipush 32, 2) := by decide +kernel
theorem dX7_sheet_26 : decode cX7_sheet 26 = .ok (.if_icmp .eq 10, 3) := by decide +kernel
theorem dX7_sheet_29 : decode cX7_sheet 29 = .ok (.aload_n 0, 1) := by decide +kernel
theorem dX7_sheet_30 : decode cX7_sheet 30 = .ok (.ldc 67, 2) := by decide +kernel
theorem dX7_sheet_32 : decode cX7_sheet 32 = .ok (.invokevirtual 68, 3) := by decide +kernel
theorem dX7_sheet_35 : decode cX7_sheet 35 = .ok (.ireturn, 1) := by decide +kernel
theorem dX7_sheet_36 : decode cX7_sheet 36 = .ok (.iload_n 3, 1) := by decide +kernel
theorem dX7_sheet_37 : decode cX7_sheet 37 = .ok (.ifCond .ge 11, 3) := by decide +kernel
theorem dX7_sheet_40 : decode cX7_sheet 40 = .ok (.aload_n 0, 1) := by decide +kernel
theorem dX7_sheet_41 : decode cX7_sheet 41 = .ok (.ldc_w 286, 3) := by decide +kernel
theorem dX7_sheet_44 : decode cX7_sheet 44 = .ok (.invokevirtual 68, 3) := by decide +kernel
theorem dX7_sheet_47 : decode cX7_sheet 47 = .ok (.ireturn, 1) := by decide +kernel
theorem dX7_sheet_48 : decode cX7_sheet 48 = .ok (.iload_n 3, 1) := by decide +kernel
theorem dX7_sheet_49 : decode cX7_sheet 49 = .ok (.bipush 40, 2) := by decide +kernel
theorem dX7_sheet_51 : decode cX7_sheet 51 = .ok (.if_icmp .le 10, 3) := by decide +kernel
theorem dX7_sheet_54 : decode cX7_sheet 54 = .ok (.aload_n 0, 1) := by decide +kernel
theorem dX7_sheet_55 : decode cX7_sheet 55 = .ok (.ldc 67, 2) := by decide +kernel
theorem dX7_sheet_57 : decode cX7_sheet 57 = .ok (.invokevirtual 68, 3) := by decide +kernel
theorem dX7_sheet_60 : decode cX7_sheet 60 = .ok (.ireturn, 1) := by decide +kernel
theorem dX7_sheet_61 : decode cX7_sheet 61 = .ok (.aload_n 0, 1) := by decide +kernel
theorem dX7_sheet_62 : decode cX7_sheet 62 = .ok (.getfield 54, 3) := by decide +kernel
theorem dX7_sheet_65 : decode cX7_sheet 65 = .ok (.iload_n 1, 1) := by decide +kernel
theorem dX7_sheet_66 : decode cX7_sheet 66 = .ok (.aaload, 1) := by decide +kernel
theorem dX7_sheet_67 : decode cX7_sheet 67 = .ok (.iload_n 2, 1) := by decide +kernel
theorem dX7_sheet_68 : decode cX7_sheet 68 = .ok (.iload_n 3, 1) := by decide +kernel
theorem dX7_sheet_69 : decode cX7_sheet 69 = .ok (.invokevirtual 287, 3) := by decide +kernel
theorem dX7_sheet_72 : decode cX7_sheet 72 = .ok (.aload_n 0, 1) := by decide +kernel
theorem dX7_sheet_73 : decode cX7_sheet 73 = .ok (.getfield 54, 3) := by decide +kernel
theorem dX7_sheet_76 : decode cX7_sheet 76 = .ok (.iload_n 1, 1) := by decide +kernel
theorem dX7_sheet_77 : decode cX7_sheet 77 = .ok (.aaload, 1) := by decide +kernel
theorem dX7_sheet_78 : decode cX7_sheet 78 = .ok (.getfield 241, 3) := by decide +kernel
theorem dX7_sheet_81 : decode cX7_sheet 81 = .ok (.ireturn, 1) := by decide +kernel
theorem dX7_write_0 : decode cX7_write 0 = .ok (.iload_n 1, 1) := by decide +kernel
theorem dX7_write_1 : decode cX7_write 1 = .ok (.invokestatic 229, 3) := by decide +kernel
theorem dX7_write_4 : decode cX7_write 4 = .ok (.ifCond .ne 10, 3) := by decide +kernel
theorem dX7_write_7 : decode cX7_write 7 = .ok (.aload_n 0, 1) := by decide +kernel
theorem dX7_write_8 : decode cX7_write 8 = .ok (.ldc 67, 2) := by decide +kernel
theorem dX7_write_10 : decode cX7_write 10 = .ok (.invokevirtual 68, 3) := by decide +kernel
theorem dX7_write_13 : decode cX7_write 13 = .ok (.ireturn, 1) := by decide +kernel
theorem dX7_write_14 : decode cX7_write 14 = .ok (.aload_n 0, 1) := by decide +kernel
theorem dX7_write_15 : decode cX7_write 15 = .ok (.getfield 54, 3) := by decide +kernel
theorem dX7_write_18 : decode cX7_write 18 = .ok (.iload_n 1, 1) := by decide +kernel
theorem dX7_write_19 : decode cX7_write 19 = .ok (.aaload, 1) := by decide +kernel
theorem dX7_write_20 : decode cX7_write 20 = .ok (.invokevirtual 232, 3) := by decide +kernel
theorem dX7_write_23 : decode cX7_write 23 = .ok (.ifCond .eq 10, 3) := by decide +kernel
theorem dX7_write_26 : decode cX7_write 26 = .ok (.aload_n 0, 1) := by decide +kernel
theorem dX7_write_27 : decode cX7_write 27 = .ok (.ldc 236, 2) := by decide +kernel
theorem dX7_write_29 : decode cX7_write 29 = .ok (.invokevirtual 68, 3) := by decide +kernel
theorem dX7_write_32 : decode cX7_write 32 = .ok (.ireturn, 1) := by decide +kernel
theorem dX7_write_33 : decode cX7_write 33 = .ok (.iload_n 2, 1) := by decide +kernel
theorem dX7_write_34 : decode cX7_write 34 = .ok (.iconst 0, 1) := by decide +kernel
theorem dX7_write_35 : decode cX7_write 35 = .ok (.aload_n 0, 1) := by decide +kernel
theorem dX7_write_36 : decode cX7_write 36 = .ok (.getfield 54, 3) := by decide +kernel
theorem dX7_write_39 : decode cX7_write 39 = .ok (.iload_n 1, 1) := by decide +kernel
theorem dX7_write_40 : decode cX7_write 40 = .ok (.aaload, 1) := by decide +kernel
theorem dX7_write_41 : decode cX7_write 41 = .ok (.getfield 241, 3) := by decide +kernel
theorem dX7_write_44 : decode cX7_write 44 = .ok (.iconst 1, 1) := by decide +kernel
theorem dX7_write_45 : decode cX7_write 45 = .ok (.isub, 1) := by decide +kernel
theorem dX7_write_46 : decode cX7_write 46 = .ok (.invokestatic 94, 3) := by decide +kernel
theorem dX7_write_49 : decode cX7_write 49 = .ok (.ifCond .ne 10, 3) := by decide +kernel
theorem dX7_write_52 : decode cX7_write 52 = .ok (.aload_n 0, 1) := by decide +kernel
theorem dX7_write_53 : decode cX7_write 53 = .ok (.ldc 67, 2) := by decide +kernel
theorem dX7_write_55 : decode cX7_write 55 = .ok (.invokevirtual 68, 3) := by decide +kernel
theorem dX7_write_58 : decode cX7_write 58 = .ok (.ireturn, 1) := by decide +kernel
theorem dX7_write_59 : decode cX7_write 59 = .ok (.aload_n 0, 1) := by decide +kernel
theorem dX7_write_60 : decode cX7_write 60 = .ok (.getfield 54, 3) := by decide +kernel
theorem dX7_write_63 : decode cX7_write 63 = .ok (.iload_n 1, 1) := by decide +kernel
theorem dX7_write_64 : decode cX7_write 64 = .ok (.aaload, 1) := by decide +kernel
theorem dX7_write_65 : decode cX7_write 65 = .ok (.iload_n 2, 1) := by decide +kernel
theorem dX7_write_66 : decode cX7_write 66 = .ok (.iload_n 3, 1) := by decide +kernel
theorem dX7_write_67 : decode cX7_write 67 = .ok (.invokevirtual 290, 3) := by decide +kernel
theorem dX7_write_70 : decode cX7_write 70 = .ok (.iconst 1, 1) := by decide +kernel
theorem dX7_write_71 : decode cX7_write 71 = .ok (.ireturn, 1) := by decide +kernel
theorem dX7_copy_0 : decode cX7_copy 0 = .ok (.iload_n 1, 1) := by decide +kernel
theorem dX7_copy_1 : decode cX7_copy 1 = .ok (.invokestatic 229, 3) := by decide +kernel
theorem dX7_copy_4 : decode cX7_copy 4 = .ok (.ifCond .eq 10, 3) := by decide +kernel
theorem dX7_copy_7 : decode cX7_copy 7 = .ok (.iload_n 3, 1) := by decide +kernel
theorem dX7_copy_8 : decode cX7_copy 8 = .ok (.invokestatic 229, 3) := by decide +kernel
theorem dX7_copy_11 : decode cX7_copy 11 = .ok (.ifCond .ne 10, 3) := by decide +kernel
theorem dX7_copy_14 : decode cX7_copy 14 = .ok (.aload_n 0, 1) := by decide +kernel
theorem dX7_copy_15 : decode cX7_copy 15 = .ok (.ldc 67, 2) := by decide +kernel
theorem dX7_copy_17 : decode cX7_copy 17 = .ok (.invokevirtual 68, 3) := by decide +kernel
theorem dX7_copy_20 : decode cX7_copy 20 = .ok (.ireturn, 1) := by decide +kernel
theorem dX7_copy_21 : decode cX7_copy 21 = .ok (.aload_n 0, 1) := by decide +kernel
theorem dX7_copy_22 : decode cX7_copy 22 = .ok (.getfield 54, 3) := by decide +kernel
theorem dX7_copy_25 : decode cX7_copy 25 = .ok (.iload_n 1, 1) := by decide +kernel
theorem dX7_copy_26 : decode cX7_copy 26 = .ok (.aaload, 1) := by decide +kernel
theorem dX7_copy_27 : decode cX7_copy 27 = .ok (.invokevirtual 232, 3) := by decide +kernel
theorem dX7_copy_30 : decode cX7_copy 30 = .ok (.ifCond .ne 15, 3) := by decide +kernel
theorem dX7_copy_33 : decode cX7_copy 33 = .ok (.aload_n 0, 1) := by decide +kernel
theorem dX7_copy_34 : decode cX7_copy 34 = .ok (.getfield 54, 3) := by decide +kernel
theorem dX7_copy_37 : decode cX7_copy 37 = .ok (.iload_n 3, 1) := by decide +kernel
theorem dX7_copy_38 : decode cX7_copy 38 = .ok (.aaload, 1) := by decide +kernel
theorem dX7_copy_39 : decode cX7_copy 39 = .ok (.invokevirtual 232, 3) := by decide +kernel
theorem dX7_copy_42 : decode cX7_copy 42 = .ok (.ifCond .eq 10, 3) := by decide +kernel
theorem dX7_copy_45 : decode cX7_copy 45 = .ok (.aload_n 0, 1) := by decide +kernel
theorem dX7_copy_46 : decode cX7_copy 46 = .ok (.ldc 236, 2) := by decide +kernel
theorem dX7_copy_48 : decode cX7_copy 48 = .ok (.invokevirtual 68, 3) := by decide +kernel
theorem dX7_copy_51 : decode cX7_copy 51 = .ok (.ireturn, 1) := by decide +kernel
theorem dX7_copy_52 : decode cX7_copy 52 = .ok (.aload_n 0, 1) := by decide +kernel
theorem dX7_copy_53 : decode cX7_copy 53 = .ok (.getfield 54, 3) := by decide +kernel
theorem dX7_copy_56 : decode cX7_copy 56 = .ok (.iload_n 1, 1) := by decide +kernel
theorem dX7_copy_57 : decode cX7_copy 57 = .ok (.aaload, 1) := by decide +kernel
theorem dX7_copy_58 : decode cX7_copy 58 = .ok (.getfield 293, 3) := by decide +kernel
theorem dX7_copy_61 : decode cX7_copy 61 = .ok (.aload_n 0, 1) := by decide +kernel
theorem dX7_copy_62 : decode cX7_copy 62 = .ok (.getfield 54, 3) := by decide +kernel
theorem dX7_copy_65 : decode cX7_copy 65 = .ok (.iload_n 3, 1) := by decide +kernel
theorem dX7_copy_66 : decode cX7_copy 66 = .ok (.aaload, 1) := by decide +kernel
theorem dX7_copy_67 : decode cX7_copy 67 = .ok (.getfield 293, 3) := by decide +kernel
theorem dX7_copy_70 : decode cX7_copy 70 = .ok (.if_icmp .eq 10, 3) := by decide +kernel
theorem dX7_copy_73 : decode cX7_copy 73 = .ok (.aload_n 0, 1) := by decide +kernel
theorem dX7_copy_74 : decode cX7_copy 74 = .ok (.ldc 201, 2) := by decide +kernel
theorem dX7_copy_76 : decode cX7_copy 76 = .ok (.invokevirtual 68, 3) := by decide +kernel
theorem dX7_copy_79 : decode cX7_copy 79 = .ok (.ireturn, 1) := by decide +kernel
theorem dX7_copy_80 : decode cX7_copy 80 = .ok (.aload_n 0, 1) := by decide +kernel
theorem dX7_copy_81 : decode cX7_copy 81 = .ok (.getfield 54, 3) := by decide +kernel
theorem dX7_copy_84 : decode cX7_copy 84 = .ok (.iload_n 1, 1) := by decide +kernel
theorem dX7_copy_85 : decode cX7_copy 85 = .ok (.aaload, 1) := by decide +kernel
theorem dX7_copy_86 : decode cX7_copy 86 = .ok (.iload_n 2, 1) := by decide +kernel
theorem dX7_copy_87 : decode cX7_copy 87 = .ok (.iload 5, 2) := by decide +kernel
theorem dX7_copy_89 : decode cX7_copy 89 = .ok (.invokevirtual 296, 3) := by decide +kernel
theorem dX7_copy_92 : decode cX7_copy 92 = .ok (.ifCond .eq 19, 3) := by decide +kernel
theorem dX7_copy_95 : decode cX7_copy 95 = .ok (.aload_n 0, 1) := by decide +kernel
theorem dX7_copy_96 : decode cX7_copy 96 = .ok (.getfield 54, 3) := by decide +kernel
theorem dX7_copy_99 : decode cX7_copy 99 = .ok (.iload_n 3, 1) := by decide +kernel
theorem dX7_copy_100 : decode cX7_copy 100 = .ok (.aaload, 1) := by decide +kernel
theorem dX7_copy_101 : decode cX7_copy 101 = .ok (.iload 4, 2) := by decide +kernel
theorem dX7_copy_103 : decode cX7_copy 103 = .ok (.iload 5, 2) := by decide +kernel
theorem dX7_copy_105 : decode cX7_copy 105 = .ok (.invokevirtual 296, 3) := by decide +kernel
theorem dX7_copy_108 : decode cX7_copy 108 = .ok (.ifCond .ne 10, 3) := by decide +kernel
theorem dX7_copy_111 : decode cX7_copy 111 = .ok (.aload_n 0, 1) := by decide +kernel
theorem dX7_copy_112 : decode cX7_copy 112 = .ok (.ldc 67, 2) := by decide +kernel
theorem dX7_copy_114 : decode cX7_copy 114 = .ok (.invokevirtual 68, 3) := by decide +kernel
theorem dX7_copy_117 : decode cX7_copy 117 = .ok (.ireturn, 1) := by decide +kernel
theorem dX7_copy_118 : decode cX7_copy 118 = .ok (.aload_n 0, 1) := by decide +kernel
theorem dX7_copy_119 : decode cX7_copy 119 = .ok (.getfield 54, 3) := by decide +kernel
theorem dX7_copy_122 : decode cX7_copy 122 = .ok (.iload_n 1, 1) := by decide +kernel
theorem dX7_copy_123 : decode cX7_copy 123 = .ok (.aaload, 1) := by decide +kernel
theorem dX7_copy_124 : decode cX7_copy 124 = .ok (.getfield 299, 3) := by decide +kernel
theorem dX7_copy_127 : decode cX7_copy 127 = .ok (.iload_n 2, 1) := by decide +kernel
theorem dX7_copy_128 : decode cX7_copy 128 = .ok (.aload_n 0, 1) := by decide +kernel
theorem dX7_copy_129 : decode cX7_copy 129 = .ok (.getfield 54, 3) := by decide +kernel
theorem dX7_copy_132 : decode cX7_copy 132 = .ok (.iload_n 3, 1) := by decide +kernel
theorem dX7_copy_133 : decode cX7_copy 133 = .ok (.aaload, 1) := by decide +kernel
theorem dX7_copy_134 : decode cX7_copy 134 = .ok (.getfield 299, 3) := by decide +kernel
theorem dX7_copy_137 : decode cX7_copy 137 = .ok (.iload 4, 2) := by decide +kernel
theorem dX7_copy_139 : decode cX7_copy 139 = .ok (.iload 5, 2) := by decide +kernel
theorem dX7_copy_141 : decode cX7_copy 141 = .ok (.invokestatic 302, 3) := by decide +kernel
theorem dX7_copy_144 : decode cX7_copy 144 = .ok (.iload 5, 2) := by decide +kernel
theorem dX7_copy_146 : decode cX7_copy 146 = .ok (.ireturn, 1) := by decide +kernel
theorem dX7_load_0 : decode cX7_load 0 = .ok (.iload_n 1, 1) := by decide +kernel
theorem dX7_load_1 : decode cX7_load 1 = .ok (.invokestatic 229, 3) := by decide +kernel
theorem dX7_load_4 : decode cX7_load 4 = .ok (.ifCond .ne 10, 3) := by decide +kernel
theorem dX7_load_7 : decode cX7_load 7 = .ok (.aload_n 0, 1) := by decide +kernel
theorem dX7_load_8 : decode cX7_load 8 = .ok (.ldc 67, 2) := by decide +kernel
theorem dX7_load_10 : decode cX7_load 10 = .ok (.invokevirtual 68, 3) := by decide +kernel
theorem dX7_load_13 : decode cX7_load 13 = .ok (.ireturn, 1) := by decide +kernel
theorem dX7_load_14 : decode cX7_load 14 = .ok (.aload_n 0, 1) := by decide +kernel
theorem dX7_load_15 : decode cX7_load 15 = .ok (.getfield 54, 3) := by decide +kernel
theorem dX7_load_18 : decode cX7_load 18 = .ok (.iload_n 1, 1) := by decide +kernel
theorem dX7_load_19 : decode cX7_load 19 = .ok (.aaload, 1) := by decide +kernel
theorem dX7_load_20 : decode cX7_load 20 = .ok (.invokevirtual 232, 3) := by decide +kernel
theorem dX7_load_23 : decode cX7_load 23 = .ok (.ifCond .eq 10, 3) := by decide +kernel
theorem dX7_load_26 : decode cX7_load 26 = .ok (.aload_n 0, 1) := by decide +kernel
theorem dX7_load_27 : decode cX7_load 27 = .ok (.ldc 236, 2) := by decide +kernel
theorem dX7_load_29 : decode cX7_load 29 = .ok (.invokevirtual 68, 3) := by decide +kernel
theorem dX7_load_32 : decode cX7_load 32 = .ok (.ireturn, 1) := by decide +kernel
theorem dX7_load_33 : decode cX7_load 33 = .ok (.iconst 0, 1) := by decide +kernel
theorem dX7_load_34 : decode cX7_load 34 = .ok (.istore_n 2, 1) := by decide +kernel
theorem dX7_load_35 : decode cX7_load 35 = .ok (.aload_n 0, 1) := by decide +kernel
theorem dX7_load_36 : decode cX7_load 36 = .ok (.getfield 54, 3) := by decide +kernel
theorem dX7_load_39 : decode cX7_load 39 = .ok (.iload_n 1, 1) := by decide +kernel
theorem dX7_load_40 : decode cX7_load 40 = .ok (.aaload, 1) := by decide +kernel
theorem dX7_load_41 : decode cX7_load 41 = .ok (.getfield 241, 3) := by decide +kernel
theorem dX7_load_44 : decode cX7_load 44 = .ok (.aload_n 0, 1) := by decide +kernel
theorem dX7_load_45 : decode cX7_load 45 = .ok (.getfield 12, 3) := by decide +kernel
theorem dX7_load_48 : decode cX7_load 48 = .ok (.getfield 72, 3) := by decide +kernel
theorem dX7_load_51 : decode cX7_load 51 = .ok (.invokestatic 308, 3) := by decide +kernel
theorem dX7_load_54 : decode cX7_load 54 = .ok (.istore_n 3, 1) := by decide +kernel
theorem dX7_load_55 : decode cX7_load 55 = .ok (.iload_n 2, 1) := by decide +kernel
theorem dX7_load_56 : decode cX7_load 56 = .ok (.iload_n 3, 1) := by decide +kernel
theorem dX7_load_57 : decode cX7_load 57 = .ok (.if_icmp .ge 49, 3) := by decide +kernel
theorem dX7_load_60 : decode cX7_load 60 = .ok (.aload_n 0, 1) := by decide +kernel
theorem dX7_load_61 : decode cX7_load 61 = .ok (.getfield 54, 3) := by decide +kernel
theorem dX7_load_64 : decode cX7_load 64 = .ok (.iload_n 1, 1) := by decide +kernel
theorem dX7_load_65 : decode cX7_load 65 = .ok (.aaload, 1) := by decide +kernel
theorem dX7_load_66 : decode cX7_load 66 = .ok (.getfield 299, 3) := by decide +kernel
theorem dX7_load_69 : decode cX7_load 69 = .ok (.iload_n 2, 1) := by decide +kernel
theorem dX7_load_70 : decode cX7_load 70 = .ok (.iaload, 1) := by decide +kernel
theorem dX7_load_71 : decode cX7_load 71 = .ok (.iconst 1, 1) := by decide +kernel
theorem dX7_load_72 : decode cX7_load 72 = .ok (.bipush 60, 2) := by decide +kernel
theorem dX7_load_74 : decode cX7_load 74 = .ok (.invokestatic 94, 3) := by decide +kernel
theorem dX7_load_77 : decode cX7_load 77 = .ok (.ifCond .eq 29, 3) := by decide +kernel
theorem dX7_load_80 : decode cX7_load 80 = .ok (.aload_n 0, 1) := by decide +kernel
theorem dX7_load_81 : decode cX7_load 81 = .ok (.getfield 12, 3) := by decide +kernel
theorem dX7_load_84 : decode cX7_load 84 = .ok (.getfield 313, 3) := by decide +kernel
theorem dX7_load_87 : decode cX7_load 87 = .ok (.iload_n 2, 1) := by decide +kernel
theorem dX7_load_88 : decode cX7_load 88 = .ok (.aload_n 0, 1) := by decide +kernel
theorem dX7_load_89 : decode cX7_load 89 = .ok (.getfield 54, 3) := by decide +kernel
theorem dX7_load_92 : decode cX7_load 92 = .ok (.iload_n 1, 1) := by decide +kernel
theorem dX7_load_93 : decode cX7_load 93 = .ok (.aaload, 1) := by decide +kernel
theorem dX7_load_94 : decode cX7_load 94 = .ok (.getfield 299, 3) := by decide +kernel
theorem dX7_load_97 : decode cX7_load 97 = .ok (.iload_n 2, 1) := by decide +kernel
theorem dX7_load_98 : decode cX7_load 98 = .ok (.iaload, 1) := by decide +kernel
theorem dX7_load_99 : decode cX7_load 99 = .ok (.iastore, 1) := by decide +kernel
theorem dX7_load_100 : decode cX7_load 100 = .ok (.iinc 2 1, 3) := by decide +kernel
theorem dX7_load_103 : decode cX7_load 103 = .ok (.goto (-48), 3) := by decide +kernel
theorem dX7_load_106 : decode cX7_load 106 = .ok (.iload_n 2, 1) := by decide +kernel
theorem dX7_load_107 : decode cX7_load 107 = .ok (.ireturn, 1) := by decide +kernel
theorem dX7_judge_0 : decode cX7_judge 0 = .ok (.iload_n 1, 1) := by decide +kernel
theorem dX7_judge_1 : decode cX7_judge 1 = .ok (.invokestatic 229, 3) := by decide +kernel
theorem dX7_judge_4 : decode cX7_judge 4 = .ok (.ifCond .ne 10, 3) := by decide +kernel
theorem dX7_judge_7 : decode cX7_judge 7 = .ok (.aload_n 0, 1) := by decide +kernel
theorem dX7_judge_8 : decode cX7_judge 8 = .ok (.ldc 67, 2) := by decide +kernel
theorem dX7_judge_10 : decode cX7_judge 10 = .ok (.invokevirtual 68, 3) := by decide +kernel
theorem dX7_judge_13 : decode cX7_judge 13 = .ok (.ireturn, 1) := by decide +kernel
theorem dX7_judge_14 : decode cX7_judge 14 = .ok (.aload_n 0, 1) := by decide +kernel
theorem dX7_judge_15 : decode cX7_judge 15 = .ok (.getfield 54, 3) := by decide +kernel
theorem dX7_judge_18 : decode cX7_judge 18 = .ok (.iload_n 1, 1) := by decide +kernel
theorem dX7_judge_19 : decode cX7_judge 19 = .ok (.aaload, 1) := by decide +kernel
theorem dX7_judge_20 : decode cX7_judge 20 = .ok (.invokevirtual 232, 3) := by decide +kernel
theorem dX7_judge_23 : decode cX7_judge 23 = .ok (.ifCond .eq 10, 3) := by decide +kernel
theorem dX7_judge_26 : decode cX7_judge 26 = .ok (.aload_n 0, 1) := by decide +kernel
theorem dX7_judge_27 : decode cX7_judge 27 = .ok (.ldc 236, 2) := by decide +kernel
theorem dX7_judge_29 : decode cX7_judge 29 = .ok (.invokevirtual 68, 3) := by decide +kernel
theorem dX7_judge_32 : decode cX7_judge 32 = .ok (.ireturn, 1) := by decide +kernel
theorem dX7_judge_33 : decode cX7_judge 33 = .ok (.iconst 0, 1) := by decide +kernel
theorem dX7_judge_34 : decode cX7_judge 34 = .ok (.istore_n 2, 1) := by decide +kernel
theorem dX7_judge_35 : decode cX7_judge 35 = .ok (.iload_n 2, 1) := by decide +kernel
theorem dX7_judge_36 : decode cX7_judge 36 = .ok (.aload_n 0, 1) := by decide +kernel
theorem dX7_judge_37 : decode cX7_judge 37 = .ok (.getfield 54, 3) := by decide +kernel
theorem dX7_judge_40 : decode cX7_judge 40 = .ok (.iload_n 1, 1) := by decide +kernel
theorem dX7_judge_41 : decode cX7_judge 41 = .ok (.aaload, 1) := by decide +kernel
theorem dX7_judge_42 : decode cX7_judge 42 = .ok (.getfield 241, 3) := by decide +kernel
theorem dX7_judge_45 : decode cX7_judge 45 = .ok (.if_icmp .ge 42, 3) := by decide +kernel
theorem dX7_judge_48 : decode cX7_judge 48 = .ok (.iload_n 2, 1) := by decide +kernel
theorem dX7_judge_49 : decode cX7_judge 49 = .ok (.invokestatic 107, 3) := by decide +kernel
theorem dX7_judge_52 : decode cX7_judge 52 = .ok (.ifCond .eq 25, 3) := by decide +kernel
theorem dX7_judge_55 : decode cX7_judge 55 = .ok (.aload_n 0, 1) := by decide +kernel
theorem dX7_judge_56 : decode cX7_judge 56 = .ok (.getfield 54, 3) := by decide +kernel
theorem dX7_judge_59 : decode cX7_judge 59 = .ok (.iload_n 1, 1) := by decide +kernel
theorem dX7_judge_60 : decode cX7_judge 60 = .ok (.aaload, 1) := by decide +kernel
theorem dX7_judge_61 : decode cX7_judge 61 = .ok (.getfield 299, 3) := by decide +kernel
theorem dX7_judge_64 : decode cX7_judge 64 = .ok (.iload_n 2, 1) := by decide +kernel
theorem dX7_judge_65 : decode cX7_judge 65 = .ok (.iaload, 1) := by decide +kernel
theorem dX7_judge_66 : decode cX7_judge 66 = .ok (.aload_n 0, 1) := by decide +kernel
theorem dX7_judge_67 : decode cX7_judge 67 = .ok (.getfield 12, 3) := by decide +kernel
theorem dX7_judge_70 : decode cX7_judge 70 = .ok (.iload_n 2, 1) := by decide +kernel
theorem dX7_judge_71 : decode cX7_judge 71 = .ok (.invokevirtual 119, 3) := by decide +kernel
theorem dX7_judge_74 : decode cX7_judge 74 = .ok (.if_icmp .eq 7, 3) := by decide +kernel
theorem dX7_judge_77 : decode cX7_judge 77 = .ok (.iconst 1, 1) := by decide +kernel
theorem dX7_judge_78 : decode cX7_judge 78 = .ok (.iload_n 2, 1) := by decide +kernel
theorem dX7_judge_79 : decode cX7_judge 79 = .ok (.iadd, 1) := by decide +kernel
theorem dX7_judge_80 : decode cX7_judge 80 = .ok (.ireturn, 1) := by decide +kernel
theorem dX7_judge_81 : decode cX7_judge 81 = .ok (.iinc 2 1, 3) := by decide +kernel
theorem dX7_judge_84 : decode cX7_judge 84 = .ok (.goto (-49), 3) := by decide +kernel
theorem dX7_judge_87 : decode cX7_judge 87 = .ok (.iconst 0, 1) := by decide +kernel
theorem dX7_judge_88 : decode cX7_judge 88 = .ok (.ireturn, 1) := by decide +kernel
theorem dX7_image_0 : decode cX7_image 0 = .ok (.aload_n 0, 1) := by decide +kernel
theorem dX7_image_1 : decode cX7_image 1 = .ok (.getfield 16, 3) := by decide +kernel
theorem dX7_image_4 : decode cX7_image 4 = .ok (.aload_n 0, 1) := by decide +kernel
theorem dX7_image_5 : decode cX7_image 5 = .ok (.getfield 12, 3) := by decide +kernel
theorem dX7_image_8 : decode cX7_image 8 = .ok (.invokevirtual 264, 3) := by decide +kernel
theorem dX7_image_11 : decode cX7_image 11 = .ok (.aload_n 0, 1) := by decide +kernel
theorem dX7_image_12 : decode cX7_image 12 = .ok (.iconst 1, 1) := by decide +kernel
theorem dX7_image_13 : decode cX7_image 13 = .ok (.putfield 316, 3) := by decide +kernel
theorem dX7_image_16 : decode cX7_image 16 = .ok (.iconst 1, 1) := by decide +kernel
theorem dX7_image_17 : decode cX7_image 17 = .ok (.ireturn, 1) := by decide +kernel
theorem dX7_undo_0 : decode cX7_undo 0 = .ok (.aload_n 0, 1) := by decide +kernel
theorem dX7_undo_1 : decode cX7_undo 1 = .ok (.getfield 316, 3) := by decide +kernel
theorem dX7_undo_4 : decode cX7_undo 4 = .ok (.ifCond .ne 10, 3) := by decide +kernel
theorem dX7_undo_7 : decode cX7_undo 7 = .ok (.aload_n 0, 1) := by decide +kernel
theorem dX7_undo_8 : decode cX7_undo 8 = .ok (.ldc 188, 2) := by decide +kernel
theorem dX7_undo_10 : decode cX7_undo 10 = .ok (.invokevirtual 68, 3) := by decide +kernel
theorem dX7_undo_13 : decode cX7_undo 13 = .ok (.ireturn, 1) := by decide +kernel
theorem dX7_undo_14 : decode cX7_undo 14 = .ok (.aload_n 0, 1) := by decide +kernel
theorem dX7_undo_15 : decode cX7_undo 15 = .ok (.getfield 12, 3) := by decide +kernel
theorem dX7_undo_18 : decode cX7_undo 18 = .ok (.aload_n 0, 1) := by decide +kernel
theorem dX7_undo_19 : decode cX7_undo 19 = .ok (.getfield 16, 3) := by decide +kernel
theorem dX7_undo_22 : decode cX7_undo 22 = .ok (.invokevirtual 264, 3) := by decide +kernel
theorem dX7_undo_25 : decode cX7_undo 25 = .ok (.aload_n 0, 1) := by decide +kernel
theorem dX7_undo_26 : decode cX7_undo 26 = .ok (.getfield 12, 3) := by decide +kernel
theorem dX7_undo_29 : decode cX7_undo 29 = .ok (.getfield 155, 3) := by decide +kernel
theorem dX7_undo_32 : decode cX7_undo 32 = .ok (.ireturn, 1) := by decide +kernel
theorem dX7_tear_0 : decode cX7_tear 0 = .ok (.aload_n 0, 1) := by decide +kernel
theorem dX7_tear_1 : decode cX7_tear 1 = .ok (.getfield 316, 3) := by decide +kernel
theorem dX7_tear_4 : decode cX7_tear 4 = .ok (.ifCond .eq 7, 3) := by decide +kernel
theorem dX7_tear_7 : decode cX7_tear 7 = .ok (.iconst 1, 1) := by decide +kernel
theorem dX7_tear_8 : decode cX7_tear 8 = .ok (.goto 4, 3) := by decide +kernel
theorem dX7_tear_11 : decode cX7_tear 11 = .ok (.iconst 0, 1) := by decide +kernel
theorem dX7_tear_12 : decode cX7_tear 12 = .ok (.istore_n 1, 1) := by decide +kernel
theorem dX7_tear_13 : decode cX7_tear 13 = .ok (.aload_n 0, 1) := by decide +kernel
theorem dX7_tear_14 : decode cX7_tear 14 = .ok (.iconst 0, 1) := by decide +kernel
theorem dX7_tear_15 : decode cX7_tear 15 = .ok (.putfield 316, 3) := by decide +kernel
theorem dX7_tear_18 : decode cX7_tear 18 = .ok (.iload_n 1, 1) := by decide +kernel
theorem dX7_tear_19 : decode cX7_tear 19 = .ok (.ireturn, 1) := by decide +kernel
theorem dX7_count_0 : decode cX7_count 0 = .ok (.iload_n 1, 1) := by decide +kernel
theorem dX7_count_1 : decode cX7_count 1 = .ok (.tableswitch 114 0 7 #[47, 55, 63, 71, 82, 90, 98, 106], 47) := by decide +kernel
theorem dX7_count_48 : decode cX7_count 48 = .ok (.aload_n 0, 1) := by decide +kernel
theorem dX7_count_49 : decode cX7_count 49 = .ok (.getfield 12, 3) := by decide +kernel
theorem dX7_count_52 : decode cX7_count 52 = .ok (.getfield 155, 3) := by decide +kernel
theorem dX7_count_55 : decode cX7_count 55 = .ok (.ireturn, 1) := by decide +kernel
theorem dX7_count_56 : decode cX7_count 56 = .ok (.aload_n 0, 1) := by decide +kernel
theorem dX7_count_57 : decode cX7_count 57 = .ok (.getfield 12, 3) := by decide +kernel
theorem dX7_count_60 : decode cX7_count 60 = .ok (.getfield 72, 3) := by decide +kernel
theorem dX7_count_63 : decode cX7_count 63 = .ok (.ireturn, 1) := by decide +kernel
theorem dX7_count_64 : decode cX7_count 64 = .ok (.aload_n 0, 1) := by decide +kernel
theorem dX7_count_65 : decode cX7_count 65 = .ok (.getfield 12, 3) := by decide +kernel
theorem dX7_count_68 : decode cX7_count 68 = .ok (.getfield 139, 3) := by decide +kernel
theorem dX7_count_71 : decode cX7_count 71 = .ok (.ireturn, 1) := by decide +kernel
theorem dX7_count_72 : decode cX7_count 72 = .ok (.aload_n 0, 1) := by decide +kernel
theorem dX7_count_73 : decode cX7_count 73 = .ok (.getfield 12, 3) := by decide +kernel
theorem dX7_count_76 : decode cX7_count 76 = .ok (.invokevirtual 320, 3) := by decide +kernel
theorem dX7_count_79 : decode cX7_count 79 = .ok (.invokestatic 169, 3) := by decide +kernel
theorem dX7_count_82 : decode cX7_count 82 = .ok (.ireturn, 1) := by decide +kernel
theorem dX7_count_83 : decode cX7_count 83 = .ok (.aload_n 0, 1) := by decide +kernel
theorem dX7_count_84 : decode cX7_count 84 = .ok (.getfield 12, 3) := by decide +kernel
theorem dX7_count_87 : decode cX7_count 87 = .ok (.invokevirtual 323, 3) := by decide +kernel
theorem dX7_count_90 : decode cX7_count 90 = .ok (.ireturn, 1) := by decide +kernel
theorem dX7_count_91 : decode cX7_count 91 = .ok (.aload_n 0, 1) := by decide +kernel
theorem dX7_count_92 : decode cX7_count 92 = .ok (.getfield 39, 3) := by decide +kernel
theorem dX7_count_95 : decode cX7_count 95 = .ok (.getfield 257, 3) := by decide +kernel
theorem dX7_count_98 : decode cX7_count 98 = .ok (.ireturn, 1) := by decide +kernel
theorem dX7_count_99 : decode cX7_count 99 = .ok (.aload_n 0, 1) := by decide +kernel
theorem dX7_count_100 : decode cX7_count 100 = .ok (.getfield 12, 3) := by decide +kernel
theorem dX7_count_103 : decode cX7_count 103 = .ok (.getfield 254, 3) := by decide +kernel
theorem dX7_count_106 : decode cX7_count 106 = .ok (.ireturn, 1) := by decide +kernel
theorem dX7_count_107 : decode cX7_count 107 = .ok (.aload_n 0, 1) := by decide +kernel
theorem dX7_count_108 : decode cX7_count 108 = .ok (.getfield 12, 3) := by decide +kernel
theorem dX7_count_111 : decode cX7_count 111 = .ok (.invokevirtual 326, 3) := by decide +kernel
theorem dX7_count_114 : decode cX7_count 114 = .ok (.ireturn, 1) := by decide +kernel
theorem dX7_count_115 : decode cX7_count 115 = .ok (.aload_n 0, 1) := by decide +kernel
theorem dX7_count_116 : decode cX7_count 116 = .ok (.ldc 67, 2) := by decide +kernel
theorem dX7_count_118 : decode cX7_count 118 = .ok (.invokevirtual 68, 3) := by decide +kernel
theorem dX7_count_121 : decode cX7_count 121 = .ok (.ireturn, 1) := by decide +kernel
theorem dX7_status_0 : decode cX7_status 0 = .ok (.iload_n 1, 1) := by decide +kernel
theorem dX7_status_1 : decode cX7_status 1 = .ok (.iconst (-1), 1) := by decide +kernel
theorem dX7_status_2 : decode cX7_status 2 = .ok (.bipush 6, 2) := by decide +kernel
theorem dX7_status_4 : decode cX7_status 4 = .ok (.invokestatic 94, 3) := by decide +kernel
theorem dX7_status_7 : decode cX7_status 7 = .ok (.ifCond .ne 10, 3) := by decide +kernel
theorem dX7_status_10 : decode cX7_status 10 = .ok (.aload_n 0, 1) := by decide +kernel
theorem dX7_status_11 : decode cX7_status 11 = .ok (.ldc 67, 2) := by decide +kernel
theorem dX7_status_13 : decode cX7_status 13 = .ok (.invokevirtual 68, 3) := by decide +kernel
theorem dX7_status_16 : decode cX7_status 16 = .ok (.ireturn, 1) := by decide +kernel
theorem dX7_status_17 : decode cX7_status 17 = .ok (.iload_n 1, 1) := by decide +kernel
theorem dX7_status_18 : decode cX7_status 18 = .ok (.ifCond .lt 10, 3) := by decide +kernel
theorem dX7_status_21 : decode cX7_status 21 = .ok (.aload_n 0, 1) := by decide +kernel
theorem dX7_status_22 : decode cX7_status 22 = .ok (.getfield 58, 3) := by decide +kernel
theorem dX7_status_25 : decode cX7_status 25 = .ok (.iload_n 1, 1) := by decide +kernel
theorem dX7_status_26 : decode cX7_status 26 = .ok (.iaload, 1) := by decide +kernel
theorem dX7_status_27 : decode cX7_status 27 = .ok (.ireturn, 1) := by decide +kernel
theorem dX7_status_28 : decode cX7_status 28 = .ok (.iconst 0, 1) := by decide +kernel
theorem dX7_status_29 : decode cX7_status 29 = .ok (.istore_n 2, 1) := by decide +kernel
theorem dX7_status_30 : decode cX7_status 30 = .ok (.iconst 0, 1) := by decide +kernel
theorem dX7_status_31 : decode cX7_status 31 = .ok (.istore_n 3, 1) := by decide +kernel
theorem dX7_status_32 : decode cX7_status 32 = .ok (.iload_n 3, 1) := by decide +kernel
theorem dX7_status_33 : decode cX7_status 33 = .ok (.bipush 7, 2) := by decide +kernel
theorem dX7_status_35 : decode cX7_status 35 = .ok (.if_icmp .ge 18, 3) := by decide +kernel
theorem dX7_status_38 : decode cX7_status 38 = .ok (.iload_n 2, 1) := by decide +kernel
theorem dX7_status_39 : decode cX7_status 39 = .ok (.aload_n 0, 1) := by decide +kernel
theorem dX7_status_40 : decode cX7_status 40 = .ok (.getfield 58, 3) := by decide +kernel
theorem dX7_status_43 : decode cX7_status 43 = .ok (.iload_n 3, 1) := by decide +kernel
theorem dX7_status_44 : decode cX7_status 44 = .ok (.iaload, 1) := by decide +kernel
theorem dX7_status_45 : decode cX7_status 45 = .ok (.iadd, 1) := by decide +kernel
theorem dX7_status_46 : decode cX7_status 46 = .ok (.istore_n 2, 1) := by decide +kernel
theorem dX7_status_47 : decode cX7_status 47 = .ok (.iinc 3 1, 3) := by decide +kernel
theorem dX7_status_50 : decode cX7_status 50 = .ok (.goto (-18), 3) := by decide +kernel
theorem dX7_status_53 : decode cX7_status 53 = .ok (.iload_n 2, 1) := by decide +kernel
theorem dX7_status_54 : decode cX7_status 54 = .ok (.ireturn, 1) := by decide +kernel
theorem dX7_finding_0 : decode cX7_finding 0 = .ok (.ldc 67, 2) := by decide +kernel
theorem dX7_finding_2 : decode cX7_finding 2 = .ok (.iload_n 1, 1) := by decide +kernel
theorem dX7_finding_3 : decode cX7_finding 3 = .ok (.isub, 1) := by decide +kernel
theorem dX7_finding_4 : decode cX7_finding 4 = .ok (.istore_n 2, 1) := by decide +kernel
theorem dX7_finding_5 : decode cX7_finding 5 = .ok (.iload_n 2, 1) := by decide +kernel
theorem dX7_finding_6 : decode cX7_finding 6 = .ok (.iconst 0, 1) := by decide +kernel
theorem dX7_finding_7 : decode cX7_finding 7 = .ok (.bipush 6, 2) := by decide +kernel
theorem dX7_finding_9 : decode cX7_finding 9 = .ok (.invokestatic 94, 3) := by decide +kernel
theorem dX7_finding_12 : decode cX7_finding 12 = .ok (.ifCond .eq 13, 3) := by decide +kernel
theorem dX7_finding_15 : decode cX7_finding 15 = .ok (.aload_n 0, 1) := by decide +kernel
theorem dX7_finding_16 : decode cX7_finding 16 = .ok (.getfield 58, 3) := by decide +kernel
theorem dX7_finding_19 : decode cX7_finding 19 = .ok (.iload_n 2, 1) := by decide +kernel
theorem dX7_finding_20 : decode cX7_finding 20 = .ok (.dup2, 1) := by decide +kernel
theorem dX7_finding_21 : decode cX7_finding 21 = .ok (.iaload, 1) := by decide +kernel
theorem dX7_finding_22 : decode cX7_finding 22 = .ok (.iconst 1, 1) := by decide +kernel
theorem dX7_finding_23 : decode cX7_finding 23 = .ok (.iadd, 1) := by decide +kernel
theorem dX7_finding_24 : decode cX7_finding 24 = .ok (.iastore, 1) := by decide +kernel
theorem dX7_finding_25 : decode cX7_finding 25 = .ok (.iload_n 1, 1) := by decide +kernel
theorem dX7_finding_26 : decode cX7_finding 26 = .ok (.ireturn, 1) := by decide +kernel
theorem dX7_within_0 : decode cX7_within 0 = .ok (.iload_n 0, 1) := by decide +kernel
theorem dX7_within_1 : decode cX7_within 1 = .ok (.iload_n 1, 1) := by decide +kernel
theorem dX7_within_2 : decode cX7_within 2 = .ok (.if_icmp .lt 12, 3) := by decide +kernel
theorem dX7_within_5 : decode cX7_within 5 = .ok (.iload_n 0, 1) := by decide +kernel
theorem dX7_within_6 : decode cX7_within 6 = .ok (.iload_n 2, 1) := by decide +kernel
theorem dX7_within_7 : decode cX7_within 7 = .ok (.if_icmp .gt 7, 3) := by decide +kernel
theorem dX7_within_10 : decode cX7_within 10 = .ok (.iconst 1, 1) := by decide +kernel
theorem dX7_within_11 : decode cX7_within 11 = .ok (.goto 4, 3) := by decide +kernel
theorem dX7_within_14 : decode cX7_within 14 = .ok (.iconst 0, 1) := by decide +kernel
theorem dX7_within_15 : decode cX7_within 15 = .ok (.ireturn, 1) := by decide +kernel
theorem dX7_isKind_0 : decode cX7_isKind 0 = .ok (.iload_n 0, 1) := by decide +kernel
theorem dX7_isKind_1 : decode cX7_isKind 1 = .ok (.iconst 0, 1) := by decide +kernel
theorem dX7_isKind_2 : decode cX7_isKind 2 = .ok (.bipush 6, 2) := by decide +kernel
theorem dX7_isKind_4 : decode cX7_isKind 4 = .ok (.invokestatic 94, 3) := by decide +kernel
theorem dX7_isKind_7 : decode cX7_isKind 7 = .ok (.ireturn, 1) := by decide +kernel
theorem dX7_isFace_0 : decode cX7_isFace 0 = .ok (.iload_n 0, 1) := by decide +kernel
theorem dX7_isFace_1 : decode cX7_isFace 1 = .ok (.iconst 0, 1) := by decide +kernel
theorem dX7_isFace_2 : decode cX7_isFace 2 = .ok (.iconst 5, 1) := by decide +kernel
theorem dX7_isFace_3 : decode cX7_isFace 3 = .ok (.invokestatic 94, 3) := by decide +kernel
theorem dX7_isFace_6 : decode cX7_isFace 6 = .ok (.ireturn, 1) := by decide +kernel
theorem dX7_isRoom_0 : decode cX7_isRoom 0 = .ok (.iload_n 0, 1) := by decide +kernel
theorem dX7_isRoom_1 : decode cX7_isRoom 1 = .ok (.iconst 0, 1) := by decide +kernel
theorem dX7_isRoom_2 : decode cX7_isRoom 2 = .ok (.iconst 5, 1) := by decide +kernel
theorem dX7_isRoom_3 : decode cX7_isRoom 3 = .ok (.invokestatic 94, 3) := by decide +kernel
theorem dX7_isRoom_6 : decode cX7_isRoom 6 = .ok (.ireturn, 1) := by decide +kernel
theorem dX7_isPlace_0 : decode cX7_isPlace 0 = .ok (.iload_n 0, 1) := by decide +kernel
theorem dX7_isPlace_1 : decode cX7_isPlace 1 = .ok (.iconst (-1), 1) := by decide +kernel
theorem dX7_isPlace_2 : decode cX7_isPlace 2 = .ok (.iconst 5, 1) := by decide +kernel
theorem dX7_isPlace_3 : decode cX7_isPlace 3 = .ok (.invokestatic 94, 3) := by decide +kernel
theorem dX7_isPlace_6 : decode cX7_isPlace 6 = .ok (.ireturn, 1) := by decide +kernel
theorem dX7_isSpot_0 : decode cX7_isSpot 0 = .ok (.iload_n 0, 1) := by decide +kernel
theorem dX7_isSpot_1 : decode cX7_isSpot 1 = .ok (.iconst 0, 1) := by decide +kernel
theorem dX7_isSpot_2 : decode cX7_isSpot 2 = .ok (.bipush 9, 2) := by decide +kernel
theorem dX7_isSpot_4 : decode cX7_isSpot 4 = .ok (.invokestatic 94, 3) := by decide +kernel
theorem dX7_isSpot_7 : decode cX7_isSpot 7 = .ok (.ireturn, 1) := by decide +kernel
theorem dX7_isSheet_0 : decode cX7_isSheet 0 = .ok (.iload_n 0, 1) := by decide +kernel
theorem dX7_isSheet_1 : decode cX7_isSheet 1 = .ok (.iconst 0, 1) := by decide +kernel
theorem dX7_isSheet_2 : decode cX7_isSheet 2 = .ok (.iconst 3, 1) := by decide +kernel
theorem dX7_isSheet_3 : decode cX7_isSheet 3 = .ok (.invokestatic 94, 3) := by decide +kernel
theorem dX7_isSheet_6 : decode cX7_isSheet 6 = .ok (.ireturn, 1) := by decide +kernel
theorem dX7_commonDivisor_0 : decode cX7_commonDivisor 0 = .ok (.iload_n 0, 1) := by decide +kernel
theorem dX7_commonDivisor_1 : decode cX7_commonDivisor 1 = .ok (.istore_n 2, 1) := by decide +kernel
theorem dX7_commonDivisor_2 : decode cX7_commonDivisor 2 = .ok (.iload_n 1, 1) := by decide +kernel
theorem dX7_commonDivisor_3 : decode cX7_commonDivisor 3 = .ok (.istore_n 3, 1) := by decide +kernel
theorem dX7_commonDivisor_4 : decode cX7_commonDivisor 4 = .ok (.iconst 0, 1) := by decide +kernel
theorem dX7_commonDivisor_5 : decode cX7_commonDivisor 5 = .ok (.istore 4, 2) := by decide +kernel
theorem dX7_commonDivisor_7 : decode cX7_commonDivisor 7 = .ok (.iload 4, 2) := by decide +kernel
theorem dX7_commonDivisor_9 : decode cX7_commonDivisor 9 = .ok (.bipush 100, 2) := by decide +kernel
theorem dX7_commonDivisor_11 : decode cX7_commonDivisor 11 = .ok (.if_icmp .ge 23, 3) := by decide +kernel
theorem dX7_commonDivisor_14 : decode cX7_commonDivisor 14 = .ok (.iload_n 3, 1) := by decide +kernel
theorem dX7_commonDivisor_15 : decode cX7_commonDivisor 15 = .ok (.ifCond .eq 19, 3) := by decide +kernel
theorem dX7_commonDivisor_18 : decode cX7_commonDivisor 18 = .ok (.iload_n 2, 1) := by decide +kernel
theorem dX7_commonDivisor_19 : decode cX7_commonDivisor 19 = .ok (.iload_n 3, 1) := by decide +kernel
theorem dX7_commonDivisor_20 : decode cX7_commonDivisor 20 = .ok (.irem, 1) := by decide +kernel
theorem dX7_commonDivisor_21 : decode cX7_commonDivisor 21 = .ok (.istore 5, 2) := by decide +kernel
theorem dX7_commonDivisor_23 : decode cX7_commonDivisor 23 = .ok (.iload_n 3, 1) := by decide +kernel
theorem dX7_commonDivisor_24 : decode cX7_commonDivisor 24 = .ok (.istore_n 2, 1) := by decide +kernel
theorem dX7_commonDivisor_25 : decode cX7_commonDivisor 25 = .ok (.iload 5, 2) := by decide +kernel
theorem dX7_commonDivisor_27 : decode cX7_commonDivisor 27 = .ok (.istore_n 3, 1) := by decide +kernel
theorem dX7_commonDivisor_28 : decode cX7_commonDivisor 28 = .ok (.iinc 4 1, 3) := by decide +kernel
theorem dX7_commonDivisor_31 : decode cX7_commonDivisor 31 = .ok (.goto (-24), 3) := by decide +kernel
theorem dX7_commonDivisor_34 : decode cX7_commonDivisor 34 = .ok (.iload_n 2, 1) := by decide +kernel
theorem dX7_commonDivisor_35 : decode cX7_commonDivisor 35 = .ok (.ifCond .ne 7, 3) := by decide +kernel
theorem dX7_commonDivisor_38 : decode cX7_commonDivisor 38 = .ok (.iconst 1, 1) := by decide +kernel
theorem dX7_commonDivisor_39 : decode cX7_commonDivisor 39 = .ok (.goto 4, 3) := by decide +kernel
theorem dX7_commonDivisor_42 : decode cX7_commonDivisor 42 = .ok (.iload_n 2, 1) := by decide +kernel
theorem dX7_commonDivisor_43 : decode cX7_commonDivisor 43 = .ok (.ireturn, 1) := by decide +kernel
theorem dX8_init_0 : decode cX8_init 0 = .ok (.aload_n 0, 1) := by decide +kernel
theorem dX8_init_1 : decode cX8_init 1 = .ok (.invokespecial 1, 3) := by decide +kernel
theorem dX8_init_4 : decode cX8_init 4 = .ok (.aload_n 0, 1) := by decide +kernel
theorem dX8_init_5 : decode cX8_init 5 = .ok (.bipush 117, 2) := by decide +kernel
theorem dX8_init_7 : decode cX8_init 7 = .ok (.newarray .int, 2) := by decide +kernel
theorem dX8_init_9 : decode cX8_init 9 = .ok (.putfield 9, 3) := by decide +kernel
theorem dX8_init_12 : decode cX8_init 12 = .ok (.aload_n 0, 1) := by decide +kernel
theorem dX8_init_13 : decode cX8_init 13 = .ok (.bipush 117, 2) := by decide +kernel
theorem dX8_init_15 : decode cX8_init 15 = .ok (.newarray .int, 2) := by decide +kernel
theorem dX8_init_17 : decode cX8_init 17 = .ok (.putfield 13, 3) := by decide +kernel
theorem dX8_init_20 : decode cX8_init 20 = .ok (.aload_n 0, 1) := by decide +kernel
theorem dX8_init_21 : decode cX8_init 21 = .ok (.bipush 117, 2) := by decide +kernel
theorem dX8_init_23 : decode cX8_init 23 = .ok (.newarray .int, 2) := by decide +kernel
theorem dX8_init_25 : decode cX8_init 25 = .ok (.putfield 16, 3) := by decide +kernel
theorem dX8_init_28 : decode cX8_init 28 = .ok (.aload_n 0, 1) := by decide +kernel
theorem dX8_init_29 : decode cX8_init 29 = .ok (.bipush 8, 2) := by decide +kernel
theorem dX8_init_31 : decode cX8_init 31 = .ok (.newarray .int, 2) := by decide +kernel
theorem dX8_init_33 : decode cX8_init 33 = .ok (.putfield 19, 3) := by decide +kernel
theorem dX8_init_36 : decode cX8_init 36 = .ok (.aload_n 0, 1) := by decide +kernel
theorem dX8_init_37 : decode cX8_init 37 = .ok (.sipush 7168, 3) := by decide +kernel
theorem dX8_init_40 : decode cX8_init 40 = .ok (.newarray .int, 2) := by decide +kernel
theorem dX8_init_42 : decode cX8_init 42 = .ok (.putfield 22, 3) := by decide +kernel
theorem dX8_init_45 : decode cX8_init 45 = .ok (.aload_n 0, 1) := by decide +kernel
theorem dX8_init_46 : decode cX8_init 46 = .ok (.bipush 120, 2) := by decide +kernel
theorem dX8_init_48 : decode cX8_init 48 = .ok (.newarray .int, 2) := by decide +kernel
theorem dX8_init_50 : decode cX8_init 50 = .ok (.putfield 25, 3) := by decide +kernel
theorem dX8_init_53 : decode cX8_init 53 = .ok (.aload_n 0, 1) := by decide +kernel
theorem dX8_init_54 : decode cX8_init 54 = .ok (.bipush 7, 2) := by decide +kernel
theorem dX8_init_56 : decode cX8_init 56 = .ok (.anewarray 28, 3) := by decide +kernel
theorem dX8_init_59 : decode cX8_init 59 = .ok (.dup, 1) := by decide +kernel
theorem dX8_init_60 : decode cX8_init 60 = .ok (.iconst 0, 1) := by decide +kernel
theorem dX8_init_61 : decode cX8_init 61 = .ok (.ldc 30, 2) := by decide +kernel
theorem dX8_init_63 : decode cX8_init 63 = .ok (.aastore, 1) := by decide +kernel
theorem dX8_init_64 : decode cX8_init 64 = .ok (.dup, 1) := by decide +kernel
theorem dX8_init_65 : decode cX8_init 65 = .ok (.iconst 1, 1) := by decide +kernel
theorem dX8_init_66 : decode cX8_init 66 = .ok (.ldc 32, 2) := by decide +kernel
theorem dX8_init_68 : decode cX8_init 68 = .ok (.aastore, 1) := by decide +kernel
theorem dX8_init_69 : decode cX8_init 69 = .ok (.dup, 1) := by decide +kernel
theorem dX8_init_70 : decode cX8_init 70 = .ok (.iconst 2, 1) := by decide +kernel
theorem dX8_init_71 : decode cX8_init 71 = .ok (.ldc 34, 2) := by decide +kernel
theorem dX8_init_73 : decode cX8_init 73 = .ok (.aastore, 1) := by decide +kernel
theorem dX8_init_74 : decode cX8_init 74 = .ok (.dup, 1) := by decide +kernel
theorem dX8_init_75 : decode cX8_init 75 = .ok (.iconst 3, 1) := by decide +kernel
theorem dX8_init_76 : decode cX8_init 76 = .ok (.ldc 36, 2) := by decide +kernel
theorem dX8_init_78 : decode cX8_init 78 = .ok (.aastore, 1) := by decide +kernel
theorem dX8_init_79 : decode cX8_init 79 = .ok (.dup, 1) := by decide +kernel
theorem dX8_init_80 : decode cX8_init 80 = .ok (.iconst 4, 1) := by decide +kernel
theorem dX8_init_81 : decode cX8_init 81 = .ok (.ldc 38, 2) := by decide +kernel
theorem dX8_init_83 : decode cX8_init 83 = .ok (.aastore, 1) := by decide +kernel
theorem dX8_init_84 : decode cX8_init 84 = .ok (.dup, 1) := by decide +kernel
theorem dX8_init_85 : decode cX8_init 85 = .ok (.iconst 5, 1) := by decide +kernel
theorem dX8_init_86 : decode cX8_init 86 = .ok (.ldc 40, 2) := by decide +kernel
theorem dX8_init_88 : decode cX8_init 88 = .ok (.aastore, 1) := by decide +kernel
theorem dX8_init_89 : decode cX8_init 89 = .ok (.dup, 1) := by decide +kernel
theorem dX8_init_90 : decode cX8_init 90 = .ok (.bipush 6, 2) := by decide +kernel
theorem dX8_init_92 : decode cX8_init 92 = .ok (.ldc 42, 2) := by decide +kernel
theorem dX8_init_94 : decode cX8_init 94 = .ok (.aastore, 1) := by decide +kernel
theorem dX8_init_95 : decode cX8_init 95 = .ok (.putfield 44, 3) := by decide +kernel
theorem dX8_init_98 : decode cX8_init 98 = .ok (.aload_n 0, 1) := by decide +kernel
theorem dX8_init_99 : decode cX8_init 99 = .ok (.sipush 480, 3) := by decide +kernel
theorem dX8_init_102 : decode cX8_init 102 = .ok (.newarray .int, 2) := by decide +kernel
theorem dX8_init_104 : decode cX8_init 104 = .ok (.putfield 48, 3) := by decide +kernel
theorem dX8_init_107 : decode cX8_init 107 = .ok (.aload_n 0, 1) := by decide +kernel
theorem dX8_init_108 : decode cX8_init 108 = .ok (.iconst 4, 1) := by decide +kernel
theorem dX8_init_109 : decode cX8_init 109 = .ok (.newarray .int, 2) := by decide +kernel
theorem dX8_init_111 : decode cX8_init 111 = .ok (.putfield 51, 3) := by decide +kernel
theorem dX8_init_114 : decode cX8_init 114 = .ok (.aload_n 0, 1) := by decide +kernel
theorem dX8_init_115 : decode cX8_init 115 = .ok (.iconst 4, 1) := by decide +kernel
theorem dX8_init_116 : decode cX8_init 116 = .ok (.newarray .int, 2) := by decide +kernel
theorem dX8_init_118 : decode cX8_init 118 = .ok (.putfield 54, 3) := by decide +kernel
theorem dX8_init_121 : decode cX8_init 121 = .ok (.aload_n 0, 1) := by decide +kernel
theorem dX8_init_122 : decode cX8_init 122 = .ok (.sipush 160, 3) := by decide +kernel
theorem dX8_init_125 : decode cX8_init 125 = .ok (.newarray .int, 2) := by decide +kernel
theorem dX8_init_127 : decode cX8_init 127 = .ok (.putfield 57, 3) := by decide +kernel
theorem dX8_init_130 : decode cX8_init 130 = .ok (.aload_n 0, 1) := by decide +kernel
theorem dX8_init_131 : decode cX8_init 131 = .ok (.bipush 40, 2) := by decide +kernel
theorem dX8_init_133 : decode cX8_init 133 = .ok (.newarray .int, 2) := by decide +kernel
theorem dX8_init_135 : decode cX8_init 135 = .ok (.putfield 60, 3) := by decide +kernel
theorem dX8_init_138 : decode cX8_init 138 = .ok (.aload_n 0, 1) := by decide +kernel
theorem dX8_init_139 : decode cX8_init 139 = .ok (.getfield 9, 3) := by decide +kernel
theorem dX8_init_142 : decode cX8_init 142 = .ok (.iconst 1, 1) := by decide +kernel
theorem dX8_init_143 : decode cX8_init 143 = .ok (.iconst 5, 1) := by decide +kernel
theorem dX8_init_144 : decode cX8_init 144 = .ok (.iastore, 1) := by decide +kernel
theorem dX8_init_145 : decode cX8_init 145 = .ok (.aload_n 0, 1) := by decide +kernel
theorem dX8_init_146 : decode cX8_init 146 = .ok (.getfield 9, 3) := by decide +kernel
theorem dX8_init_149 : decode cX8_init 149 = .ok (.iconst 4, 1) := by decide +kernel
theorem dX8_init_150 : decode cX8_init 150 = .ok (.iconst 1, 1) := by decide +kernel
theorem dX8_init_151 : decode cX8_init 151 = .ok (.iastore, 1) := by decide +kernel
theorem dX8_init_152 : decode cX8_init 152 = .ok (.iconst 0, 1) := by decide +kernel
theorem dX8_init_153 : decode cX8_init 153 = .ok (.istore_n 1, 1) := by decide +kernel
theorem dX8_init_154 : decode cX8_init 154 = .ok (.iload_n 1, 1) := by decide +kernel
theorem dX8_init_155 : decode cX8_init 155 = .ok (.bipush 10, 2) := by decide +kernel
theorem dX8_init_157 : decode cX8_init 157 = .ok (.if_icmp .ge 18, 3) := by decide +kernel
theorem dX8_init_160 : decode cX8_init 160 = .ok (.aload_n 0, 1) := by decide +kernel
theorem dX8_init_161 : decode cX8_init 161 = .ok (.getfield 9, 3) := by decide +kernel
theorem dX8_init_164 : decode cX8_init 164 = .ok (.iconst 5, 1) := by decide +kernel
theorem dX8_init_165 : decode cX8_init 165 = .ok (.iload_n 1, 1) := by decide +kernel
theorem dX8_init_166 : decode cX8_init 166 = .ok (.iadd, 1) := by decide +kernel
theorem dX8_init_167 : decode cX8_init 167 = .ok (.iconst (-1), 1) := by decide +kernel
theorem dX8_init_168 : decode cX8_init 168 = .ok (.iastore, 1) := by decide +kernel
theorem dX8_init_169 : decode cX8_init 169 = .ok (.iinc 1 1, 3) := by decide +kernel
theorem dX8_init_172 : decode cX8_init 172 = .ok (.goto (-18), 3) := by decide +kernel
theorem dX8_init_175 : decode cX8_init 175 = .ok (.iconst 0, 1) := by decide +kernel
theorem dX8_init_176 : decode cX8_init 176 = .ok (.istore_n 1, 1) := by decide +kernel
theorem dX8_init_177 : decode cX8_init 177 = .ok (.iload_n 1, 1) := by decide +kernel
theorem dX8_init_178 : decode cX8_init 178 = .ok (.bipush 6, 2) := by decide +kernel
theorem dX8_init_180 : decode cX8_init 180 = .ok (.if_icmp .ge 29, 3) := by decide +kernel
theorem dX8_init_183 : decode cX8_init 183 = .ok (.aload_n 0, 1) := by decide +kernel
theorem dX8_init_184 : decode cX8_init 184 = .ok (.getfield 9, 3) := by decide +kernel
theorem dX8_init_187 : decode cX8_init 187 = .ok (.bipush 21, 2) := by decide +kernel
theorem dX8_init_189 : decode cX8_init 189 = .ok (.iload_n 1, 1) := by decide +kernel
theorem dX8_init_190 : decode cX8_init 190 = .ok (.iadd, 1) := by decide +kernel
theorem dX8_init_191 : decode cX8_init 191 = .ok (.iconst 1, 1) := by decide +kernel
theorem dX8_init_192 : decode cX8_init 192 = .ok (.iastore, 1) := by decide +kernel
theorem dX8_init_193 : decode cX8_init 193 = .ok (.aload_n 0, 1) := by decide +kernel
theorem dX8_init_194 : decode cX8_init 194 = .ok (.getfield 9, 3) := by decide +kernel
theorem dX8_init_197 : decode cX8_init 197 = .ok (.bipush 27, 2) := by decide +kernel
theorem dX8_init_199 : decode cX8_init 199 = .ok (.iload_n 1, 1) := by decide +kernel
theorem dX8_init_200 : decode cX8_init 200 = .ok (.iadd, 1) := by decide +kernel
theorem dX8_init_201 : decode cX8_init 201 = .ok (.iconst (-1), 1) := by decide +kernel
theorem dX8_init_202 : decode cX8_init 202 = .ok (.iastore, 1) := by decide +kernel
theorem dX8_init_203 : decode cX8_init 203 = .ok (.iinc 1 1, 3) := by decide +kernel
theorem dX8_init_206 : decode cX8_init 206 = .ok (.goto (-29), 3) := by decide +kernel
theorem dX8_init_209 : decode cX8_init 209 = .ok (.return_, 1) := by decide +kernel
theorem dX8_finding_0 : decode cX8_finding 0 = .ok (.aload_n 0, 1) := by decide +kernel
theorem dX8_finding_1 : decode cX8_finding 1 = .ok (.getfield 19, 3) := by decide +kernel
theorem dX8_finding_4 : decode cX8_finding 4 = .ok (.ldc 63, 2) := by decide +kernel
theorem dX8_finding_6 : decode cX8_finding 6 = .ok (.iload_n 1, 1) := by decide +kernel
theorem dX8_finding_7 : decode cX8_finding 7 = .ok (.isub, 1) := by decide +kernel
theorem dX8_finding_8 : decode cX8_finding 8 = .ok (.iconst 1, 1) := by decide +kernel
theorem dX8_finding_9 : decode cX8_finding 9 = .ok (.iadd, 1) := by decide +kernel
theorem dX8_finding_10 : decode cX8_finding 10 = .ok (.dup2, 1) := by decide +kernel
theorem dX8_finding_11 : decode cX8_finding 11 = .ok (.iaload, 1) := by decide +kernel
theorem dX8_finding_12 : decode cX8_finding 12 = .ok (.iconst 1, 1) := by decide +kernel
theorem dX8_finding_13 : decode cX8_finding 13 = .ok (.iadd, 1) := by decide +kernel
theorem dX8_finding_14 : decode cX8_finding 14 = .ok (.iastore, 1) := by decide +kernel
theorem dX8_finding_15 : decode cX8_finding 15 = .ok (.aload_n 0, 1) := by decide +kernel
theorem dX8_finding_16 : decode cX8_finding 16 = .ok (.getfield 19, 3) := by decide +kernel
theorem dX8_finding_19 : decode cX8_finding 19 = .ok (.iconst 0, 1) := by decide +kernel
theorem dX8_finding_20 : decode cX8_finding 20 = .ok (.dup2, 1) := by decide +kernel
theorem dX8_finding_21 : decode cX8_finding 21 = .ok (.iaload, 1) := by decide +kernel
theorem dX8_finding_22 : decode cX8_finding 22 = .ok (.iconst 1, 1) := by decide +kernel
theorem dX8_finding_23 : decode cX8_finding 23 = .ok (.iadd, 1) := by decide +kernel
theorem dX8_finding_24 : decode cX8_finding 24 = .ok (.iastore, 1) := by decide +kernel
theorem dX8_finding_25 : decode cX8_finding 25 = .ok (.iload_n 1, 1) := by decide +kernel
theorem dX8_finding_26 : decode cX8_finding 26 = .ok (.ireturn, 1) := by decide +kernel
theorem dX8_within_0 : decode cX8_within 0 = .ok (.iload_n 0, 1) := by decide +kernel
theorem dX8_within_1 : decode cX8_within 1 = .ok (.iload_n 1, 1) := by decide +kernel
theorem dX8_within_2 : decode cX8_within 2 = .ok (.if_icmp .lt 12, 3) := by decide +kernel
theorem dX8_within_5 : decode cX8_within 5 = .ok (.iload_n 0, 1) := by decide +kernel
theorem dX8_within_6 : decode cX8_within 6 = .ok (.iload_n 2, 1) := by decide +kernel
theorem dX8_within_7 : decode cX8_within 7 = .ok (.if_icmp .gt 7, 3) := by decide +kernel
theorem dX8_within_10 : decode cX8_within 10 = .ok (.iconst 1, 1) := by decide +kernel
theorem dX8_within_11 : decode cX8_within 11 = .ok (.goto 4, 3) := by decide +kernel
theorem dX8_within_14 : decode cX8_within 14 = .ok (.iconst 0, 1) := by decide +kernel
theorem dX8_within_15 : decode cX8_within 15 = .ok (.ireturn, 1) := by decide +kernel
theorem dX8_become_0 : decode cX8_become 0 = .ok (.aload_n 0, 1) := by decide +kernel
theorem dX8_become_1 : decode cX8_become 1 = .ok (.getfield 9, 3) := by decide +kernel
theorem dX8_become_4 : decode cX8_become 4 = .ok (.iload_n 1, 1) := by decide +kernel
theorem dX8_become_5 : decode cX8_become 5 = .ok (.iaload, 1) := by decide +kernel
theorem dX8_become_6 : decode cX8_become 6 = .ok (.istore_n 3, 1) := by decide +kernel
theorem dX8_become_7 : decode cX8_become 7 = .ok (.aload_n 0, 1) := by decide +kernel
theorem dX8_become_8 : decode cX8_become 8 = .ok (.getfield 9, 3) := by decide +kernel
theorem dX8_become_11 : decode cX8_become 11 = .ok (.iload_n 1, 1) := by decide +kernel
theorem dX8_become_12 : decode cX8_become 12 = .ok (.iload_n 2, 1) := by decide +kernel
theorem dX8_become_13 : decode cX8_become 13 = .ok (.iastore, 1) := by decide +kernel
theorem dX8_become_14 : decode cX8_become 14 = .ok (.iload_n 3, 1) := by decide +kernel
theorem dX8_become_15 : decode cX8_become 15 = .ok (.ireturn, 1) := by decide +kernel
theorem dX8_copyRow_0 : decode cX8_copyRow 0 = .ok (.iconst 0, 1) := by decide +kernel
theorem dX8_copyRow_1 : decode cX8_copyRow 1 = .ok (.istore_n 2, 1) := by decide +kernel
theorem dX8_copyRow_2 : decode cX8_copyRow 2 = .ok (.iload_n 2, 1) := by decide +kernel
theorem dX8_copyRow_3 : decode cX8_copyRow 3 = .ok (.bipush 117, 2) := by decide +kernel
theorem dX8_copyRow_5 : decode cX8_copyRow 5 = .ok (.if_icmp .ge 15, 3) := by decide +kernel
theorem dX8_copyRow_8 : decode cX8_copyRow 8 = .ok (.aload_n 1, 1) := by decide +kernel
theorem dX8_copyRow_9 : decode cX8_copyRow 9 = .ok (.iload_n 2, 1) := by decide +kernel
theorem dX8_copyRow_10 : decode cX8_copyRow 10 = .ok (.aload_n 0, 1) := by decide +kernel
theorem dX8_copyRow_11 : decode cX8_copyRow 11 = .ok (.iload_n 2, 1) := by decide +kernel
theorem dX8_copyRow_12 : decode cX8_copyRow 12 = .ok (.iaload, 1) := by decide +kernel
theorem dX8_copyRow_13 : decode cX8_copyRow 13 = .ok (.iastore, 1) := by decide +kernel
theorem dX8_copyRow_14 : decode cX8_copyRow 14 = .ok (.iinc 2 1, 3) := by decide +kernel
theorem dX8_copyRow_17 : decode cX8_copyRow 17 = .ok (.goto (-15), 3) := by decide +kernel
theorem dX8_copyRow_20 : decode cX8_copyRow 20 = .ok (.return_, 1) := by decide +kernel
theorem dX8_has_0 : decode cX8_has 0 = .ok (.iload_n 0, 1) := by decide +kernel
theorem dX8_has_1 : decode cX8_has 1 = .ok (.iload_n 1, 1) := by decide +kernel
theorem dX8_has_2 : decode cX8_has 2 = .ok (.ishr, 1) := by decide +kernel
theorem dX8_has_3 : decode cX8_has 3 = .ok (.iconst 1, 1) := by decide +kernel
theorem dX8_has_4 : decode cX8_has 4 = .ok (.iand, 1) := by decide +kernel
theorem dX8_has_5 : decode cX8_has 5 = .ok (.iconst 1, 1) := by decide +kernel
theorem dX8_has_6 : decode cX8_has 6 = .ok (.if_icmp .ne 7, 3) := by decide +kernel
theorem dX8_has_9 : decode cX8_has 9 = .ok (.iconst 1, 1) := by decide +kernel
theorem dX8_has_10 : decode cX8_has 10 = .ok (.goto 4, 3) := by decide +kernel
theorem dX8_has_13 : decode cX8_has 13 = .ok (.iconst 0, 1) := by decide +kernel
theorem dX8_has_14 : decode cX8_has 14 = .ok (.ireturn, 1) := by decide +kernel
theorem dX8_bits_0 : decode cX8_bits 0 = .ok (.iconst 0, 1) := by decide +kernel
theorem dX8_bits_1 : decode cX8_bits 1 = .ok (.istore_n 1, 1) := by decide +kernel
theorem dX8_bits_2 : decode cX8_bits 2 = .ok (.iload_n 0, 1) := by decide +kernel
theorem dX8_bits_3 : decode cX8_bits 3 = .ok (.istore_n 2, 1) := by decide +kernel
theorem dX8_bits_4 : decode cX8_bits 4 = .ok (.iload_n 2, 1) := by decide +kernel
theorem dX8_bits_5 : decode cX8_bits 5 = .ok (.ifCond .eq 15, 3) := by decide +kernel
theorem dX8_bits_8 : decode cX8_bits 8 = .ok (.iinc 1 1, 3) := by decide +kernel
theorem dX8_bits_11 : decode cX8_bits 11 = .ok (.iload_n 2, 1) := by decide +kernel
theorem dX8_bits_12 : decode cX8_bits 12 = .ok (.iload_n 2, 1) := by decide +kernel
theorem dX8_bits_13 : decode cX8_bits 13 = .ok (.iconst 1, 1) := by decide +kernel
theorem dX8_bits_14 : decode cX8_bits 14 = .ok (.isub, 1) := by decide +kernel
theorem dX8_bits_15 : decode cX8_bits 15 = .ok (.iand, 1) := by decide +kernel
theorem dX8_bits_16 : decode cX8_bits 16 = .ok (.istore_n 2, 1) := by decide +kernel
theorem dX8_bits_17 : decode cX8_bits 17 = .ok (.goto (-13), 3) := by decide +kernel
theorem dX8_bits_20 : decode cX8_bits 20 = .ok (.iload_n 1, 1) := by decide +kernel
theorem dX8_bits_21 : decode cX8_bits 21 = .ok (.ireturn, 1) := by decide +kernel
theorem dX8_isFace_0 : decode cX8_isFace 0 = .ok (.iload_n 0, 1) := by decide +kernel
theorem dX8_isFace_1 : decode cX8_isFace 1 = .ok (.iconst 0, 1) := by decide +kernel
theorem dX8_isFace_2 : decode cX8_isFace 2 = .ok (.iconst 5, 1) := by decide +kernel
theorem dX8_isFace_3 : decode cX8_isFace 3 = .ok (.invokestatic 68, 3) := by decide +kernel
theorem dX8_isFace_6 : decode cX8_isFace 6 = .ok (.ireturn, 1) := by decide +kernel
theorem dX8_isRoom_0 : decode cX8_isRoom 0 = .ok (.iload_n 0, 1) := by decide +kernel
theorem dX8_isRoom_1 : decode cX8_isRoom 1 = .ok (.iconst 0, 1) := by decide +kernel
theorem dX8_isRoom_2 : decode cX8_isRoom 2 = .ok (.iconst 5, 1) := by decide +kernel
theorem dX8_isRoom_3 : decode cX8_isRoom 3 = .ok (.invokestatic 68, 3) := by decide +kernel
theorem dX8_isRoom_6 : decode cX8_isRoom 6 = .ok (.ireturn, 1) := by decide +kernel
theorem dX8_isPlace_0 : decode cX8_isPlace 0 = .ok (.iload_n 0, 1) := by decide +kernel
theorem dX8_isPlace_1 : decode cX8_isPlace 1 = .ok (.iconst (-1), 1) := by decide +kernel
theorem dX8_isPlace_2 : decode cX8_isPlace 2 = .ok (.iconst 5, 1) := by decide +kernel
theorem dX8_isPlace_3 : decode cX8_isPlace 3 = .ok (.invokestatic 68, 3) := by decide +kernel
theorem dX8_isPlace_6 : decode cX8_isPlace 6 = .ok (.ireturn, 1) := by decide +kernel
theorem dX8_isLooks_0 : decode cX8_isLooks 0 = .ok (.iload_n 0, 1) := by decide +kernel
theorem dX8_isLooks_1 : decode cX8_isLooks 1 = .ok (.iconst 0, 1) := by decide +kernel
theorem dX8_isLooks_2 : decode cX8_isLooks 2 = .ok (.sipush 255, 3) := by decide +kernel
theorem dX8_isLooks_5 : decode cX8_isLooks 5 = .ok (.invokestatic 68, 3) := by decide +kernel
theorem dX8_isLooks_8 : decode cX8_isLooks 8 = .ok (.ireturn, 1) := by decide +kernel
theorem dX8_isKind_0 : decode cX8_isKind 0 = .ok (.iload_n 0, 1) := by decide +kernel
theorem dX8_isKind_1 : decode cX8_isKind 1 = .ok (.iconst 0, 1) := by decide +kernel
theorem dX8_isKind_2 : decode cX8_isKind 2 = .ok (.bipush 6, 2) := by decide +kernel
theorem dX8_isKind_4 : decode cX8_isKind 4 = .ok (.invokestatic 68, 3) := by decide +kernel
theorem dX8_isKind_7 : decode cX8_isKind 7 = .ok (.ireturn, 1) := by decide +kernel
theorem dX8_isPart_0 : decode cX8_isPart 0 = .ok (.iload_n 1, 1) := by decide +kernel
theorem dX8_isPart_1 : decode cX8_isPart 1 = .ok (.iconst 0, 1) := by decide +kernel
theorem dX8_isPart_2 : decode cX8_isPart 2 = .ok (.aload_n 0, 1) := by decide +kernel
theorem dX8_isPart_3 : decode cX8_isPart 3 = .ok (.getfield 9, 3) := by decide +kernel
theorem dX8_isPart_6 : decode cX8_isPart 6 = .ok (.iconst 2, 1) := by decide +kernel
theorem dX8_isPart_7 : decode cX8_isPart 7 = .ok (.iaload, 1) := by decide +kernel
theorem dX8_isPart_8 : decode cX8_isPart 8 = .ok (.iconst 1, 1) := by decide +kernel
theorem dX8_isPart_9 : decode cX8_isPart 9 = .ok (.isub, 1) := by decide +kernel
theorem dX8_isPart_10 : decode cX8_isPart 10 = .ok (.invokestatic 68, 3) := by decide +kernel
theorem dX8_isPart_13 : decode cX8_isPart 13 = .ok (.ireturn, 1) := by decide +kernel
theorem dX8_at_0 : decode cX8_at 0 = .ok (.bipush 33, 2) := by decide +kernel
theorem dX8_at_2 : decode cX8_at 2 = .ok (.iconst 4, 1) := by decide +kernel
theorem dX8_at_3 : decode cX8_at 3 = .ok (.iload_n 0, 1) := by decide +kernel
theorem dX8_at_4 : decode cX8_at 4 = .ok (.imul, 1) := by decide +kernel
theorem dX8_at_5 : decode cX8_at 5 = .ok (.iadd, 1) := by decide +kernel
theorem dX8_at_6 : decode cX8_at 6 = .ok (.iload_n 1, 1) := by decide +kernel
theorem dX8_at_7 : decode cX8_at 7 = .ok (.iadd, 1) := by decide +kernel
theorem dX8_at_8 : decode cX8_at 8 = .ok (.ireturn, 1) := by decide +kernel
theorem dX8_partIs_0 : decode cX8_partIs 0 = .ok (.aload_n 0, 1) := by decide +kernel
theorem dX8_partIs_1 : decode cX8_partIs 1 = .ok (.getfield 9, 3) := by decide +kernel
theorem dX8_partIs_4 : decode cX8_partIs 4 = .ok (.iload_n 1, 1) := by decide +kernel
theorem dX8_partIs_5 : decode cX8_partIs 5 = .ok (.iload_n 2, 1) := by decide +kernel
theorem dX8_partIs_6 : decode cX8_partIs 6 = .ok (.invokestatic 72, 3) := by decide +kernel
theorem dX8_partIs_9 : decode cX8_partIs 9 = .ok (.iaload, 1) := by decide +kernel
theorem dX8_partIs_10 : decode cX8_partIs 10 = .ok (.ireturn, 1) := by decide +kernel
theorem dX8_comes_0 : decode cX8_comes 0 = .ok (.aload_n 0, 1) := by decide +kernel
theorem dX8_comes_1 : decode cX8_comes 1 = .ok (.getfield 9, 3) := by decide +kernel
theorem dX8_comes_4 : decode cX8_comes 4 = .ok (.iconst 2, 1) := by decide +kernel
theorem dX8_comes_5 : decode cX8_comes 5 = .ok (.iaload, 1) := by decide +kernel
theorem dX8_comes_6 : decode cX8_comes 6 = .ok (.istore 5, 2) := by decide +kernel
theorem dX8_comes_8 : decode cX8_comes 8 = .ok (.aload_n 0, 1) := by decide +kernel
theorem dX8_comes_9 : decode cX8_comes 9 = .ok (.getfield 9, 3) := by decide +kernel
theorem dX8_comes_12 : decode cX8_comes 12 = .ok (.iload 5, 2) := by decide +kernel
theorem dX8_comes_14 : decode cX8_comes 14 = .ok (.iconst 0, 1) := by decide +kernel
theorem dX8_comes_15 : decode cX8_comes 15 = .ok (.invokestatic 72, 3) := by decide +kernel
theorem dX8_comes_18 : decode cX8_comes 18 = .ok (.iload_n 1, 1) := by decide +kernel
theorem dX8_comes_19 : decode cX8_comes 19 = .ok (.iastore, 1) := by decide +kernel
theorem dX8_comes_20 : decode cX8_comes 20 = .ok (.aload_n 0, 1) := by decide +kernel
theorem dX8_comes_21 : decode cX8_comes 21 = .ok (.getfield 9, 3) := by decide +kernel
theorem dX8_comes_24 : decode cX8_comes 24 = .ok (.iload 5, 2) := by decide +kernel
theorem dX8_comes_26 : decode cX8_comes 26 = .ok (.iconst 1, 1) := by decide +kernel
theorem dX8_comes_27 : decode cX8_comes 27 = .ok (.invokestatic 72, 3) := by decide +kernel
theorem dX8_comes_30 : decode cX8_comes 30 = .ok (.iload_n 2, 1) := by decide +kernel
theorem dX8_comes_31 : decode cX8_comes 31 = .ok (.iastore, 1) := by decide +kernel
theorem dX8_comes_32 : decode cX8_comes 32 = .ok (.aload_n 0, 1) := by decide +kernel
theorem dX8_comes_33 : decode cX8_comes 33 = .ok (.getfield 9, 3) := by decide +kernel
theorem dX8_comes_36 : decode cX8_comes 36 = .ok (.iload 5, 2) := by decide +kernel
theorem dX8_comes_38 : decode cX8_comes 38 = .ok (.iconst 2, 1) := by decide +kernel
theorem dX8_comes_39 : decode cX8_comes 39 = .ok (.invokestatic 72, 3) := by decide +kernel
theorem dX8_comes_42 : decode cX8_comes 42 = .ok (.iload_n 3, 1) := by decide +kernel
theorem dX8_comes_43 : decode cX8_comes 43 = .ok (.iastore, 1) := by decide +kernel
theorem dX8_comes_44 : decode cX8_comes 44 = .ok (.aload_n 0, 1) := by decide +kernel
theorem dX8_comes_45 : decode cX8_comes 45 = .ok (.getfield 9, 3) := by decide +kernel
theorem dX8_comes_48 : decode cX8_comes 48 = .ok (.iload 5, 2) := by decide +kernel
theorem dX8_comes_50 : decode cX8_comes 50 = .ok (.iconst 3, 1) := by decide +kernel
theorem dX8_comes_51 : decode cX8_comes 51 = .ok (.invokestatic 72, 3) := by decide +kernel
theorem dX8_comes_54 : decode cX8_comes 54 = .ok (.iload 4, 2) := by decide +kernel
theorem dX8_comes_56 : decode cX8_comes 56 = .ok (.iastore, 1) := by decide +kernel
theorem dX8_comes_57 : decode cX8_comes 57 = .ok (.aload_n 0, 1) := by decide +kernel
theorem dX8_comes_58 : decode cX8_comes 58 = .ok (.getfield 9, 3) := by decide +kernel
theorem dX8_comes_61 : decode cX8_comes 61 = .ok (.iconst 2, 1) := by decide +kernel
theorem dX8_comes_62 : decode cX8_comes 62 = .ok (.dup2, 1) := by decide +kernel
theorem dX8_comes_63 : decode cX8_comes 63 = .ok (.iaload, 1) := by decide +kernel
theorem dX8_comes_64 : decode cX8_comes 64 = .ok (.iconst 1, 1) := by decide +kernel
theorem dX8_comes_65 : decode cX8_comes 65 = .ok (.iadd, 1) := by decide +kernel
theorem dX8_comes_66 : decode cX8_comes 66 = .ok (.iastore, 1) := by decide +kernel
theorem dX8_comes_67 : decode cX8_comes 67 = .ok (.iload 5, 2) := by decide +kernel
theorem dX8_comes_69 : decode cX8_comes 69 = .ok (.ireturn, 1) := by decide +kernel
theorem dX8_part_0 : decode cX8_part 0 = .ok (.iload_n 1, 1) := by decide +kernel
theorem dX8_part_1 : decode cX8_part 1 = .ok (.invokestatic 76, 3) := by decide +kernel
theorem dX8_part_4 : decode cX8_part 4 = .ok (.ifCond .ne 10, 3) := by decide +kernel
theorem dX8_part_7 : decode cX8_part 7 = .ok (.aload_n 0, 1) := by decide +kernel
theorem dX8_part_8 : decode cX8_part 8 = .ok (.ldc 63, 2) := by decide +kernel
theorem dX8_part_10 : decode cX8_part 10 = .ok (.invokevirtual 80, 3) := by decide +kernel
theorem dX8_part_13 : decode cX8_part 13 = .ok (.ireturn, 1) := by decide +kernel
theorem dX8_part_14 : decode cX8_part 14 = .ok (.aload_n 0, 1) := by decide +kernel
theorem dX8_part_15 : decode cX8_part 15 = .ok (.getfield 9, 3) := by decide +kernel
theorem dX8_part_18 : decode cX8_part 18 = .ok (.iconst 2, 1) := by decide +kernel
theorem dX8_part_19 : decode cX8_part 19 = .ok (.iaload, 1) := by decide +kernel
theorem dX8_part_20 : decode cX8_part 20 = .ok (.bipush 10, 2) := by decide +kernel
theorem dX8_part_22 : decode cX8_part 22 = .ok (.if_icmp .ne 12, 3) := by decide +kernel
theorem dX8_part_25 : decode cX8_part 25 = .ok (.aload_n 0, 1) := by decide +kernel
theorem dX8_part_26 : decode cX8_part 26 = .ok (.ldc 84, 2) := by decide +kernel
theorem dX8_part_28 : decode cX8_part 28 = .ok (.invokevirtual 80, 3) := by decide +kernel
theorem dX8_part_31 : decode cX8_part 31 = .ok (.goto 12, 3) := by decide +kernel
theorem dX8_part_34 : decode cX8_part 34 = .ok (.aload_n 0, 1) := by decide +kernel
theorem dX8_part_35 : decode cX8_part 35 = .ok (.iload_n 1, 1) := by decide +kernel
theorem dX8_part_36 : decode cX8_part 36 = .ok (.iconst 0, 1) := by decide +kernel
theorem dX8_part_37 : decode cX8_part 37 = .ok (.bipush 10, 2) := by decide +kernel
theorem dX8_part_39 : decode cX8_part 39 = .ok (.iconst (-1), 1) := by decide +kernel
theorem dX8_part_40 : decode cX8_part 40 = .ok (.invokevirtual 85, 3) := by decide +kernel
theorem dX8_part_43 : decode cX8_part 43 = .ok (.ireturn, 1) := by decide +kernel
theorem dX8_above_0 : decode cX8_above 0 = .ok (.iload_n 0, 1) := by decide +kernel
theorem dX8_above_1 : decode cX8_above 1 = .ok (.ifCond .ne 7, 3) := by decide +kernel
theorem dX8_above_4 : decode cX8_above 4 = .ok (.iconst (-1), 1) := by decide +kernel
theorem dX8_above_5 : decode cX8_above 5 = .ok (.goto 32, 3) := by decide +kernel
theorem dX8_above_8 : decode cX8_above 8 = .ok (.iload_n 0, 1) := by decide +kernel
theorem dX8_above_9 : decode cX8_above 9 = .ok (.iconst 2, 1) := by decide +kernel
theorem dX8_above_10 : decode cX8_above 10 = .ok (.if_icmp .ne 7, 3) := by decide +kernel
theorem dX8_above_13 : decode cX8_above 13 = .ok (.iconst 1, 1) := by decide +kernel
theorem dX8_above_14 : decode cX8_above 14 = .ok (.goto 23, 3) := by decide +kernel
theorem dX8_above_17 : decode cX8_above 17 = .ok (.iload_n 0, 1) := by decide +kernel
theorem dX8_above_18 : decode cX8_above 18 = .ok (.iconst 3, 1) := by decide +kernel
theorem dX8_above_19 : decode cX8_above 19 = .ok (.if_icmp .ne 7, 3) := by decide +kernel
theorem dX8_above_22 : decode cX8_above 22 = .ok (.iconst 2, 1) := by decide +kernel
theorem dX8_above_23 : decode cX8_above 23 = .ok (.goto 14, 3) := by decide +kernel
theorem dX8_above_26 : decode cX8_above 26 = .ok (.iload_n 0, 1) := by decide +kernel
theorem dX8_above_27 : decode cX8_above 27 = .ok (.bipush 6, 2) := by decide +kernel
theorem dX8_above_29 : decode cX8_above 29 = .ok (.if_icmp .ne 7, 3) := by decide +kernel
theorem dX8_above_32 : decode cX8_above 32 = .ok (.iconst 5, 1) := by decide +kernel
theorem dX8_above_33 : decode cX8_above 33 = .ok (.goto 4, 3) := by decide +kernel
theorem dX8_above_36 : decode cX8_above 36 = .ok (.iconst 0, 1) := by decide +kernel
theorem dX8_above_37 : decode cX8_above 37 = .ok (.ireturn, 1) := by decide +kernel
theorem dX8_isUnder_0 : decode cX8_isUnder 0 = .ok (.iload_n 0, 1) := by decide +kernel
theorem dX8_isUnder_1 : decode cX8_isUnder 1 = .ok (.istore_n 2, 1) := by decide +kernel
theorem dX8_isUnder_2 : decode cX8_isUnder 2 = .ok (.iload_n 2, 1) := by decide +kernel
theorem dX8_isUnder_3 : decode cX8_isUnder 3 = .ok (.ifCond .lt 16, 3) := by decide +kernel
theorem dX8_isUnder_6 : decode cX8_isUnder 6 = .ok (.iload_n 2, 1) := by decide +kernel
theorem dX8_isUnder_7 : decode cX8_isUnder 7 = .ok (.iload_n 1, 1) := by decide +kernel
theorem dX8_isUnder_8 : decode cX8_isUnder 8 = .ok (.if_icmp .eq 11, 3) := by decide +kernel
theorem dX8_isUnder_11 : decode cX8_isUnder 11 = .ok (.iload_n 2, 1) := by decide +kernel
theorem dX8_isUnder_12 : decode cX8_isUnder 12 = .ok (.invokestatic 89, 3) := by decide +kernel
theorem dX8_isUnder_15 : decode cX8_isUnder 15 = .ok (.istore_n 2, 1) := by decide +kernel
theorem dX8_isUnder_16 : decode cX8_isUnder 16 = .ok (.goto (-14), 3) := by decide +kernel
theorem dX8_isUnder_19 : decode cX8_isUnder 19 = .ok (.iload_n 2, 1) := by decide +kernel
theorem dX8_isUnder_20 : decode cX8_isUnder 20 = .ok (.ifCond .lt 7, 3) := by decide +kernel
theorem dX8_isUnder_23 : decode cX8_isUnder 23 = .ok (.iconst 1, 1) := by decide +kernel
theorem dX8_isUnder_24 : decode cX8_isUnder 24 = .ok (.goto 4, 3) := by decide +kernel
theorem dX8_isUnder_27 : decode cX8_isUnder 27 = .ok (.iconst 0, 1) := by decide +kernel
theorem dX8_isUnder_28 : decode cX8_isUnder 28 = .ok (.ireturn, 1) := by decide +kernel
theorem dX8_isHead_0 : decode cX8_isHead 0 = .ok (.aload_n 0, 1) := by decide +kernel
theorem dX8_isHead_1 : decode cX8_isHead 1 = .ok (.iload_n 1, 1) := by decide +kernel
theorem dX8_isHead_2 : decode cX8_isHead 2 = .ok (.iconst 0, 1) := by decide +kernel
theorem dX8_isHead_3 : decode cX8_isHead 3 = .ok (.invokevirtual 92, 3) := by decide +kernel
theorem dX8_isHead_6 : decode cX8_isHead 6 = .ok (.iconst 1, 1) := by decide +kernel
theorem dX8_isHead_7 : decode cX8_isHead 7 = .ok (.invokestatic 95, 3) := by decide +kernel
theorem dX8_isHead_10 : decode cX8_isHead 10 = .ok (.ireturn, 1) := by decide +kernel
theorem dX8_of_0 : decode cX8_of 0 = .ok (.aload_n 0, 1) := by decide +kernel
theorem dX8_of_1 : decode cX8_of 1 = .ok (.iload_n 1, 1) := by decide +kernel
theorem dX8_of_2 : decode cX8_of 2 = .ok (.invokevirtual 99, 3) := by decide +kernel
theorem dX8_of_5 : decode cX8_of 5 = .ok (.ifCond .eq 21, 3) := by decide +kernel
theorem dX8_of_8 : decode cX8_of 8 = .ok (.iload_n 2, 1) := by decide +kernel
theorem dX8_of_9 : decode cX8_of 9 = .ok (.iconst 0, 1) := by decide +kernel
theorem dX8_of_10 : decode cX8_of 10 = .ok (.iconst 3, 1) := by decide +kernel
theorem dX8_of_11 : decode cX8_of 11 = .ok (.invokestatic 68, 3) := by decide +kernel
theorem dX8_of_14 : decode cX8_of 14 = .ok (.ifCond .eq 12, 3) := by decide +kernel
theorem dX8_of_17 : decode cX8_of 17 = .ok (.aload_n 0, 1) := by decide +kernel
theorem dX8_of_18 : decode cX8_of 18 = .ok (.iload_n 1, 1) := by decide +kernel
theorem dX8_of_19 : decode cX8_of 19 = .ok (.iload_n 2, 1) := by decide +kernel
theorem dX8_of_20 : decode cX8_of 20 = .ok (.invokevirtual 92, 3) := by decide +kernel
theorem dX8_of_23 : decode cX8_of 23 = .ok (.goto 9, 3) := by decide +kernel
theorem dX8_of_26 : decode cX8_of 26 = .ok (.aload_n 0, 1) := by decide +kernel
theorem dX8_of_27 : decode cX8_of 27 = .ok (.ldc 63, 2) := by decide +kernel
theorem dX8_of_29 : decode cX8_of 29 = .ok (.invokevirtual 80, 3) := by decide +kernel
theorem dX8_of_32 : decode cX8_of 32 = .ok (.ireturn, 1) := by decide +kernel
theorem dX8_change_0 : decode cX8_change 0 = .ok (.iload_n 2, 1) := by decide +kernel
theorem dX8_change_1 : decode cX8_change 1 = .ok (.ifCond .ne 10, 3) := by decide +kernel
theorem dX8_change_4 : decode cX8_change 4 = .ok (.iload_n 3, 1) := by decide +kernel
theorem dX8_change_5 : decode cX8_change 5 = .ok (.invokestatic 76, 3) := by decide +kernel
theorem dX8_change_8 : decode cX8_change 8 = .ok (.ifCond .ne 42, 3) := by decide +kernel
theorem dX8_change_11 : decode cX8_change 11 = .ok (.iload_n 2, 1) := by decide +kernel
theorem dX8_change_12 : decode cX8_change 12 = .ok (.iconst 1, 1) := by decide +kernel
theorem dX8_change_13 : decode cX8_change 13 = .ok (.if_icmp .ne 10, 3) := by decide +kernel
theorem dX8_change_16 : decode cX8_change 16 = .ok (.iload_n 3, 1) := by decide +kernel
theorem dX8_change_17 : decode cX8_change 17 = .ok (.invokestatic 102, 3) := by decide +kernel
theorem dX8_change_20 : decode cX8_change 20 = .ok (.ifCond .ne 30, 3) := by decide +kernel
theorem dX8_change_23 : decode cX8_change 23 = .ok (.iload_n 2, 1) := by decide +kernel
theorem dX8_change_24 : decode cX8_change 24 = .ok (.iconst 2, 1) := by decide +kernel
theorem dX8_change_25 : decode cX8_change 25 = .ok (.if_icmp .ne 13, 3) := by decide +kernel
theorem dX8_change_28 : decode cX8_change 28 = .ok (.iload_n 3, 1) := by decide +kernel
theorem dX8_change_29 : decode cX8_change 29 = .ok (.iconst 1, 1) := by decide +kernel
theorem dX8_change_30 : decode cX8_change 30 = .ok (.bipush 60, 2) := by decide +kernel
theorem dX8_change_32 : decode cX8_change 32 = .ok (.invokestatic 68, 3) := by decide +kernel
theorem dX8_change_35 : decode cX8_change 35 = .ok (.ifCond .ne 15, 3) := by decide +kernel
theorem dX8_change_38 : decode cX8_change 38 = .ok (.iload_n 2, 1) := by decide +kernel
theorem dX8_change_39 : decode cX8_change 39 = .ok (.iconst 3, 1) := by decide +kernel
theorem dX8_change_40 : decode cX8_change 40 = .ok (.if_icmp .ne 14, 3) := by decide +kernel
theorem dX8_change_43 : decode cX8_change 43 = .ok (.iload_n 3, 1) := by decide +kernel
theorem dX8_change_44 : decode cX8_change 44 = .ok (.invokestatic 105, 3) := by decide +kernel
theorem dX8_change_47 : decode cX8_change 47 = .ok (.ifCond .eq 7, 3) := by decide +kernel
theorem dX8_change_50 : decode cX8_change 50 = .ok (.iconst 1, 1) := by decide +kernel
theorem dX8_change_51 : decode cX8_change 51 = .ok (.goto 4, 3) := by decide +kernel
theorem dX8_change_54 : decode cX8_change 54 = .ok (.iconst 0, 1) := by decide +kernel
theorem dX8_change_55 : decode cX8_change 55 = .ok (.istore 4, 2) := by decide +kernel
theorem dX8_change_57 : decode cX8_change 57 = .ok (.aload_n 0, 1) := by decide +kernel
theorem dX8_change_58 : decode cX8_change 58 = .ok (.iload_n 1, 1) := by decide +kernel
theorem dX8_change_59 : decode cX8_change 59 = .ok (.invokevirtual 99, 3) := by decide +kernel
theorem dX8_change_62 : decode cX8_change 62 = .ok (.ifCond .eq 21, 3) := by decide +kernel
theorem dX8_change_65 : decode cX8_change 65 = .ok (.iload 4, 2) := by decide +kernel
theorem dX8_change_67 : decode cX8_change 67 = .ok (.ifCond .eq 16, 3) := by decide +kernel
theorem dX8_change_70 : decode cX8_change 70 = .ok (.aload_n 0, 1) := by decide +kernel
theorem dX8_change_71 : decode cX8_change 71 = .ok (.iload_n 1, 1) := by decide +kernel
theorem dX8_change_72 : decode cX8_change 72 = .ok (.iload_n 2, 1) := by decide +kernel
theorem dX8_change_73 : decode cX8_change 73 = .ok (.invokestatic 72, 3) := by decide +kernel
theorem dX8_change_76 : decode cX8_change 76 = .ok (.iload_n 3, 1) := by decide +kernel
theorem dX8_change_77 : decode cX8_change 77 = .ok (.invokevirtual 108, 3) := by decide +kernel
theorem dX8_change_80 : decode cX8_change 80 = .ok (.goto 9, 3) := by decide +kernel
theorem dX8_change_83 : decode cX8_change 83 = .ok (.aload_n 0, 1) := by decide +kernel
theorem dX8_change_84 : decode cX8_change 84 = .ok (.ldc 63, 2) := by decide +kernel
theorem dX8_change_86 : decode cX8_change 86 = .ok (.invokevirtual 80, 3) := by decide +kernel
theorem dX8_change_89 : decode cX8_change 89 = .ok (.ireturn, 1) := by decide +kernel
theorem dX8_face_0 : decode cX8_face 0 = .ok (.iload_n 2, 1) := by decide +kernel
theorem dX8_face_1 : decode cX8_face 1 = .ok (.ifCond .ne 10, 3) := by decide +kernel
theorem dX8_face_4 : decode cX8_face 4 = .ok (.iload_n 3, 1) := by decide +kernel
theorem dX8_face_5 : decode cX8_face 5 = .ok (.invokestatic 102, 3) := by decide +kernel
theorem dX8_face_8 : decode cX8_face 8 = .ok (.ifCond .ne 18, 3) := by decide +kernel
theorem dX8_face_11 : decode cX8_face 11 = .ok (.iload_n 2, 1) := by decide +kernel
theorem dX8_face_12 : decode cX8_face 12 = .ok (.iconst 1, 1) := by decide +kernel
theorem dX8_face_13 : decode cX8_face 13 = .ok (.if_icmp .ne 17, 3) := by decide +kernel
theorem dX8_face_16 : decode cX8_face 16 = .ok (.iload_n 3, 1) := by decide +kernel
theorem dX8_face_17 : decode cX8_face 17 = .ok (.iconst 0, 1) := by decide +kernel
theorem dX8_face_18 : decode cX8_face 18 = .ok (.bipush 99, 2) := by decide +kernel
theorem dX8_face_20 : decode cX8_face 20 = .ok (.invokestatic 68, 3) := by decide +kernel
theorem dX8_face_23 : decode cX8_face 23 = .ok (.ifCond .eq 7, 3) := by decide +kernel
theorem dX8_face_26 : decode cX8_face 26 = .ok (.iconst 1, 1) := by decide +kernel
theorem dX8_face_27 : decode cX8_face 27 = .ok (.goto 4, 3) := by decide +kernel
theorem dX8_face_30 : decode cX8_face 30 = .ok (.iconst 0, 1) := by decide +kernel
theorem dX8_face_31 : decode cX8_face 31 = .ok (.istore 4, 2) := by decide +kernel
theorem dX8_face_33 : decode cX8_face 33 = .ok (.iload_n 1, 1) := by decide +kernel
theorem dX8_face_34 : decode cX8_face 34 = .ok (.invokestatic 111, 3) := by decide +kernel
theorem dX8_face_37 : decode cX8_face 37 = .ok (.ifCond .eq 25, 3) := by decide +kernel
theorem dX8_face_40 : decode cX8_face 40 = .ok (.iload 4, 2) := by decide +kernel
theorem dX8_face_42 : decode cX8_face 42 = .ok (.ifCond .eq 20, 3) := by decide +kernel
theorem dX8_face_45 : decode cX8_face 45 = .ok (.aload_n 0, 1) := by decide +kernel
theorem dX8_face_46 : decode cX8_face 46 = .ok (.bipush 15, 2) := by decide +kernel
theorem dX8_face_48 : decode cX8_face 48 = .ok (.bipush 6, 2) := by decide +kernel
theorem dX8_face_50 : decode cX8_face 50 = .ok (.iload_n 2, 1) := by decide +kernel
theorem dX8_face_51 : decode cX8_face 51 = .ok (.imul, 1) := by decide +kernel
theorem dX8_face_52 : decode cX8_face 52 = .ok (.iadd, 1) := by decide +kernel
theorem dX8_face_53 : decode cX8_face 53 = .ok (.iload_n 1, 1) := by decide +kernel
theorem dX8_face_54 : decode cX8_face 54 = .ok (.iadd, 1) := by decide +kernel
theorem dX8_face_55 : decode cX8_face 55 = .ok (.iload_n 3, 1) := by decide +kernel
theorem dX8_face_56 : decode cX8_face 56 = .ok (.invokevirtual 108, 3) := by decide +kernel
theorem dX8_face_59 : decode cX8_face 59 = .ok (.goto 9, 3) := by decide +kernel
theorem dX8_face_62 : decode cX8_face 62 = .ok (.aload_n 0, 1) := by decide +kernel
theorem dX8_face_63 : decode cX8_face 63 = .ok (.ldc 63, 2) := by decide +kernel
theorem dX8_face_65 : decode cX8_face 65 = .ok (.invokevirtual 80, 3) := by decide +kernel
theorem dX8_face_68 : decode cX8_face 68 = .ok (.ireturn, 1) := by decide +kernel
theorem dX8_show_0 : decode cX8_show 0 = .ok (.iload_n 1, 1) := by decide +kernel
theorem dX8_show_1 : decode cX8_show 1 = .ok (.invokestatic 114, 3) := by decide +kernel
theorem dX8_show_4 : decode cX8_show 4 = .ok (.ifCond .eq 24, 3) := by decide +kernel
theorem dX8_show_7 : decode cX8_show 7 = .ok (.iload_n 2, 1) := by decide +kernel
theorem dX8_show_8 : decode cX8_show 8 = .ok (.iconst (-1), 1) := by decide +kernel
theorem dX8_show_9 : decode cX8_show 9 = .ok (.iconst 5, 1) := by decide +kernel
theorem dX8_show_10 : decode cX8_show 10 = .ok (.invokestatic 68, 3) := by decide +kernel
theorem dX8_show_13 : decode cX8_show 13 = .ok (.ifCond .eq 15, 3) := by decide +kernel
theorem dX8_show_16 : decode cX8_show 16 = .ok (.aload_n 0, 1) := by decide +kernel
theorem dX8_show_17 : decode cX8_show 17 = .ok (.bipush 27, 2) := by decide +kernel
theorem dX8_show_19 : decode cX8_show 19 = .ok (.iload_n 1, 1) := by decide +kernel
theorem dX8_show_20 : decode cX8_show 20 = .ok (.iadd, 1) := by decide +kernel
theorem dX8_show_21 : decode cX8_show 21 = .ok (.iload_n 2, 1) := by decide +kernel
theorem dX8_show_22 : decode cX8_show 22 = .ok (.invokevirtual 108, 3) := by decide +kernel
theorem dX8_show_25 : decode cX8_show 25 = .ok (.goto 9, 3) := by decide +kernel
theorem dX8_show_28 : decode cX8_show 28 = .ok (.aload_n 0, 1) := by decide +kernel
theorem dX8_show_29 : decode cX8_show 29 = .ok (.ldc 63, 2) := by decide +kernel
theorem dX8_show_31 : decode cX8_show 31 = .ok (.invokevirtual 80, 3) := by decide +kernel
theorem dX8_show_34 : decode cX8_show 34 = .ok (.ireturn, 1) := by decide +kernel
theorem dX8_pace_0 : decode cX8_pace 0 = .ok (.iload_n 1, 1) := by decide +kernel
theorem dX8_pace_1 : decode cX8_pace 1 = .ok (.iconst 1, 1) := by decide +kernel
theorem dX8_pace_2 : decode cX8_pace 2 = .ok (.bipush 20, 2) := by decide +kernel
theorem dX8_pace_4 : decode cX8_pace 4 = .ok (.invokestatic 68, 3) := by decide +kernel
theorem dX8_pace_7 : decode cX8_pace 7 = .ok (.ifCond .eq 12, 3) := by decide +kernel
theorem dX8_pace_10 : decode cX8_pace 10 = .ok (.aload_n 0, 1) := by decide +kernel
theorem dX8_pace_11 : decode cX8_pace 11 = .ok (.iconst 1, 1) := by decide +kernel
theorem dX8_pace_12 : decode cX8_pace 12 = .ok (.iload_n 1, 1) := by decide +kernel
theorem dX8_pace_13 : decode cX8_pace 13 = .ok (.invokevirtual 108, 3) := by decide +kernel
theorem dX8_pace_16 : decode cX8_pace 16 = .ok (.goto 9, 3) := by decide +kernel
theorem dX8_pace_19 : decode cX8_pace 19 = .ok (.aload_n 0, 1) := by decide +kernel
theorem dX8_pace_20 : decode cX8_pace 20 = .ok (.ldc 63, 2) := by decide +kernel
theorem dX8_pace_22 : decode cX8_pace 22 = .ok (.invokevirtual 80, 3) := by decide +kernel
theorem dX8_pace_25 : decode cX8_pace 25 = .ok (.ireturn, 1) := by decide +kernel
theorem dX8_likeBy_0 : decode cX8_likeBy 0 = .ok (.bipush 8, 2) := by decide +kernel
theorem dX8_likeBy_2 : decode cX8_likeBy 2 = .ok (.iload_n 1, 1) := by decide +kernel
theorem dX8_likeBy_3 : decode cX8_likeBy 3 = .ok (.iload_n 2, 1) := by decide +kernel
theorem dX8_likeBy_4 : decode cX8_likeBy 4 = .ok (.ixor, 1) := by decide +kernel
theorem dX8_likeBy_5 : decode cX8_likeBy 5 = .ok (.invokestatic 117, 3) := by decide +kernel
theorem dX8_likeBy_8 : decode cX8_likeBy 8 = .ok (.isub, 1) := by decide +kernel
theorem dX8_likeBy_9 : decode cX8_likeBy 9 = .ok (.istore_n 3, 1) := by decide +kernel
theorem dX8_likeBy_10 : decode cX8_likeBy 10 = .ok (.iload_n 0, 1) := by decide +kernel
theorem dX8_likeBy_11 : decode cX8_likeBy 11 = .ok (.tableswitch 89 1 6 #[37, 41, 47, 73, 77, 81], 37) := by decide +kernel
theorem dX8_likeBy_48 : decode cX8_likeBy 48 = .ok (.iconst 2, 1) := by decide +kernel
theorem dX8_likeBy_49 : decode cX8_likeBy 49 = .ok (.iload_n 3, 1) := by decide +kernel
theorem dX8_likeBy_50 : decode cX8_likeBy 50 = .ok (.imul, 1) := by decide +kernel
theorem dX8_likeBy_51 : decode cX8_likeBy 51 = .ok (.ireturn, 1) := by decide +kernel
theorem dX8_likeBy_52 : decode cX8_likeBy 52 = .ok (.iconst 2, 1) := by decide +kernel
theorem dX8_likeBy_53 : decode cX8_likeBy 53 = .ok (.iload_n 3, 1) := by decide +kernel
theorem dX8_likeBy_54 : decode cX8_likeBy 54 = .ok (.imul, 1) := by decide +kernel
theorem dX8_likeBy_55 : decode cX8_likeBy 55 = .ok (.iconst 2, 1) := by decide +kernel
theorem dX8_likeBy_56 : decode cX8_likeBy 56 = .ok (.iadd, 1) := by decide +kernel
theorem dX8_likeBy_57 : decode cX8_likeBy 57 = .ok (.ireturn, 1) := by decide +kernel
theorem dX8_likeBy_58 : decode cX8_likeBy 58 = .ok (.iconst 0, 1) := by decide +kernel
theorem dX8_likeBy_59 : decode cX8_likeBy 59 = .ok (.iconst 2, 1) := by decide +kernel
theorem dX8_likeBy_60 : decode cX8_likeBy 60 = .ok (.iload_n 3, 1) := by decide +kernel
theorem dX8_likeBy_61 : decode cX8_likeBy 61 = .ok (.imul, 1) := by decide +kernel
theorem dX8_likeBy_62 : decode cX8_likeBy 62 = .ok (.iconst 2, 1) := by decide +kernel
theorem dX8_likeBy_63 : decode cX8_likeBy 63 = .ok (.iadd, 1) := by decide +kernel
theorem dX8_likeBy_64 : decode cX8_likeBy 64 = .ok (.iload_n 2, 1) := by decide +kernel
theorem dX8_likeBy_65 : decode cX8_likeBy 65 = .ok (.bipush 7, 2) := by decide +kernel
theorem dX8_likeBy_67 : decode cX8_likeBy 67 = .ok (.invokestatic 120, 3) := by decide +kernel
theorem dX8_likeBy_70 : decode cX8_likeBy 70 = .ok (.ifCond .eq 7, 3) := by decide +kernel
theorem dX8_likeBy_73 : decode cX8_likeBy 73 = .ok (.iconst 5, 1) := by decide +kernel
theorem dX8_likeBy_74 : decode cX8_likeBy 74 = .ok (.goto 5, 3) := by decide +kernel
theorem dX8_likeBy_77 : decode cX8_likeBy 77 = .ok (.bipush (-5), 2) := by decide +kernel
theorem dX8_likeBy_79 : decode cX8_likeBy 79 = .ok (.iadd, 1) := by decide +kernel
theorem dX8_likeBy_80 : decode cX8_likeBy 80 = .ok (.invokestatic 123, 3) := by decide +kernel
theorem dX8_likeBy_83 : decode cX8_likeBy 83 = .ok (.ireturn, 1) := by decide +kernel
theorem dX8_likeBy_84 : decode cX8_likeBy 84 = .ok (.iload_n 3, 1) := by decide +kernel
theorem dX8_likeBy_85 : decode cX8_likeBy 85 = .ok (.iconst 3, 1) := by decide +kernel
theorem dX8_likeBy_86 : decode cX8_likeBy 86 = .ok (.iadd, 1) := by decide +kernel
theorem dX8_likeBy_87 : decode cX8_likeBy 87 = .ok (.ireturn, 1) := by decide +kernel
theorem dX8_likeBy_88 : decode cX8_likeBy 88 = .ok (.iload_n 3, 1) := by decide +kernel
theorem dX8_likeBy_89 : decode cX8_likeBy 89 = .ok (.iconst 2, 1) := by decide +kernel
theorem dX8_likeBy_90 : decode cX8_likeBy 90 = .ok (.idiv, 1) := by decide +kernel
theorem dX8_likeBy_91 : decode cX8_likeBy 91 = .ok (.ireturn, 1) := by decide +kernel
theorem dX8_likeBy_92 : decode cX8_likeBy 92 = .ok (.iconst 3, 1) := by decide +kernel
theorem dX8_likeBy_93 : decode cX8_likeBy 93 = .ok (.iload_n 3, 1) := by decide +kernel
theorem dX8_likeBy_94 : decode cX8_likeBy 94 = .ok (.iconst 2, 1) := by decide +kernel
theorem dX8_likeBy_95 : decode cX8_likeBy 95 = .ok (.idiv, 1) := by decide +kernel
theorem dX8_likeBy_96 : decode cX8_likeBy 96 = .ok (.invokestatic 123, 3) := by decide +kernel
theorem dX8_likeBy_99 : decode cX8_likeBy 99 = .ok (.ireturn, 1) := by decide +kernel
theorem dX8_likeBy_100 : decode cX8_likeBy 100 = .ok (.iload_n 3, 1) := by decide +kernel
theorem dX8_likeBy_101 : decode cX8_likeBy 101 = .ok (.ireturn, 1) := by decide +kernel
theorem dX8_likeTo_0 : decode cX8_likeTo 0 = .ok (.aload_n 0, 1) := by decide +kernel
theorem dX8_likeTo_1 : decode cX8_likeTo 1 = .ok (.iload_n 1, 1) := by decide +kernel
theorem dX8_likeTo_2 : decode cX8_likeTo 2 = .ok (.iconst 0, 1) := by decide +kernel
theorem dX8_likeTo_3 : decode cX8_likeTo 3 = .ok (.invokevirtual 92, 3) := by decide +kernel
theorem dX8_likeTo_6 : decode cX8_likeTo 6 = .ok (.aload_n 0, 1) := by decide +kernel
theorem dX8_likeTo_7 : decode cX8_likeTo 7 = .ok (.iload_n 1, 1) := by decide +kernel
theorem dX8_likeTo_8 : decode cX8_likeTo 8 = .ok (.iconst 1, 1) := by decide +kernel
theorem dX8_likeTo_9 : decode cX8_likeTo 9 = .ok (.invokevirtual 92, 3) := by decide +kernel
theorem dX8_likeTo_12 : decode cX8_likeTo 12 = .ok (.aload_n 0, 1) := by decide +kernel
theorem dX8_likeTo_13 : decode cX8_likeTo 13 = .ok (.getfield 9, 3) := by decide +kernel
theorem dX8_likeTo_16 : decode cX8_likeTo 16 = .ok (.bipush 15, 2) := by decide +kernel
theorem dX8_likeTo_18 : decode cX8_likeTo 18 = .ok (.iload_n 2, 1) := by decide +kernel
theorem dX8_likeTo_19 : decode cX8_likeTo 19 = .ok (.iadd, 1) := by decide +kernel
theorem dX8_likeTo_20 : decode cX8_likeTo 20 = .ok (.iaload, 1) := by decide +kernel
theorem dX8_likeTo_21 : decode cX8_likeTo 21 = .ok (.invokestatic 128, 3) := by decide +kernel
theorem dX8_likeTo_24 : decode cX8_likeTo 24 = .ok (.ireturn, 1) := by decide +kernel
theorem dX8_likeness_0 : decode cX8_likeness 0 = .ok (.iconst 0, 1) := by decide +kernel
theorem dX8_likeness_1 : decode cX8_likeness 1 = .ok (.istore_n 2, 1) := by decide +kernel
theorem dX8_likeness_2 : decode cX8_likeness 2 = .ok (.iconst 0, 1) := by decide +kernel
theorem dX8_likeness_3 : decode cX8_likeness 3 = .ok (.istore_n 3, 1) := by decide +kernel
theorem dX8_likeness_4 : decode cX8_likeness 4 = .ok (.iload_n 3, 1) := by decide +kernel
theorem dX8_likeness_5 : decode cX8_likeness 5 = .ok (.aload_n 0, 1) := by decide +kernel
theorem dX8_likeness_6 : decode cX8_likeness 6 = .ok (.getfield 9, 3) := by decide +kernel
theorem dX8_likeness_9 : decode cX8_likeness 9 = .ok (.iconst 2, 1) := by decide +kernel
theorem dX8_likeness_10 : decode cX8_likeness 10 = .ok (.iaload, 1) := by decide +kernel
theorem dX8_likeness_11 : decode cX8_likeness 11 = .ok (.if_icmp .ge 52, 3) := by decide +kernel
theorem dX8_likeness_14 : decode cX8_likeness 14 = .ok (.iload_n 2, 1) := by decide +kernel
theorem dX8_likeness_15 : decode cX8_likeness 15 = .ok (.aload_n 0, 1) := by decide +kernel
theorem dX8_likeness_16 : decode cX8_likeness 16 = .ok (.getfield 9, 3) := by decide +kernel
theorem dX8_likeness_19 : decode cX8_likeness 19 = .ok (.bipush 27, 2) := by decide +kernel
theorem dX8_likeness_21 : decode cX8_likeness 21 = .ok (.iload_n 1, 1) := by decide +kernel
theorem dX8_likeness_22 : decode cX8_likeness 22 = .ok (.iadd, 1) := by decide +kernel
theorem dX8_likeness_23 : decode cX8_likeness 23 = .ok (.iaload, 1) := by decide +kernel
theorem dX8_likeness_24 : decode cX8_likeness 24 = .ok (.ifCond .lt 30, 3) := by decide +kernel
theorem dX8_likeness_27 : decode cX8_likeness 27 = .ok (.aload_n 0, 1) := by decide +kernel
theorem dX8_likeness_28 : decode cX8_likeness 28 = .ok (.iload_n 3, 1) := by decide +kernel
theorem dX8_likeness_29 : decode cX8_likeness 29 = .ok (.iconst 3, 1) := by decide +kernel
theorem dX8_likeness_30 : decode cX8_likeness 30 = .ok (.invokevirtual 92, 3) := by decide +kernel
theorem dX8_likeness_33 : decode cX8_likeness 33 = .ok (.iload_n 1, 1) := by decide +kernel
theorem dX8_likeness_34 : decode cX8_likeness 34 = .ok (.if_icmp .ne 20, 3) := by decide +kernel
theorem dX8_likeness_37 : decode cX8_likeness 37 = .ok (.aload_n 0, 1) := by decide +kernel
theorem dX8_likeness_38 : decode cX8_likeness 38 = .ok (.iload_n 3, 1) := by decide +kernel
theorem dX8_likeness_39 : decode cX8_likeness 39 = .ok (.aload_n 0, 1) := by decide +kernel
theorem dX8_likeness_40 : decode cX8_likeness 40 = .ok (.getfield 9, 3) := by decide +kernel
theorem dX8_likeness_43 : decode cX8_likeness 43 = .ok (.bipush 27, 2) := by decide +kernel
theorem dX8_likeness_45 : decode cX8_likeness 45 = .ok (.iload_n 1, 1) := by decide +kernel
theorem dX8_likeness_46 : decode cX8_likeness 46 = .ok (.iadd, 1) := by decide +kernel
theorem dX8_likeness_47 : decode cX8_likeness 47 = .ok (.iaload, 1) := by decide +kernel
theorem dX8_likeness_48 : decode cX8_likeness 48 = .ok (.invokevirtual 132, 3) := by decide +kernel
theorem dX8_likeness_51 : decode cX8_likeness 51 = .ok (.goto 4, 3) := by decide +kernel
theorem dX8_likeness_54 : decode cX8_likeness 54 = .ok (.iconst 0, 1) := by decide +kernel
theorem dX8_likeness_55 : decode cX8_likeness 55 = .ok (.iadd, 1) := by decide +kernel
theorem dX8_likeness_56 : decode cX8_likeness 56 = .ok (.istore_n 2, 1) := by decide +kernel
theorem dX8_likeness_57 : decode cX8_likeness 57 = .ok (.iinc 3 1, 3) := by decide +kernel
theorem dX8_likeness_60 : decode cX8_likeness 60 = .ok (.goto (-56), 3) := by decide +kernel
theorem dX8_likeness_63 : decode cX8_likeness 63 = .ok (.iload_n 2, 1) := by decide +kernel
theorem dX8_likeness_64 : decode cX8_likeness 64 = .ok (.ireturn, 1) := by decide +kernel
