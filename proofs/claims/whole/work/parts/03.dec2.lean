theorem dX8_partsAt_0 : decode cX8_partsAt 0 = .ok (.iconst 0, 1) := by decide +kernel
theorem dX8_partsAt_1 : decode cX8_partsAt 1 = .ok (.istore_n 2, 1) := by decide +kernel
theorem dX8_partsAt_2 : decode cX8_partsAt 2 = .ok (.iconst 0, 1) := by decide +kernel
theorem dX8_partsAt_3 : decode cX8_partsAt 3 = .ok (.istore_n 3, 1) := by decide +kernel
theorem dX8_partsAt_4 : decode cX8_partsAt 4 = .ok (.iload_n 3, 1) := by decide +kernel
theorem dX8_partsAt_5 : decode cX8_partsAt 5 = .ok (.aload_n 0, 1) := by decide +kernel
theorem dX8_partsAt_6 : decode cX8_partsAt 6 = .ok (.getfield 9, 3) := by decide +kernel
theorem dX8_partsAt_9 : decode cX8_partsAt 9 = .ok (.iconst 2, 1) := by decide +kernel
theorem dX8_partsAt_10 : decode cX8_partsAt 10 = .ok (.iaload, 1) := by decide +kernel
theorem dX8_partsAt_11 : decode cX8_partsAt 11 = .ok (.if_icmp .ge 29, 3) := by decide +kernel
theorem dX8_partsAt_14 : decode cX8_partsAt 14 = .ok (.iload_n 2, 1) := by decide +kernel
theorem dX8_partsAt_15 : decode cX8_partsAt 15 = .ok (.aload_n 0, 1) := by decide +kernel
theorem dX8_partsAt_16 : decode cX8_partsAt 16 = .ok (.iload_n 3, 1) := by decide +kernel
theorem dX8_partsAt_17 : decode cX8_partsAt 17 = .ok (.iconst 3, 1) := by decide +kernel
theorem dX8_partsAt_18 : decode cX8_partsAt 18 = .ok (.invokevirtual 92, 3) := by decide +kernel
theorem dX8_partsAt_21 : decode cX8_partsAt 21 = .ok (.iload_n 1, 1) := by decide +kernel
theorem dX8_partsAt_22 : decode cX8_partsAt 22 = .ok (.if_icmp .ne 9, 3) := by decide +kernel
theorem dX8_partsAt_25 : decode cX8_partsAt 25 = .ok (.iconst 1, 1) := by decide +kernel
theorem dX8_partsAt_26 : decode cX8_partsAt 26 = .ok (.iload_n 3, 1) := by decide +kernel
theorem dX8_partsAt_27 : decode cX8_partsAt 27 = .ok (.ishl, 1) := by decide +kernel
theorem dX8_partsAt_28 : decode cX8_partsAt 28 = .ok (.goto 4, 3) := by decide +kernel
theorem dX8_partsAt_31 : decode cX8_partsAt 31 = .ok (.iconst 0, 1) := by decide +kernel
theorem dX8_partsAt_32 : decode cX8_partsAt 32 = .ok (.ior, 1) := by decide +kernel
theorem dX8_partsAt_33 : decode cX8_partsAt 33 = .ok (.istore_n 2, 1) := by decide +kernel
theorem dX8_partsAt_34 : decode cX8_partsAt 34 = .ok (.iinc 3 1, 3) := by decide +kernel
theorem dX8_partsAt_37 : decode cX8_partsAt 37 = .ok (.goto (-33), 3) := by decide +kernel
theorem dX8_partsAt_40 : decode cX8_partsAt 40 = .ok (.iload_n 2, 1) := by decide +kernel
theorem dX8_partsAt_41 : decode cX8_partsAt 41 = .ok (.ireturn, 1) := by decide +kernel
theorem dX8_roomOf_0 : decode cX8_roomOf 0 = .ok (.aload_n 0, 1) := by decide +kernel
theorem dX8_roomOf_1 : decode cX8_roomOf 1 = .ok (.getfield 9, 3) := by decide +kernel
theorem dX8_roomOf_4 : decode cX8_roomOf 4 = .ok (.iconst 0, 1) := by decide +kernel
theorem dX8_roomOf_5 : decode cX8_roomOf 5 = .ok (.iaload, 1) := by decide +kernel
theorem dX8_roomOf_6 : decode cX8_roomOf 6 = .ok (.aload_n 0, 1) := by decide +kernel
theorem dX8_roomOf_7 : decode cX8_roomOf 7 = .ok (.getfield 9, 3) := by decide +kernel
theorem dX8_roomOf_10 : decode cX8_roomOf 10 = .ok (.bipush 73, 2) := by decide +kernel
theorem dX8_roomOf_12 : decode cX8_roomOf 12 = .ok (.iload_n 1, 1) := by decide +kernel
theorem dX8_roomOf_13 : decode cX8_roomOf 13 = .ok (.iadd, 1) := by decide +kernel
theorem dX8_roomOf_14 : decode cX8_roomOf 14 = .ok (.iaload, 1) := by decide +kernel
theorem dX8_roomOf_15 : decode cX8_roomOf 15 = .ok (.isub, 1) := by decide +kernel
theorem dX8_roomOf_16 : decode cX8_roomOf 16 = .ok (.aload_n 0, 1) := by decide +kernel
theorem dX8_roomOf_17 : decode cX8_roomOf 17 = .ok (.getfield 9, 3) := by decide +kernel
theorem dX8_roomOf_20 : decode cX8_roomOf 20 = .ok (.iconst 1, 1) := by decide +kernel
theorem dX8_roomOf_21 : decode cX8_roomOf 21 = .ok (.iaload, 1) := by decide +kernel
theorem dX8_roomOf_22 : decode cX8_roomOf 22 = .ok (.idiv, 1) := by decide +kernel
theorem dX8_roomOf_23 : decode cX8_roomOf 23 = .ok (.istore_n 2, 1) := by decide +kernel
theorem dX8_roomOf_24 : decode cX8_roomOf 24 = .ok (.iload_n 2, 1) := by decide +kernel
theorem dX8_roomOf_25 : decode cX8_roomOf 25 = .ok (.bipush 6, 2) := by decide +kernel
theorem dX8_roomOf_27 : decode cX8_roomOf 27 = .ok (.if_icmp .ge 7, 3) := by decide +kernel
theorem dX8_roomOf_30 : decode cX8_roomOf 30 = .ok (.iload_n 2, 1) := by decide +kernel
theorem dX8_roomOf_31 : decode cX8_roomOf 31 = .ok (.goto 4, 3) := by decide +kernel
theorem dX8_roomOf_34 : decode cX8_roomOf 34 = .ok (.iconst (-1), 1) := by decide +kernel
theorem dX8_roomOf_35 : decode cX8_roomOf 35 = .ok (.ireturn, 1) := by decide +kernel
theorem dX8_visitorsIn_0 : decode cX8_visitorsIn 0 = .ok (.iconst 0, 1) := by decide +kernel
theorem dX8_visitorsIn_1 : decode cX8_visitorsIn 1 = .ok (.istore_n 2, 1) := by decide +kernel
theorem dX8_visitorsIn_2 : decode cX8_visitorsIn 2 = .ok (.iconst 0, 1) := by decide +kernel
theorem dX8_visitorsIn_3 : decode cX8_visitorsIn 3 = .ok (.istore_n 3, 1) := by decide +kernel
theorem dX8_visitorsIn_4 : decode cX8_visitorsIn 4 = .ok (.iload_n 3, 1) := by decide +kernel
theorem dX8_visitorsIn_5 : decode cX8_visitorsIn 5 = .ok (.aload_n 0, 1) := by decide +kernel
theorem dX8_visitorsIn_6 : decode cX8_visitorsIn 6 = .ok (.getfield 9, 3) := by decide +kernel
theorem dX8_visitorsIn_9 : decode cX8_visitorsIn 9 = .ok (.iconst 3, 1) := by decide +kernel
theorem dX8_visitorsIn_10 : decode cX8_visitorsIn 10 = .ok (.iaload, 1) := by decide +kernel
theorem dX8_visitorsIn_11 : decode cX8_visitorsIn 11 = .ok (.if_icmp .ge 28, 3) := by decide +kernel
theorem dX8_visitorsIn_14 : decode cX8_visitorsIn 14 = .ok (.iload_n 2, 1) := by decide +kernel
theorem dX8_visitorsIn_15 : decode cX8_visitorsIn 15 = .ok (.aload_n 0, 1) := by decide +kernel
theorem dX8_visitorsIn_16 : decode cX8_visitorsIn 16 = .ok (.iload_n 3, 1) := by decide +kernel
theorem dX8_visitorsIn_17 : decode cX8_visitorsIn 17 = .ok (.invokevirtual 135, 3) := by decide +kernel
theorem dX8_visitorsIn_20 : decode cX8_visitorsIn 20 = .ok (.iload_n 1, 1) := by decide +kernel
theorem dX8_visitorsIn_21 : decode cX8_visitorsIn 21 = .ok (.if_icmp .ne 9, 3) := by decide +kernel
theorem dX8_visitorsIn_24 : decode cX8_visitorsIn 24 = .ok (.iconst 1, 1) := by decide +kernel
theorem dX8_visitorsIn_25 : decode cX8_visitorsIn 25 = .ok (.iload_n 3, 1) := by decide +kernel
theorem dX8_visitorsIn_26 : decode cX8_visitorsIn 26 = .ok (.ishl, 1) := by decide +kernel
theorem dX8_visitorsIn_27 : decode cX8_visitorsIn 27 = .ok (.goto 4, 3) := by decide +kernel
theorem dX8_visitorsIn_30 : decode cX8_visitorsIn 30 = .ok (.iconst 0, 1) := by decide +kernel
theorem dX8_visitorsIn_31 : decode cX8_visitorsIn 31 = .ok (.ior, 1) := by decide +kernel
theorem dX8_visitorsIn_32 : decode cX8_visitorsIn 32 = .ok (.istore_n 2, 1) := by decide +kernel
theorem dX8_visitorsIn_33 : decode cX8_visitorsIn 33 = .ok (.iinc 3 1, 3) := by decide +kernel
theorem dX8_visitorsIn_36 : decode cX8_visitorsIn 36 = .ok (.goto (-32), 3) := by decide +kernel
theorem dX8_visitorsIn_39 : decode cX8_visitorsIn 39 = .ok (.iload_n 2, 1) := by decide +kernel
theorem dX8_visitorsIn_40 : decode cX8_visitorsIn 40 = .ok (.ireturn, 1) := by decide +kernel
theorem dX8_room_0 : decode cX8_room 0 = .ok (.iload_n 1, 1) := by decide +kernel
theorem dX8_room_1 : decode cX8_room 1 = .ok (.invokestatic 114, 3) := by decide +kernel
theorem dX8_room_4 : decode cX8_room 4 = .ok (.ifCond .eq 12, 3) := by decide +kernel
theorem dX8_room_7 : decode cX8_room 7 = .ok (.iload_n 2, 1) := by decide +kernel
theorem dX8_room_8 : decode cX8_room 8 = .ok (.iconst 0, 1) := by decide +kernel
theorem dX8_room_9 : decode cX8_room 9 = .ok (.iconst 3, 1) := by decide +kernel
theorem dX8_room_10 : decode cX8_room 10 = .ok (.invokestatic 68, 3) := by decide +kernel
theorem dX8_room_13 : decode cX8_room 13 = .ok (.ifCond .ne 10, 3) := by decide +kernel
theorem dX8_room_16 : decode cX8_room 16 = .ok (.aload_n 0, 1) := by decide +kernel
theorem dX8_room_17 : decode cX8_room 17 = .ok (.ldc 63, 2) := by decide +kernel
theorem dX8_room_19 : decode cX8_room 19 = .ok (.invokevirtual 80, 3) := by decide +kernel
theorem dX8_room_22 : decode cX8_room 22 = .ok (.ireturn, 1) := by decide +kernel
theorem dX8_room_23 : decode cX8_room 23 = .ok (.iload_n 2, 1) := by decide +kernel
theorem dX8_room_24 : decode cX8_room 24 = .ok (.ifCond .ne 15, 3) := by decide +kernel
theorem dX8_room_27 : decode cX8_room 27 = .ok (.aload_n 0, 1) := by decide +kernel
theorem dX8_room_28 : decode cX8_room 28 = .ok (.getfield 9, 3) := by decide +kernel
theorem dX8_room_31 : decode cX8_room 31 = .ok (.bipush 27, 2) := by decide +kernel
theorem dX8_room_33 : decode cX8_room 33 = .ok (.iload_n 1, 1) := by decide +kernel
theorem dX8_room_34 : decode cX8_room 34 = .ok (.iadd, 1) := by decide +kernel
theorem dX8_room_35 : decode cX8_room 35 = .ok (.iaload, 1) := by decide +kernel
theorem dX8_room_36 : decode cX8_room 36 = .ok (.goto 34, 3) := by decide +kernel
theorem dX8_room_39 : decode cX8_room 39 = .ok (.iload_n 2, 1) := by decide +kernel
theorem dX8_room_40 : decode cX8_room 40 = .ok (.iconst 1, 1) := by decide +kernel
theorem dX8_room_41 : decode cX8_room 41 = .ok (.if_icmp .ne 11, 3) := by decide +kernel
theorem dX8_room_44 : decode cX8_room 44 = .ok (.aload_n 0, 1) := by decide +kernel
theorem dX8_room_45 : decode cX8_room 45 = .ok (.iload_n 1, 1) := by decide +kernel
theorem dX8_room_46 : decode cX8_room 46 = .ok (.invokevirtual 138, 3) := by decide +kernel
theorem dX8_room_49 : decode cX8_room 49 = .ok (.goto 21, 3) := by decide +kernel
theorem dX8_room_52 : decode cX8_room 52 = .ok (.iload_n 2, 1) := by decide +kernel
theorem dX8_room_53 : decode cX8_room 53 = .ok (.iconst 2, 1) := by decide +kernel
theorem dX8_room_54 : decode cX8_room 54 = .ok (.if_icmp .ne 11, 3) := by decide +kernel
theorem dX8_room_57 : decode cX8_room 57 = .ok (.aload_n 0, 1) := by decide +kernel
theorem dX8_room_58 : decode cX8_room 58 = .ok (.iload_n 1, 1) := by decide +kernel
theorem dX8_room_59 : decode cX8_room 59 = .ok (.invokevirtual 141, 3) := by decide +kernel
theorem dX8_room_62 : decode cX8_room 62 = .ok (.goto 8, 3) := by decide +kernel
theorem dX8_room_65 : decode cX8_room 65 = .ok (.aload_n 0, 1) := by decide +kernel
theorem dX8_room_66 : decode cX8_room 66 = .ok (.iload_n 1, 1) := by decide +kernel
theorem dX8_room_67 : decode cX8_room 67 = .ok (.invokevirtual 144, 3) := by decide +kernel
theorem dX8_room_70 : decode cX8_room 70 = .ok (.ireturn, 1) := by decide +kernel
theorem dX8_like_0 : decode cX8_like 0 = .ok (.aload_n 0, 1) := by decide +kernel
theorem dX8_like_1 : decode cX8_like 1 = .ok (.iload_n 1, 1) := by decide +kernel
theorem dX8_like_2 : decode cX8_like 2 = .ok (.invokevirtual 99, 3) := by decide +kernel
theorem dX8_like_5 : decode cX8_like 5 = .ok (.ifCond .eq 19, 3) := by decide +kernel
theorem dX8_like_8 : decode cX8_like 8 = .ok (.iload_n 2, 1) := by decide +kernel
theorem dX8_like_9 : decode cX8_like 9 = .ok (.invokestatic 111, 3) := by decide +kernel
theorem dX8_like_12 : decode cX8_like 12 = .ok (.ifCond .eq 12, 3) := by decide +kernel
theorem dX8_like_15 : decode cX8_like 15 = .ok (.aload_n 0, 1) := by decide +kernel
theorem dX8_like_16 : decode cX8_like 16 = .ok (.iload_n 1, 1) := by decide +kernel
theorem dX8_like_17 : decode cX8_like 17 = .ok (.iload_n 2, 1) := by decide +kernel
theorem dX8_like_18 : decode cX8_like 18 = .ok (.invokevirtual 132, 3) := by decide +kernel
theorem dX8_like_21 : decode cX8_like 21 = .ok (.goto 9, 3) := by decide +kernel
theorem dX8_like_24 : decode cX8_like 24 = .ok (.aload_n 0, 1) := by decide +kernel
theorem dX8_like_25 : decode cX8_like 25 = .ok (.ldc 63, 2) := by decide +kernel
theorem dX8_like_27 : decode cX8_like 27 = .ok (.invokevirtual 80, 3) := by decide +kernel
theorem dX8_like_30 : decode cX8_like 30 = .ok (.ireturn, 1) := by decide +kernel
theorem dX8_carryOf_0 : decode cX8_carryOf 0 = .ok (.aload_n 0, 1) := by decide +kernel
theorem dX8_carryOf_1 : decode cX8_carryOf 1 = .ok (.iload_n 1, 1) := by decide +kernel
theorem dX8_carryOf_2 : decode cX8_carryOf 2 = .ok (.iconst 3, 1) := by decide +kernel
theorem dX8_carryOf_3 : decode cX8_carryOf 3 = .ok (.invokevirtual 92, 3) := by decide +kernel
theorem dX8_carryOf_6 : decode cX8_carryOf 6 = .ok (.istore_n 3, 1) := by decide +kernel
theorem dX8_carryOf_7 : decode cX8_carryOf 7 = .ok (.iload_n 3, 1) := by decide +kernel
theorem dX8_carryOf_8 : decode cX8_carryOf 8 = .ok (.ifCond .lt 7, 3) := by decide +kernel
theorem dX8_carryOf_11 : decode cX8_carryOf 11 = .ok (.iload_n 2, 1) := by decide +kernel
theorem dX8_carryOf_12 : decode cX8_carryOf 12 = .ok (.ifCond .ge 8, 3) := by decide +kernel
theorem dX8_carryOf_15 : decode cX8_carryOf 15 = .ok (.bipush 6, 2) := by decide +kernel
theorem dX8_carryOf_17 : decode cX8_carryOf 17 = .ok (.goto 9, 3) := by decide +kernel
theorem dX8_carryOf_20 : decode cX8_carryOf 20 = .ok (.iload_n 3, 1) := by decide +kernel
theorem dX8_carryOf_21 : decode cX8_carryOf 21 = .ok (.iload_n 2, 1) := by decide +kernel
theorem dX8_carryOf_22 : decode cX8_carryOf 22 = .ok (.isub, 1) := by decide +kernel
theorem dX8_carryOf_23 : decode cX8_carryOf 23 = .ok (.invokestatic 147, 3) := by decide +kernel
theorem dX8_carryOf_26 : decode cX8_carryOf 26 = .ok (.istore 4, 2) := by decide +kernel
theorem dX8_carryOf_28 : decode cX8_carryOf 28 = .ok (.aload_n 0, 1) := by decide +kernel
theorem dX8_carryOf_29 : decode cX8_carryOf 29 = .ok (.iload_n 1, 1) := by decide +kernel
theorem dX8_carryOf_30 : decode cX8_carryOf 30 = .ok (.iconst 0, 1) := by decide +kernel
theorem dX8_carryOf_31 : decode cX8_carryOf 31 = .ok (.invokevirtual 92, 3) := by decide +kernel
theorem dX8_carryOf_34 : decode cX8_carryOf 34 = .ok (.tableswitch 63 2 6 #[34, 39, 46, 61, 61], 34) := by decide +kernel
theorem dX8_carryOf_68 : decode cX8_carryOf 68 = .ok (.iload 4, 2) := by decide +kernel
theorem dX8_carryOf_70 : decode cX8_carryOf 70 = .ok (.iconst 3, 1) := by decide +kernel
theorem dX8_carryOf_71 : decode cX8_carryOf 71 = .ok (.iadd, 1) := by decide +kernel
theorem dX8_carryOf_72 : decode cX8_carryOf 72 = .ok (.ireturn, 1) := by decide +kernel
theorem dX8_carryOf_73 : decode cX8_carryOf 73 = .ok (.iconst 2, 1) := by decide +kernel
theorem dX8_carryOf_74 : decode cX8_carryOf 74 = .ok (.iload 4, 2) := by decide +kernel
theorem dX8_carryOf_76 : decode cX8_carryOf 76 = .ok (.iconst 3, 1) := by decide +kernel
theorem dX8_carryOf_77 : decode cX8_carryOf 77 = .ok (.iadd, 1) := by decide +kernel
theorem dX8_carryOf_78 : decode cX8_carryOf 78 = .ok (.imul, 1) := by decide +kernel
theorem dX8_carryOf_79 : decode cX8_carryOf 79 = .ok (.ireturn, 1) := by decide +kernel
theorem dX8_carryOf_80 : decode cX8_carryOf 80 = .ok (.iload 4, 2) := by decide +kernel
theorem dX8_carryOf_82 : decode cX8_carryOf 82 = .ok (.iconst 1, 1) := by decide +kernel
theorem dX8_carryOf_83 : decode cX8_carryOf 83 = .ok (.iadd, 1) := by decide +kernel
theorem dX8_carryOf_84 : decode cX8_carryOf 84 = .ok (.aload_n 0, 1) := by decide +kernel
theorem dX8_carryOf_85 : decode cX8_carryOf 85 = .ok (.iload_n 1, 1) := by decide +kernel
theorem dX8_carryOf_86 : decode cX8_carryOf 86 = .ok (.iconst 2, 1) := by decide +kernel
theorem dX8_carryOf_87 : decode cX8_carryOf 87 = .ok (.invokevirtual 92, 3) := by decide +kernel
theorem dX8_carryOf_90 : decode cX8_carryOf 90 = .ok (.bipush 10, 2) := by decide +kernel
theorem dX8_carryOf_92 : decode cX8_carryOf 92 = .ok (.idiv, 1) := by decide +kernel
theorem dX8_carryOf_93 : decode cX8_carryOf 93 = .ok (.iadd, 1) := by decide +kernel
theorem dX8_carryOf_94 : decode cX8_carryOf 94 = .ok (.ireturn, 1) := by decide +kernel
theorem dX8_carryOf_95 : decode cX8_carryOf 95 = .ok (.iconst 1, 1) := by decide +kernel
theorem dX8_carryOf_96 : decode cX8_carryOf 96 = .ok (.ireturn, 1) := by decide +kernel
theorem dX8_carryOf_97 : decode cX8_carryOf 97 = .ok (.iload 4, 2) := by decide +kernel
theorem dX8_carryOf_99 : decode cX8_carryOf 99 = .ok (.iconst 1, 1) := by decide +kernel
theorem dX8_carryOf_100 : decode cX8_carryOf 100 = .ok (.iadd, 1) := by decide +kernel
theorem dX8_carryOf_101 : decode cX8_carryOf 101 = .ok (.ireturn, 1) := by decide +kernel
theorem dX8_carries_0 : decode cX8_carries 0 = .ok (.aload_n 0, 1) := by decide +kernel
theorem dX8_carries_1 : decode cX8_carries 1 = .ok (.iload_n 1, 1) := by decide +kernel
theorem dX8_carries_2 : decode cX8_carries 2 = .ok (.invokevirtual 99, 3) := by decide +kernel
theorem dX8_carries_5 : decode cX8_carries 5 = .ok (.ifCond .eq 10, 3) := by decide +kernel
theorem dX8_carries_8 : decode cX8_carries 8 = .ok (.iload_n 2, 1) := by decide +kernel
theorem dX8_carries_9 : decode cX8_carries 9 = .ok (.invokestatic 105, 3) := by decide +kernel
theorem dX8_carries_12 : decode cX8_carries 12 = .ok (.ifCond .ne 10, 3) := by decide +kernel
theorem dX8_carries_15 : decode cX8_carries 15 = .ok (.aload_n 0, 1) := by decide +kernel
theorem dX8_carries_16 : decode cX8_carries 16 = .ok (.ldc 63, 2) := by decide +kernel
theorem dX8_carries_18 : decode cX8_carries 18 = .ok (.invokevirtual 80, 3) := by decide +kernel
theorem dX8_carries_21 : decode cX8_carries 21 = .ok (.ireturn, 1) := by decide +kernel
theorem dX8_carries_22 : decode cX8_carries 22 = .ok (.aload_n 0, 1) := by decide +kernel
theorem dX8_carries_23 : decode cX8_carries 23 = .ok (.iload_n 1, 1) := by decide +kernel
theorem dX8_carries_24 : decode cX8_carries 24 = .ok (.iconst 3, 1) := by decide +kernel
theorem dX8_carries_25 : decode cX8_carries 25 = .ok (.invokevirtual 92, 3) := by decide +kernel
theorem dX8_carries_28 : decode cX8_carries 28 = .ok (.iload_n 2, 1) := by decide +kernel
theorem dX8_carries_29 : decode cX8_carries 29 = .ok (.if_icmp .ne 12, 3) := by decide +kernel
theorem dX8_carries_32 : decode cX8_carries 32 = .ok (.aload_n 0, 1) := by decide +kernel
theorem dX8_carries_33 : decode cX8_carries 33 = .ok (.ldc 150, 2) := by decide +kernel
theorem dX8_carries_35 : decode cX8_carries 35 = .ok (.invokevirtual 80, 3) := by decide +kernel
theorem dX8_carries_38 : decode cX8_carries 38 = .ok (.goto 9, 3) := by decide +kernel
theorem dX8_carries_41 : decode cX8_carries 41 = .ok (.aload_n 0, 1) := by decide +kernel
theorem dX8_carries_42 : decode cX8_carries 42 = .ok (.iload_n 1, 1) := by decide +kernel
theorem dX8_carries_43 : decode cX8_carries 43 = .ok (.iload_n 2, 1) := by decide +kernel
theorem dX8_carries_44 : decode cX8_carries 44 = .ok (.invokevirtual 151, 3) := by decide +kernel
theorem dX8_carries_47 : decode cX8_carries 47 = .ok (.ireturn, 1) := by decide +kernel
theorem dX8_comesIn_0 : decode cX8_comesIn 0 = .ok (.aload_n 0, 1) := by decide +kernel
theorem dX8_comesIn_1 : decode cX8_comesIn 1 = .ok (.getfield 9, 3) := by decide +kernel
theorem dX8_comesIn_4 : decode cX8_comesIn 4 = .ok (.iconst 3, 1) := by decide +kernel
theorem dX8_comesIn_5 : decode cX8_comesIn 5 = .ok (.iaload, 1) := by decide +kernel
theorem dX8_comesIn_6 : decode cX8_comesIn 6 = .ok (.istore_n 1, 1) := by decide +kernel
theorem dX8_comesIn_7 : decode cX8_comesIn 7 = .ok (.aload_n 0, 1) := by decide +kernel
theorem dX8_comesIn_8 : decode cX8_comesIn 8 = .ok (.getfield 9, 3) := by decide +kernel
theorem dX8_comesIn_11 : decode cX8_comesIn 11 = .ok (.bipush 73, 2) := by decide +kernel
theorem dX8_comesIn_13 : decode cX8_comesIn 13 = .ok (.iload_n 1, 1) := by decide +kernel
theorem dX8_comesIn_14 : decode cX8_comesIn 14 = .ok (.iadd, 1) := by decide +kernel
theorem dX8_comesIn_15 : decode cX8_comesIn 15 = .ok (.aload_n 0, 1) := by decide +kernel
theorem dX8_comesIn_16 : decode cX8_comesIn 16 = .ok (.getfield 9, 3) := by decide +kernel
theorem dX8_comesIn_19 : decode cX8_comesIn 19 = .ok (.iconst 0, 1) := by decide +kernel
theorem dX8_comesIn_20 : decode cX8_comesIn 20 = .ok (.iaload, 1) := by decide +kernel
theorem dX8_comesIn_21 : decode cX8_comesIn 21 = .ok (.iastore, 1) := by decide +kernel
theorem dX8_comesIn_22 : decode cX8_comesIn 22 = .ok (.iconst 0, 1) := by decide +kernel
theorem dX8_comesIn_23 : decode cX8_comesIn 23 = .ok (.istore_n 2, 1) := by decide +kernel
theorem dX8_comesIn_24 : decode cX8_comesIn 24 = .ok (.iload_n 2, 1) := by decide +kernel
theorem dX8_comesIn_25 : decode cX8_comesIn 25 = .ok (.bipush 10, 2) := by decide +kernel
theorem dX8_comesIn_27 : decode cX8_comesIn 27 = .ok (.if_icmp .ge 24, 3) := by decide +kernel
theorem dX8_comesIn_30 : decode cX8_comesIn 30 = .ok (.aload_n 0, 1) := by decide +kernel
theorem dX8_comesIn_31 : decode cX8_comesIn 31 = .ok (.getfield 9, 3) := by decide +kernel
theorem dX8_comesIn_34 : decode cX8_comesIn 34 = .ok (.bipush 77, 2) := by decide +kernel
theorem dX8_comesIn_36 : decode cX8_comesIn 36 = .ok (.bipush 10, 2) := by decide +kernel
theorem dX8_comesIn_38 : decode cX8_comesIn 38 = .ok (.iload_n 1, 1) := by decide +kernel
theorem dX8_comesIn_39 : decode cX8_comesIn 39 = .ok (.imul, 1) := by decide +kernel
theorem dX8_comesIn_40 : decode cX8_comesIn 40 = .ok (.iadd, 1) := by decide +kernel
theorem dX8_comesIn_41 : decode cX8_comesIn 41 = .ok (.iload_n 2, 1) := by decide +kernel
theorem dX8_comesIn_42 : decode cX8_comesIn 42 = .ok (.iadd, 1) := by decide +kernel
theorem dX8_comesIn_43 : decode cX8_comesIn 43 = .ok (.iconst 0, 1) := by decide +kernel
theorem dX8_comesIn_44 : decode cX8_comesIn 44 = .ok (.iastore, 1) := by decide +kernel
theorem dX8_comesIn_45 : decode cX8_comesIn 45 = .ok (.iinc 2 1, 3) := by decide +kernel
theorem dX8_comesIn_48 : decode cX8_comesIn 48 = .ok (.goto (-24), 3) := by decide +kernel
theorem dX8_comesIn_51 : decode cX8_comesIn 51 = .ok (.aload_n 0, 1) := by decide +kernel
theorem dX8_comesIn_52 : decode cX8_comesIn 52 = .ok (.getfield 9, 3) := by decide +kernel
theorem dX8_comesIn_55 : decode cX8_comesIn 55 = .ok (.iconst 3, 1) := by decide +kernel
theorem dX8_comesIn_56 : decode cX8_comesIn 56 = .ok (.dup2, 1) := by decide +kernel
theorem dX8_comesIn_57 : decode cX8_comesIn 57 = .ok (.iaload, 1) := by decide +kernel
theorem dX8_comesIn_58 : decode cX8_comesIn 58 = .ok (.iconst 1, 1) := by decide +kernel
theorem dX8_comesIn_59 : decode cX8_comesIn 59 = .ok (.iadd, 1) := by decide +kernel
theorem dX8_comesIn_60 : decode cX8_comesIn 60 = .ok (.iastore, 1) := by decide +kernel
theorem dX8_comesIn_61 : decode cX8_comesIn 61 = .ok (.iload_n 1, 1) := by decide +kernel
theorem dX8_comesIn_62 : decode cX8_comesIn 62 = .ok (.ireturn, 1) := by decide +kernel
theorem dX8_visitor_0 : decode cX8_visitor 0 = .ok (.aload_n 0, 1) := by decide +kernel
theorem dX8_visitor_1 : decode cX8_visitor 1 = .ok (.getfield 9, 3) := by decide +kernel
theorem dX8_visitor_4 : decode cX8_visitor 4 = .ok (.iconst 3, 1) := by decide +kernel
theorem dX8_visitor_5 : decode cX8_visitor 5 = .ok (.iaload, 1) := by decide +kernel
theorem dX8_visitor_6 : decode cX8_visitor 6 = .ok (.iconst 4, 1) := by decide +kernel
theorem dX8_visitor_7 : decode cX8_visitor 7 = .ok (.if_icmp .ne 12, 3) := by decide +kernel
theorem dX8_visitor_10 : decode cX8_visitor 10 = .ok (.aload_n 0, 1) := by decide +kernel
theorem dX8_visitor_11 : decode cX8_visitor 11 = .ok (.ldc 84, 2) := by decide +kernel
theorem dX8_visitor_13 : decode cX8_visitor 13 = .ok (.invokevirtual 80, 3) := by decide +kernel
theorem dX8_visitor_16 : decode cX8_visitor 16 = .ok (.goto 7, 3) := by decide +kernel
theorem dX8_visitor_19 : decode cX8_visitor 19 = .ok (.aload_n 0, 1) := by decide +kernel
theorem dX8_visitor_20 : decode cX8_visitor 20 = .ok (.invokevirtual 154, 3) := by decide +kernel
theorem dX8_visitor_23 : decode cX8_visitor 23 = .ok (.ireturn, 1) := by decide +kernel
theorem dX8_seenIn_0 : decode cX8_seenIn 0 = .ok (.iconst 0, 1) := by decide +kernel
theorem dX8_seenIn_1 : decode cX8_seenIn 1 = .ok (.istore_n 3, 1) := by decide +kernel
theorem dX8_seenIn_2 : decode cX8_seenIn 2 = .ok (.iconst 0, 1) := by decide +kernel
theorem dX8_seenIn_3 : decode cX8_seenIn 3 = .ok (.istore 4, 2) := by decide +kernel
theorem dX8_seenIn_5 : decode cX8_seenIn 5 = .ok (.iload 4, 2) := by decide +kernel
theorem dX8_seenIn_7 : decode cX8_seenIn 7 = .ok (.bipush 10, 2) := by decide +kernel
theorem dX8_seenIn_9 : decode cX8_seenIn 9 = .ok (.if_icmp .ge 42, 3) := by decide +kernel
theorem dX8_seenIn_12 : decode cX8_seenIn 12 = .ok (.iload_n 3, 1) := by decide +kernel
theorem dX8_seenIn_13 : decode cX8_seenIn 13 = .ok (.aload_n 0, 1) := by decide +kernel
theorem dX8_seenIn_14 : decode cX8_seenIn 14 = .ok (.getfield 9, 3) := by decide +kernel
theorem dX8_seenIn_17 : decode cX8_seenIn 17 = .ok (.bipush 77, 2) := by decide +kernel
theorem dX8_seenIn_19 : decode cX8_seenIn 19 = .ok (.bipush 10, 2) := by decide +kernel
theorem dX8_seenIn_21 : decode cX8_seenIn 21 = .ok (.iload_n 1, 1) := by decide +kernel
theorem dX8_seenIn_22 : decode cX8_seenIn 22 = .ok (.imul, 1) := by decide +kernel
theorem dX8_seenIn_23 : decode cX8_seenIn 23 = .ok (.iadd, 1) := by decide +kernel
theorem dX8_seenIn_24 : decode cX8_seenIn 24 = .ok (.iload 4, 2) := by decide +kernel
theorem dX8_seenIn_26 : decode cX8_seenIn 26 = .ok (.iadd, 1) := by decide +kernel
theorem dX8_seenIn_27 : decode cX8_seenIn 27 = .ok (.iaload, 1) := by decide +kernel
theorem dX8_seenIn_28 : decode cX8_seenIn 28 = .ok (.invokestatic 117, 3) := by decide +kernel
theorem dX8_seenIn_31 : decode cX8_seenIn 31 = .ok (.iload_n 2, 1) := by decide +kernel
theorem dX8_seenIn_32 : decode cX8_seenIn 32 = .ok (.if_icmp .lt 10, 3) := by decide +kernel
theorem dX8_seenIn_35 : decode cX8_seenIn 35 = .ok (.iconst 1, 1) := by decide +kernel
theorem dX8_seenIn_36 : decode cX8_seenIn 36 = .ok (.iload 4, 2) := by decide +kernel
theorem dX8_seenIn_38 : decode cX8_seenIn 38 = .ok (.ishl, 1) := by decide +kernel
theorem dX8_seenIn_39 : decode cX8_seenIn 39 = .ok (.goto 4, 3) := by decide +kernel
theorem dX8_seenIn_42 : decode cX8_seenIn 42 = .ok (.iconst 0, 1) := by decide +kernel
theorem dX8_seenIn_43 : decode cX8_seenIn 43 = .ok (.ior, 1) := by decide +kernel
theorem dX8_seenIn_44 : decode cX8_seenIn 44 = .ok (.istore_n 3, 1) := by decide +kernel
theorem dX8_seenIn_45 : decode cX8_seenIn 45 = .ok (.iinc 4 1, 3) := by decide +kernel
theorem dX8_seenIn_48 : decode cX8_seenIn 48 = .ok (.goto (-43), 3) := by decide +kernel
theorem dX8_seenIn_51 : decode cX8_seenIn 51 = .ok (.iload_n 3, 1) := by decide +kernel
theorem dX8_seenIn_52 : decode cX8_seenIn 52 = .ok (.ireturn, 1) := by decide +kernel
theorem dX8_seen_0 : decode cX8_seen 0 = .ok (.iload_n 1, 1) := by decide +kernel
theorem dX8_seen_1 : decode cX8_seen 1 = .ok (.iconst 0, 1) := by decide +kernel
theorem dX8_seen_2 : decode cX8_seen 2 = .ok (.aload_n 0, 1) := by decide +kernel
theorem dX8_seen_3 : decode cX8_seen 3 = .ok (.getfield 9, 3) := by decide +kernel
theorem dX8_seen_6 : decode cX8_seen 6 = .ok (.iconst 3, 1) := by decide +kernel
theorem dX8_seen_7 : decode cX8_seen 7 = .ok (.iaload, 1) := by decide +kernel
theorem dX8_seen_8 : decode cX8_seen 8 = .ok (.iconst 1, 1) := by decide +kernel
theorem dX8_seen_9 : decode cX8_seen 9 = .ok (.isub, 1) := by decide +kernel
theorem dX8_seen_10 : decode cX8_seen 10 = .ok (.invokestatic 68, 3) := by decide +kernel
theorem dX8_seen_13 : decode cX8_seen 13 = .ok (.ifCond .eq 12, 3) := by decide +kernel
theorem dX8_seen_16 : decode cX8_seen 16 = .ok (.iload_n 2, 1) := by decide +kernel
theorem dX8_seen_17 : decode cX8_seen 17 = .ok (.iconst 0, 1) := by decide +kernel
theorem dX8_seen_18 : decode cX8_seen 18 = .ok (.iconst 2, 1) := by decide +kernel
theorem dX8_seen_19 : decode cX8_seen 19 = .ok (.invokestatic 68, 3) := by decide +kernel
theorem dX8_seen_22 : decode cX8_seen 22 = .ok (.ifCond .ne 10, 3) := by decide +kernel
theorem dX8_seen_25 : decode cX8_seen 25 = .ok (.aload_n 0, 1) := by decide +kernel
theorem dX8_seen_26 : decode cX8_seen 26 = .ok (.ldc 63, 2) := by decide +kernel
theorem dX8_seen_28 : decode cX8_seen 28 = .ok (.invokevirtual 80, 3) := by decide +kernel
theorem dX8_seen_31 : decode cX8_seen 31 = .ok (.ireturn, 1) := by decide +kernel
theorem dX8_seen_32 : decode cX8_seen 32 = .ok (.iload_n 2, 1) := by decide +kernel
theorem dX8_seen_33 : decode cX8_seen 33 = .ok (.ifCond .ne 11, 3) := by decide +kernel
theorem dX8_seen_36 : decode cX8_seen 36 = .ok (.aload_n 0, 1) := by decide +kernel
theorem dX8_seen_37 : decode cX8_seen 37 = .ok (.iload_n 1, 1) := by decide +kernel
theorem dX8_seen_38 : decode cX8_seen 38 = .ok (.invokevirtual 135, 3) := by decide +kernel
theorem dX8_seen_41 : decode cX8_seen 41 = .ok (.goto 9, 3) := by decide +kernel
theorem dX8_seen_44 : decode cX8_seen 44 = .ok (.aload_n 0, 1) := by decide +kernel
theorem dX8_seen_45 : decode cX8_seen 45 = .ok (.iload_n 1, 1) := by decide +kernel
theorem dX8_seen_46 : decode cX8_seen 46 = .ok (.iload_n 2, 1) := by decide +kernel
theorem dX8_seen_47 : decode cX8_seen 47 = .ok (.invokevirtual 158, 3) := by decide +kernel
theorem dX8_seen_50 : decode cX8_seen 50 = .ok (.ireturn, 1) := by decide +kernel
theorem dX8_minute_0 : decode cX8_minute 0 = .ok (.iconst 0, 1) := by decide +kernel
theorem dX8_minute_1 : decode cX8_minute 1 = .ok (.istore_n 1, 1) := by decide +kernel
theorem dX8_minute_2 : decode cX8_minute 2 = .ok (.iload_n 1, 1) := by decide +kernel
theorem dX8_minute_3 : decode cX8_minute 3 = .ok (.aload_n 0, 1) := by decide +kernel
theorem dX8_minute_4 : decode cX8_minute 4 = .ok (.getfield 9, 3) := by decide +kernel
theorem dX8_minute_7 : decode cX8_minute 7 = .ok (.iconst 3, 1) := by decide +kernel
theorem dX8_minute_8 : decode cX8_minute 8 = .ok (.iaload, 1) := by decide +kernel
theorem dX8_minute_9 : decode cX8_minute 9 = .ok (.if_icmp .ge 71, 3) := by decide +kernel
theorem dX8_minute_12 : decode cX8_minute 12 = .ok (.aload_n 0, 1) := by decide +kernel
theorem dX8_minute_13 : decode cX8_minute 13 = .ok (.iload_n 1, 1) := by decide +kernel
theorem dX8_minute_14 : decode cX8_minute 14 = .ok (.invokevirtual 135, 3) := by decide +kernel
theorem dX8_minute_17 : decode cX8_minute 17 = .ok (.istore_n 2, 1) := by decide +kernel
theorem dX8_minute_18 : decode cX8_minute 18 = .ok (.iconst 0, 1) := by decide +kernel
theorem dX8_minute_19 : decode cX8_minute 19 = .ok (.istore_n 3, 1) := by decide +kernel
theorem dX8_minute_20 : decode cX8_minute 20 = .ok (.iload_n 3, 1) := by decide +kernel
theorem dX8_minute_21 : decode cX8_minute 21 = .ok (.aload_n 0, 1) := by decide +kernel
theorem dX8_minute_22 : decode cX8_minute 22 = .ok (.getfield 9, 3) := by decide +kernel
theorem dX8_minute_25 : decode cX8_minute 25 = .ok (.iconst 2, 1) := by decide +kernel
theorem dX8_minute_26 : decode cX8_minute 26 = .ok (.iaload, 1) := by decide +kernel
theorem dX8_minute_27 : decode cX8_minute 27 = .ok (.if_icmp .ge 47, 3) := by decide +kernel
theorem dX8_minute_30 : decode cX8_minute 30 = .ok (.aload_n 0, 1) := by decide +kernel
theorem dX8_minute_31 : decode cX8_minute 31 = .ok (.getfield 9, 3) := by decide +kernel
theorem dX8_minute_34 : decode cX8_minute 34 = .ok (.bipush 77, 2) := by decide +kernel
theorem dX8_minute_36 : decode cX8_minute 36 = .ok (.bipush 10, 2) := by decide +kernel
theorem dX8_minute_38 : decode cX8_minute 38 = .ok (.iload_n 1, 1) := by decide +kernel
theorem dX8_minute_39 : decode cX8_minute 39 = .ok (.imul, 1) := by decide +kernel
theorem dX8_minute_40 : decode cX8_minute 40 = .ok (.iadd, 1) := by decide +kernel
theorem dX8_minute_41 : decode cX8_minute 41 = .ok (.iload_n 3, 1) := by decide +kernel
theorem dX8_minute_42 : decode cX8_minute 42 = .ok (.iadd, 1) := by decide +kernel
theorem dX8_minute_43 : decode cX8_minute 43 = .ok (.dup2, 1) := by decide +kernel
theorem dX8_minute_44 : decode cX8_minute 44 = .ok (.iaload, 1) := by decide +kernel
theorem dX8_minute_45 : decode cX8_minute 45 = .ok (.iload_n 2, 1) := by decide +kernel
theorem dX8_minute_46 : decode cX8_minute 46 = .ok (.ifCond .lt 19, 3) := by decide +kernel
theorem dX8_minute_49 : decode cX8_minute 49 = .ok (.aload_n 0, 1) := by decide +kernel
theorem dX8_minute_50 : decode cX8_minute 50 = .ok (.iload_n 3, 1) := by decide +kernel
theorem dX8_minute_51 : decode cX8_minute 51 = .ok (.iconst 3, 1) := by decide +kernel
theorem dX8_minute_52 : decode cX8_minute 52 = .ok (.invokevirtual 92, 3) := by decide +kernel
theorem dX8_minute_55 : decode cX8_minute 55 = .ok (.iload_n 2, 1) := by decide +kernel
theorem dX8_minute_56 : decode cX8_minute 56 = .ok (.if_icmp .ne 9, 3) := by decide +kernel
theorem dX8_minute_59 : decode cX8_minute 59 = .ok (.iconst 1, 1) := by decide +kernel
theorem dX8_minute_60 : decode cX8_minute 60 = .ok (.iload_n 2, 1) := by decide +kernel
theorem dX8_minute_61 : decode cX8_minute 61 = .ok (.ishl, 1) := by decide +kernel
theorem dX8_minute_62 : decode cX8_minute 62 = .ok (.goto 4, 3) := by decide +kernel
theorem dX8_minute_65 : decode cX8_minute 65 = .ok (.iconst 0, 1) := by decide +kernel
theorem dX8_minute_66 : decode cX8_minute 66 = .ok (.ior, 1) := by decide +kernel
theorem dX8_minute_67 : decode cX8_minute 67 = .ok (.iastore, 1) := by decide +kernel
theorem dX8_minute_68 : decode cX8_minute 68 = .ok (.iinc 3 1, 3) := by decide +kernel
theorem dX8_minute_71 : decode cX8_minute 71 = .ok (.goto (-51), 3) := by decide +kernel
theorem dX8_minute_74 : decode cX8_minute 74 = .ok (.iinc 1 1, 3) := by decide +kernel
theorem dX8_minute_77 : decode cX8_minute 77 = .ok (.goto (-75), 3) := by decide +kernel
theorem dX8_minute_80 : decode cX8_minute 80 = .ok (.aload_n 0, 1) := by decide +kernel
theorem dX8_minute_81 : decode cX8_minute 81 = .ok (.getfield 9, 3) := by decide +kernel
theorem dX8_minute_84 : decode cX8_minute 84 = .ok (.iconst 0, 1) := by decide +kernel
theorem dX8_minute_85 : decode cX8_minute 85 = .ok (.dup2, 1) := by decide +kernel
theorem dX8_minute_86 : decode cX8_minute 86 = .ok (.iaload, 1) := by decide +kernel
theorem dX8_minute_87 : decode cX8_minute 87 = .ok (.iconst 1, 1) := by decide +kernel
theorem dX8_minute_88 : decode cX8_minute 88 = .ok (.iadd, 1) := by decide +kernel
theorem dX8_minute_89 : decode cX8_minute 89 = .ok (.iastore, 1) := by decide +kernel
theorem dX8_minute_90 : decode cX8_minute 90 = .ok (.return_, 1) := by decide +kernel
theorem dX8_minutes_0 : decode cX8_minutes 0 = .ok (.iconst 0, 1) := by decide +kernel
theorem dX8_minutes_1 : decode cX8_minutes 1 = .ok (.istore_n 2, 1) := by decide +kernel
theorem dX8_minutes_2 : decode cX8_minutes 2 = .ok (.iload_n 2, 1) := by decide +kernel
theorem dX8_minutes_3 : decode cX8_minutes 3 = .ok (.iload_n 1, 1) := by decide +kernel
theorem dX8_minutes_4 : decode cX8_minutes 4 = .ok (.if_icmp .ge 13, 3) := by decide +kernel
theorem dX8_minutes_7 : decode cX8_minutes 7 = .ok (.aload_n 0, 1) := by decide +kernel
theorem dX8_minutes_8 : decode cX8_minutes 8 = .ok (.invokevirtual 161, 3) := by decide +kernel
theorem dX8_minutes_11 : decode cX8_minutes 11 = .ok (.iinc 2 1, 3) := by decide +kernel
theorem dX8_minutes_14 : decode cX8_minutes 14 = .ok (.goto (-12), 3) := by decide +kernel
theorem dX8_minutes_17 : decode cX8_minutes 17 = .ok (.return_, 1) := by decide +kernel
theorem dX8_moves_0 : decode cX8_moves 0 = .ok (.iconst 1, 1) := by decide +kernel
theorem dX8_moves_1 : decode cX8_moves 1 = .ok (.aload_n 0, 1) := by decide +kernel
theorem dX8_moves_2 : decode cX8_moves 2 = .ok (.iload_n 1, 1) := by decide +kernel
theorem dX8_moves_3 : decode cX8_moves 3 = .ok (.iload_n 2, 1) := by decide +kernel
theorem dX8_moves_4 : decode cX8_moves 4 = .ok (.invokevirtual 151, 3) := by decide +kernel
theorem dX8_moves_7 : decode cX8_moves 7 = .ok (.invokestatic 123, 3) := by decide +kernel
theorem dX8_moves_10 : decode cX8_moves 10 = .ok (.istore_n 3, 1) := by decide +kernel
theorem dX8_moves_11 : decode cX8_moves 11 = .ok (.aload_n 0, 1) := by decide +kernel
theorem dX8_moves_12 : decode cX8_moves 12 = .ok (.getfield 9, 3) := by decide +kernel
theorem dX8_moves_15 : decode cX8_moves 15 = .ok (.iload_n 1, 1) := by decide +kernel
theorem dX8_moves_16 : decode cX8_moves 16 = .ok (.iconst 3, 1) := by decide +kernel
theorem dX8_moves_17 : decode cX8_moves 17 = .ok (.invokestatic 72, 3) := by decide +kernel
theorem dX8_moves_20 : decode cX8_moves 20 = .ok (.bipush (-2), 2) := by decide +kernel
theorem dX8_moves_22 : decode cX8_moves 22 = .ok (.iastore, 1) := by decide +kernel
theorem dX8_moves_23 : decode cX8_moves 23 = .ok (.aload_n 0, 1) := by decide +kernel
theorem dX8_moves_24 : decode cX8_moves 24 = .ok (.iload_n 3, 1) := by decide +kernel
theorem dX8_moves_25 : decode cX8_moves 25 = .ok (.invokevirtual 164, 3) := by decide +kernel
theorem dX8_moves_28 : decode cX8_moves 28 = .ok (.aload_n 0, 1) := by decide +kernel
theorem dX8_moves_29 : decode cX8_moves 29 = .ok (.getfield 9, 3) := by decide +kernel
theorem dX8_moves_32 : decode cX8_moves 32 = .ok (.iload_n 1, 1) := by decide +kernel
theorem dX8_moves_33 : decode cX8_moves 33 = .ok (.iconst 3, 1) := by decide +kernel
theorem dX8_moves_34 : decode cX8_moves 34 = .ok (.invokestatic 72, 3) := by decide +kernel
theorem dX8_moves_37 : decode cX8_moves 37 = .ok (.iload_n 2, 1) := by decide +kernel
theorem dX8_moves_38 : decode cX8_moves 38 = .ok (.iastore, 1) := by decide +kernel
theorem dX8_moves_39 : decode cX8_moves 39 = .ok (.return_, 1) := by decide +kernel
theorem dX8_move_0 : decode cX8_move 0 = .ok (.aload_n 0, 1) := by decide +kernel
theorem dX8_move_1 : decode cX8_move 1 = .ok (.iload_n 1, 1) := by decide +kernel
theorem dX8_move_2 : decode cX8_move 2 = .ok (.invokevirtual 99, 3) := by decide +kernel
theorem dX8_move_5 : decode cX8_move 5 = .ok (.ifCond .eq 10, 3) := by decide +kernel
theorem dX8_move_8 : decode cX8_move 8 = .ok (.iload_n 2, 1) := by decide +kernel
theorem dX8_move_9 : decode cX8_move 9 = .ok (.invokestatic 105, 3) := by decide +kernel
theorem dX8_move_12 : decode cX8_move 12 = .ok (.ifCond .ne 10, 3) := by decide +kernel
theorem dX8_move_15 : decode cX8_move 15 = .ok (.aload_n 0, 1) := by decide +kernel
theorem dX8_move_16 : decode cX8_move 16 = .ok (.ldc 63, 2) := by decide +kernel
theorem dX8_move_18 : decode cX8_move 18 = .ok (.invokevirtual 80, 3) := by decide +kernel
theorem dX8_move_21 : decode cX8_move 21 = .ok (.ireturn, 1) := by decide +kernel
theorem dX8_move_22 : decode cX8_move 22 = .ok (.aload_n 0, 1) := by decide +kernel
theorem dX8_move_23 : decode cX8_move 23 = .ok (.iload_n 1, 1) := by decide +kernel
theorem dX8_move_24 : decode cX8_move 24 = .ok (.iconst 3, 1) := by decide +kernel
theorem dX8_move_25 : decode cX8_move 25 = .ok (.invokevirtual 92, 3) := by decide +kernel
theorem dX8_move_28 : decode cX8_move 28 = .ok (.iload_n 2, 1) := by decide +kernel
theorem dX8_move_29 : decode cX8_move 29 = .ok (.if_icmp .eq 22, 3) := by decide +kernel
theorem dX8_move_32 : decode cX8_move 32 = .ok (.aload_n 0, 1) := by decide +kernel
theorem dX8_move_33 : decode cX8_move 33 = .ok (.getfield 9, 3) := by decide +kernel
theorem dX8_move_36 : decode cX8_move 36 = .ok (.iconst 0, 1) := by decide +kernel
theorem dX8_move_37 : decode cX8_move 37 = .ok (.iaload, 1) := by decide +kernel
theorem dX8_move_38 : decode cX8_move 38 = .ok (.aload_n 0, 1) := by decide +kernel
theorem dX8_move_39 : decode cX8_move 39 = .ok (.iload_n 1, 1) := by decide +kernel
theorem dX8_move_40 : decode cX8_move 40 = .ok (.iload_n 2, 1) := by decide +kernel
theorem dX8_move_41 : decode cX8_move 41 = .ok (.invokevirtual 151, 3) := by decide +kernel
theorem dX8_move_44 : decode cX8_move 44 = .ok (.iadd, 1) := by decide +kernel
theorem dX8_move_45 : decode cX8_move 45 = .ok (.sipush 9999, 3) := by decide +kernel
theorem dX8_move_48 : decode cX8_move 48 = .ok (.if_icmp .le 10, 3) := by decide +kernel
theorem dX8_move_51 : decode cX8_move 51 = .ok (.aload_n 0, 1) := by decide +kernel
theorem dX8_move_52 : decode cX8_move 52 = .ok (.ldc 150, 2) := by decide +kernel
theorem dX8_move_54 : decode cX8_move 54 = .ok (.invokevirtual 80, 3) := by decide +kernel
theorem dX8_move_57 : decode cX8_move 57 = .ok (.ireturn, 1) := by decide +kernel
theorem dX8_move_58 : decode cX8_move 58 = .ok (.aload_n 0, 1) := by decide +kernel
theorem dX8_move_59 : decode cX8_move 59 = .ok (.iload_n 1, 1) := by decide +kernel
theorem dX8_move_60 : decode cX8_move 60 = .ok (.iload_n 2, 1) := by decide +kernel
theorem dX8_move_61 : decode cX8_move 61 = .ok (.invokevirtual 168, 3) := by decide +kernel
theorem dX8_move_64 : decode cX8_move 64 = .ok (.aload_n 0, 1) := by decide +kernel
theorem dX8_move_65 : decode cX8_move 65 = .ok (.getfield 9, 3) := by decide +kernel
theorem dX8_move_68 : decode cX8_move 68 = .ok (.iconst 0, 1) := by decide +kernel
theorem dX8_move_69 : decode cX8_move 69 = .ok (.iaload, 1) := by decide +kernel
theorem dX8_move_70 : decode cX8_move 70 = .ok (.ireturn, 1) := by decide +kernel
theorem dX8_seenTwice_0 : decode cX8_seenTwice 0 = .ok (.iconst 0, 1) := by decide +kernel
theorem dX8_seenTwice_1 : decode cX8_seenTwice 1 = .ok (.istore_n 1, 1) := by decide +kernel
theorem dX8_seenTwice_2 : decode cX8_seenTwice 2 = .ok (.iconst 0, 1) := by decide +kernel
theorem dX8_seenTwice_3 : decode cX8_seenTwice 3 = .ok (.istore_n 2, 1) := by decide +kernel
theorem dX8_seenTwice_4 : decode cX8_seenTwice 4 = .ok (.iload_n 2, 1) := by decide +kernel
theorem dX8_seenTwice_5 : decode cX8_seenTwice 5 = .ok (.aload_n 0, 1) := by decide +kernel
theorem dX8_seenTwice_6 : decode cX8_seenTwice 6 = .ok (.getfield 9, 3) := by decide +kernel
theorem dX8_seenTwice_9 : decode cX8_seenTwice 9 = .ok (.iconst 3, 1) := by decide +kernel
theorem dX8_seenTwice_10 : decode cX8_seenTwice 10 = .ok (.iaload, 1) := by decide +kernel
theorem dX8_seenTwice_11 : decode cX8_seenTwice 11 = .ok (.if_icmp .ge 18, 3) := by decide +kernel
theorem dX8_seenTwice_14 : decode cX8_seenTwice 14 = .ok (.iload_n 1, 1) := by decide +kernel
theorem dX8_seenTwice_15 : decode cX8_seenTwice 15 = .ok (.aload_n 0, 1) := by decide +kernel
theorem dX8_seenTwice_16 : decode cX8_seenTwice 16 = .ok (.iload_n 2, 1) := by decide +kernel
theorem dX8_seenTwice_17 : decode cX8_seenTwice 17 = .ok (.iconst 2, 1) := by decide +kernel
theorem dX8_seenTwice_18 : decode cX8_seenTwice 18 = .ok (.invokevirtual 158, 3) := by decide +kernel
theorem dX8_seenTwice_21 : decode cX8_seenTwice 21 = .ok (.ior, 1) := by decide +kernel
theorem dX8_seenTwice_22 : decode cX8_seenTwice 22 = .ok (.istore_n 1, 1) := by decide +kernel
theorem dX8_seenTwice_23 : decode cX8_seenTwice 23 = .ok (.iinc 2 1, 3) := by decide +kernel
theorem dX8_seenTwice_26 : decode cX8_seenTwice 26 = .ok (.goto (-22), 3) := by decide +kernel
theorem dX8_seenTwice_29 : decode cX8_seenTwice 29 = .ok (.iload_n 1, 1) := by decide +kernel
theorem dX8_seenTwice_30 : decode cX8_seenTwice 30 = .ok (.ireturn, 1) := by decide +kernel
theorem dX8_waits_0 : decode cX8_waits 0 = .ok (.iload_n 1, 1) := by decide +kernel
theorem dX8_waits_1 : decode cX8_waits 1 = .ok (.iconst 1, 1) := by decide +kernel
theorem dX8_waits_2 : decode cX8_waits 2 = .ok (.bipush 60, 2) := by decide +kernel
theorem dX8_waits_4 : decode cX8_waits 4 = .ok (.invokestatic 68, 3) := by decide +kernel
theorem dX8_waits_7 : decode cX8_waits 7 = .ok (.ifCond .ne 10, 3) := by decide +kernel
theorem dX8_waits_10 : decode cX8_waits 10 = .ok (.aload_n 0, 1) := by decide +kernel
theorem dX8_waits_11 : decode cX8_waits 11 = .ok (.ldc 63, 2) := by decide +kernel
theorem dX8_waits_13 : decode cX8_waits 13 = .ok (.invokevirtual 80, 3) := by decide +kernel
theorem dX8_waits_16 : decode cX8_waits 16 = .ok (.ireturn, 1) := by decide +kernel
theorem dX8_waits_17 : decode cX8_waits 17 = .ok (.aload_n 0, 1) := by decide +kernel
theorem dX8_waits_18 : decode cX8_waits 18 = .ok (.getfield 9, 3) := by decide +kernel
theorem dX8_waits_21 : decode cX8_waits 21 = .ok (.iconst 0, 1) := by decide +kernel
theorem dX8_waits_22 : decode cX8_waits 22 = .ok (.iaload, 1) := by decide +kernel
theorem dX8_waits_23 : decode cX8_waits 23 = .ok (.iload_n 1, 1) := by decide +kernel
theorem dX8_waits_24 : decode cX8_waits 24 = .ok (.iadd, 1) := by decide +kernel
theorem dX8_waits_25 : decode cX8_waits 25 = .ok (.sipush 9999, 3) := by decide +kernel
theorem dX8_waits_28 : decode cX8_waits 28 = .ok (.if_icmp .le 10, 3) := by decide +kernel
theorem dX8_waits_31 : decode cX8_waits 31 = .ok (.aload_n 0, 1) := by decide +kernel
theorem dX8_waits_32 : decode cX8_waits 32 = .ok (.ldc 150, 2) := by decide +kernel
theorem dX8_waits_34 : decode cX8_waits 34 = .ok (.invokevirtual 80, 3) := by decide +kernel
theorem dX8_waits_37 : decode cX8_waits 37 = .ok (.ireturn, 1) := by decide +kernel
theorem dX8_waits_38 : decode cX8_waits 38 = .ok (.aload_n 0, 1) := by decide +kernel
theorem dX8_waits_39 : decode cX8_waits 39 = .ok (.iload_n 1, 1) := by decide +kernel
theorem dX8_waits_40 : decode cX8_waits 40 = .ok (.invokevirtual 164, 3) := by decide +kernel
theorem dX8_waits_43 : decode cX8_waits 43 = .ok (.aload_n 0, 1) := by decide +kernel
theorem dX8_waits_44 : decode cX8_waits 44 = .ok (.invokevirtual 172, 3) := by decide +kernel
theorem dX8_waits_47 : decode cX8_waits 47 = .ok (.invokestatic 117, 3) := by decide +kernel
theorem dX8_waits_50 : decode cX8_waits 50 = .ok (.ireturn, 1) := by decide +kernel
theorem dX8_allThere_0 : decode cX8_allThere 0 = .ok (.iconst 0, 1) := by decide +kernel
theorem dX8_allThere_1 : decode cX8_allThere 1 = .ok (.istore_n 1, 1) := by decide +kernel
theorem dX8_allThere_2 : decode cX8_allThere 2 = .ok (.iconst 0, 1) := by decide +kernel
theorem dX8_allThere_3 : decode cX8_allThere 3 = .ok (.istore_n 2, 1) := by decide +kernel
theorem dX8_allThere_4 : decode cX8_allThere 4 = .ok (.iload_n 2, 1) := by decide +kernel
theorem dX8_allThere_5 : decode cX8_allThere 5 = .ok (.aload_n 0, 1) := by decide +kernel
theorem dX8_allThere_6 : decode cX8_allThere 6 = .ok (.getfield 9, 3) := by decide +kernel
theorem dX8_allThere_9 : decode cX8_allThere 9 = .ok (.iconst 3, 1) := by decide +kernel
theorem dX8_allThere_10 : decode cX8_allThere 10 = .ok (.iaload, 1) := by decide +kernel
theorem dX8_allThere_11 : decode cX8_allThere 11 = .ok (.if_icmp .ge 27, 3) := by decide +kernel
theorem dX8_allThere_14 : decode cX8_allThere 14 = .ok (.iload_n 1, 1) := by decide +kernel
theorem dX8_allThere_15 : decode cX8_allThere 15 = .ok (.aload_n 0, 1) := by decide +kernel
theorem dX8_allThere_16 : decode cX8_allThere 16 = .ok (.iload_n 2, 1) := by decide +kernel
theorem dX8_allThere_17 : decode cX8_allThere 17 = .ok (.invokevirtual 135, 3) := by decide +kernel
theorem dX8_allThere_20 : decode cX8_allThere 20 = .ok (.ifCond .lt 9, 3) := by decide +kernel
theorem dX8_allThere_23 : decode cX8_allThere 23 = .ok (.iconst 1, 1) := by decide +kernel
theorem dX8_allThere_24 : decode cX8_allThere 24 = .ok (.iload_n 2, 1) := by decide +kernel
theorem dX8_allThere_25 : decode cX8_allThere 25 = .ok (.ishl, 1) := by decide +kernel
theorem dX8_allThere_26 : decode cX8_allThere 26 = .ok (.goto 4, 3) := by decide +kernel
theorem dX8_allThere_29 : decode cX8_allThere 29 = .ok (.iconst 0, 1) := by decide +kernel
theorem dX8_allThere_30 : decode cX8_allThere 30 = .ok (.ior, 1) := by decide +kernel
theorem dX8_allThere_31 : decode cX8_allThere 31 = .ok (.istore_n 1, 1) := by decide +kernel
theorem dX8_allThere_32 : decode cX8_allThere 32 = .ok (.iinc 2 1, 3) := by decide +kernel
theorem dX8_allThere_35 : decode cX8_allThere 35 = .ok (.goto (-31), 3) := by decide +kernel
theorem dX8_allThere_38 : decode cX8_allThere 38 = .ok (.iload_n 1, 1) := by decide +kernel
theorem dX8_allThere_39 : decode cX8_allThere 39 = .ok (.ireturn, 1) := by decide +kernel
theorem dX8_now_0 : decode cX8_now 0 = .ok (.iconst 0, 1) := by decide +kernel
theorem dX8_now_1 : decode cX8_now 1 = .ok (.istore_n 2, 1) := by decide +kernel
theorem dX8_now_2 : decode cX8_now 2 = .ok (.iload_n 1, 1) := by decide +kernel
theorem dX8_now_3 : decode cX8_now 3 = .ok (.tableswitch 91 0 5 #[37, 44, 51, 75, 80, 86], 37) := by decide +kernel
theorem dX8_now_40 : decode cX8_now 40 = .ok (.aload_n 0, 1) := by decide +kernel
theorem dX8_now_41 : decode cX8_now 41 = .ok (.getfield 9, 3) := by decide +kernel
theorem dX8_now_44 : decode cX8_now 44 = .ok (.iconst 0, 1) := by decide +kernel
theorem dX8_now_45 : decode cX8_now 45 = .ok (.iaload, 1) := by decide +kernel
theorem dX8_now_46 : decode cX8_now 46 = .ok (.ireturn, 1) := by decide +kernel
theorem dX8_now_47 : decode cX8_now 47 = .ok (.aload_n 0, 1) := by decide +kernel
theorem dX8_now_48 : decode cX8_now 48 = .ok (.getfield 9, 3) := by decide +kernel
theorem dX8_now_51 : decode cX8_now 51 = .ok (.iconst 1, 1) := by decide +kernel
theorem dX8_now_52 : decode cX8_now 52 = .ok (.iaload, 1) := by decide +kernel
theorem dX8_now_53 : decode cX8_now 53 = .ok (.ireturn, 1) := by decide +kernel
theorem dX8_now_54 : decode cX8_now 54 = .ok (.iconst 0, 1) := by decide +kernel
theorem dX8_now_55 : decode cX8_now 55 = .ok (.istore_n 3, 1) := by decide +kernel
theorem dX8_now_56 : decode cX8_now 56 = .ok (.iload_n 3, 1) := by decide +kernel
theorem dX8_now_57 : decode cX8_now 57 = .ok (.bipush 6, 2) := by decide +kernel
theorem dX8_now_59 : decode cX8_now 59 = .ok (.if_icmp .ge 17, 3) := by decide +kernel
theorem dX8_now_62 : decode cX8_now 62 = .ok (.iload_n 2, 1) := by decide +kernel
theorem dX8_now_63 : decode cX8_now 63 = .ok (.aload_n 0, 1) := by decide +kernel
theorem dX8_now_64 : decode cX8_now 64 = .ok (.iload_n 3, 1) := by decide +kernel
theorem dX8_now_65 : decode cX8_now 65 = .ok (.invokevirtual 141, 3) := by decide +kernel
theorem dX8_now_68 : decode cX8_now 68 = .ok (.iadd, 1) := by decide +kernel
theorem dX8_now_69 : decode cX8_now 69 = .ok (.istore_n 2, 1) := by decide +kernel
theorem dX8_now_70 : decode cX8_now 70 = .ok (.iinc 3 1, 3) := by decide +kernel
theorem dX8_now_73 : decode cX8_now 73 = .ok (.goto (-17), 3) := by decide +kernel
theorem dX8_now_76 : decode cX8_now 76 = .ok (.iload_n 2, 1) := by decide +kernel
theorem dX8_now_77 : decode cX8_now 77 = .ok (.ireturn, 1) := by decide +kernel
theorem dX8_now_78 : decode cX8_now 78 = .ok (.aload_n 0, 1) := by decide +kernel
theorem dX8_now_79 : decode cX8_now 79 = .ok (.invokevirtual 175, 3) := by decide +kernel
theorem dX8_now_82 : decode cX8_now 82 = .ok (.ireturn, 1) := by decide +kernel
theorem dX8_now_83 : decode cX8_now 83 = .ok (.aload_n 0, 1) := by decide +kernel
theorem dX8_now_84 : decode cX8_now 84 = .ok (.iconst (-1), 1) := by decide +kernel
theorem dX8_now_85 : decode cX8_now 85 = .ok (.invokevirtual 138, 3) := by decide +kernel
theorem dX8_now_88 : decode cX8_now 88 = .ok (.ireturn, 1) := by decide +kernel
theorem dX8_now_89 : decode cX8_now 89 = .ok (.aload_n 0, 1) := by decide +kernel
theorem dX8_now_90 : decode cX8_now 90 = .ok (.invokevirtual 172, 3) := by decide +kernel
theorem dX8_now_93 : decode cX8_now 93 = .ok (.ireturn, 1) := by decide +kernel
theorem dX8_now_94 : decode cX8_now 94 = .ok (.aload_n 0, 1) := by decide +kernel
theorem dX8_now_95 : decode cX8_now 95 = .ok (.ldc 63, 2) := by decide +kernel
theorem dX8_now_97 : decode cX8_now 97 = .ok (.invokevirtual 80, 3) := by decide +kernel
theorem dX8_now_100 : decode cX8_now 100 = .ok (.ireturn, 1) := by decide +kernel
theorem dX8_mayGive_0 : decode cX8_mayGive 0 = .ok (.aload_n 0, 1) := by decide +kernel
theorem dX8_mayGive_1 : decode cX8_mayGive 1 = .ok (.getfield 9, 3) := by decide +kernel
theorem dX8_mayGive_4 : decode cX8_mayGive 4 = .ok (.bipush 27, 2) := by decide +kernel
theorem dX8_mayGive_6 : decode cX8_mayGive 6 = .ok (.iload_n 1, 1) := by decide +kernel
theorem dX8_mayGive_7 : decode cX8_mayGive 7 = .ok (.iadd, 1) := by decide +kernel
theorem dX8_mayGive_8 : decode cX8_mayGive 8 = .ok (.iaload, 1) := by decide +kernel
theorem dX8_mayGive_9 : decode cX8_mayGive 9 = .ok (.ifCond .lt 38, 3) := by decide +kernel
theorem dX8_mayGive_12 : decode cX8_mayGive 12 = .ok (.iload_n 3, 1) := by decide +kernel
theorem dX8_mayGive_13 : decode cX8_mayGive 13 = .ok (.aload_n 0, 1) := by decide +kernel
theorem dX8_mayGive_14 : decode cX8_mayGive 14 = .ok (.getfield 9, 3) := by decide +kernel
theorem dX8_mayGive_17 : decode cX8_mayGive 17 = .ok (.iconst 2, 1) := by decide +kernel
theorem dX8_mayGive_18 : decode cX8_mayGive 18 = .ok (.iaload, 1) := by decide +kernel
theorem dX8_mayGive_19 : decode cX8_mayGive 19 = .ok (.if_icmp .ge 28, 3) := by decide +kernel
theorem dX8_mayGive_22 : decode cX8_mayGive 22 = .ok (.iload_n 2, 1) := by decide +kernel
theorem dX8_mayGive_23 : decode cX8_mayGive 23 = .ok (.aload_n 0, 1) := by decide +kernel
theorem dX8_mayGive_24 : decode cX8_mayGive 24 = .ok (.getfield 178, 3) := by decide +kernel
theorem dX8_mayGive_27 : decode cX8_mayGive 27 = .ok (.ior, 1) := by decide +kernel
theorem dX8_mayGive_28 : decode cX8_mayGive 28 = .ok (.iload_n 3, 1) := by decide +kernel
theorem dX8_mayGive_29 : decode cX8_mayGive 29 = .ok (.invokestatic 120, 3) := by decide +kernel
theorem dX8_mayGive_32 : decode cX8_mayGive 32 = .ok (.ifCond .ne 15, 3) := by decide +kernel
theorem dX8_mayGive_35 : decode cX8_mayGive 35 = .ok (.aload_n 0, 1) := by decide +kernel
theorem dX8_mayGive_36 : decode cX8_mayGive 36 = .ok (.iload_n 3, 1) := by decide +kernel
theorem dX8_mayGive_37 : decode cX8_mayGive 37 = .ok (.invokevirtual 182, 3) := by decide +kernel
theorem dX8_mayGive_40 : decode cX8_mayGive 40 = .ok (.ifCond .eq 7, 3) := by decide +kernel
theorem dX8_mayGive_43 : decode cX8_mayGive 43 = .ok (.iconst 1, 1) := by decide +kernel
theorem dX8_mayGive_44 : decode cX8_mayGive 44 = .ok (.goto 4, 3) := by decide +kernel
theorem dX8_mayGive_47 : decode cX8_mayGive 47 = .ok (.iconst 0, 1) := by decide +kernel
theorem dX8_mayGive_48 : decode cX8_mayGive 48 = .ok (.ireturn, 1) := by decide +kernel
theorem dX8_worthAt_0 : decode cX8_worthAt 0 = .ok (.aload_n 0, 1) := by decide +kernel
theorem dX8_worthAt_1 : decode cX8_worthAt 1 = .ok (.getfield 22, 3) := by decide +kernel
theorem dX8_worthAt_4 : decode cX8_worthAt 4 = .ok (.iload_n 1, 1) := by decide +kernel
theorem dX8_worthAt_5 : decode cX8_worthAt 5 = .ok (.bipush 10, 2) := by decide +kernel
theorem dX8_worthAt_7 : decode cX8_worthAt 7 = .ok (.ishl, 1) := by decide +kernel
theorem dX8_worthAt_8 : decode cX8_worthAt 8 = .ok (.iload_n 2, 1) := by decide +kernel
theorem dX8_worthAt_9 : decode cX8_worthAt 9 = .ok (.iadd, 1) := by decide +kernel
theorem dX8_worthAt_10 : decode cX8_worthAt 10 = .ok (.iaload, 1) := by decide +kernel
theorem dX8_worthAt_11 : decode cX8_worthAt 11 = .ok (.ireturn, 1) := by decide +kernel
theorem dX8_noHeads_0 : decode cX8_noHeads 0 = .ok (.iconst 0, 1) := by decide +kernel
theorem dX8_noHeads_1 : decode cX8_noHeads 1 = .ok (.istore_n 1, 1) := by decide +kernel
theorem dX8_noHeads_2 : decode cX8_noHeads 2 = .ok (.iconst 0, 1) := by decide +kernel
theorem dX8_noHeads_3 : decode cX8_noHeads 3 = .ok (.istore_n 2, 1) := by decide +kernel
theorem dX8_noHeads_4 : decode cX8_noHeads 4 = .ok (.iload_n 2, 1) := by decide +kernel
theorem dX8_noHeads_5 : decode cX8_noHeads 5 = .ok (.bipush 10, 2) := by decide +kernel
theorem dX8_noHeads_7 : decode cX8_noHeads 7 = .ok (.if_icmp .ge 37, 3) := by decide +kernel
theorem dX8_noHeads_10 : decode cX8_noHeads 10 = .ok (.iload_n 1, 1) := by decide +kernel
theorem dX8_noHeads_11 : decode cX8_noHeads 11 = .ok (.iload_n 2, 1) := by decide +kernel
theorem dX8_noHeads_12 : decode cX8_noHeads 12 = .ok (.aload_n 0, 1) := by decide +kernel
theorem dX8_noHeads_13 : decode cX8_noHeads 13 = .ok (.getfield 9, 3) := by decide +kernel
theorem dX8_noHeads_16 : decode cX8_noHeads 16 = .ok (.iconst 2, 1) := by decide +kernel
theorem dX8_noHeads_17 : decode cX8_noHeads 17 = .ok (.iaload, 1) := by decide +kernel
theorem dX8_noHeads_18 : decode cX8_noHeads 18 = .ok (.if_icmp .ge 15, 3) := by decide +kernel
theorem dX8_noHeads_21 : decode cX8_noHeads 21 = .ok (.aload_n 0, 1) := by decide +kernel
theorem dX8_noHeads_22 : decode cX8_noHeads 22 = .ok (.iload_n 2, 1) := by decide +kernel
theorem dX8_noHeads_23 : decode cX8_noHeads 23 = .ok (.invokevirtual 182, 3) := by decide +kernel
theorem dX8_noHeads_26 : decode cX8_noHeads 26 = .ok (.ifCond .eq 7, 3) := by decide +kernel
theorem dX8_noHeads_29 : decode cX8_noHeads 29 = .ok (.iconst 0, 1) := by decide +kernel
theorem dX8_noHeads_30 : decode cX8_noHeads 30 = .ok (.goto 6, 3) := by decide +kernel
theorem dX8_noHeads_33 : decode cX8_noHeads 33 = .ok (.iconst 1, 1) := by decide +kernel
theorem dX8_noHeads_34 : decode cX8_noHeads 34 = .ok (.iload_n 2, 1) := by decide +kernel
theorem dX8_noHeads_35 : decode cX8_noHeads 35 = .ok (.ishl, 1) := by decide +kernel
theorem dX8_noHeads_36 : decode cX8_noHeads 36 = .ok (.ior, 1) := by decide +kernel
theorem dX8_noHeads_37 : decode cX8_noHeads 37 = .ok (.istore_n 1, 1) := by decide +kernel
theorem dX8_noHeads_38 : decode cX8_noHeads 38 = .ok (.iinc 2 1, 3) := by decide +kernel
theorem dX8_noHeads_41 : decode cX8_noHeads 41 = .ok (.goto (-37), 3) := by decide +kernel
theorem dX8_noHeads_44 : decode cX8_noHeads 44 = .ok (.iload_n 1, 1) := by decide +kernel
theorem dX8_noHeads_45 : decode cX8_noHeads 45 = .ok (.ireturn, 1) := by decide +kernel
theorem dX8_findMost_0 : decode cX8_findMost 0 = .ok (.aload_n 0, 1) := by decide +kernel
theorem dX8_findMost_1 : decode cX8_findMost 1 = .ok (.iload_n 1, 1) := by decide +kernel
theorem dX8_findMost_2 : decode cX8_findMost 2 = .ok (.putfield 178, 3) := by decide +kernel
theorem dX8_findMost_5 : decode cX8_findMost 5 = .ok (.aload_n 0, 1) := by decide +kernel
theorem dX8_findMost_6 : decode cX8_findMost 6 = .ok (.invokevirtual 185, 3) := by decide +kernel
theorem dX8_findMost_9 : decode cX8_findMost 9 = .ok (.iload_n 1, 1) := by decide +kernel
theorem dX8_findMost_10 : decode cX8_findMost 10 = .ok (.ior, 1) := by decide +kernel
theorem dX8_findMost_11 : decode cX8_findMost 11 = .ok (.istore_n 2, 1) := by decide +kernel
theorem dX8_findMost_12 : decode cX8_findMost 12 = .ok (.iconst 0, 1) := by decide +kernel
theorem dX8_findMost_13 : decode cX8_findMost 13 = .ok (.istore_n 3, 1) := by decide +kernel
theorem dX8_findMost_14 : decode cX8_findMost 14 = .ok (.iload_n 3, 1) := by decide +kernel
theorem dX8_findMost_15 : decode cX8_findMost 15 = .ok (.sipush 1024, 3) := by decide +kernel
theorem dX8_findMost_18 : decode cX8_findMost 18 = .ok (.if_icmp .ge 20, 3) := by decide +kernel
theorem dX8_findMost_21 : decode cX8_findMost 21 = .ok (.aload_n 0, 1) := by decide +kernel
theorem dX8_findMost_22 : decode cX8_findMost 22 = .ok (.getfield 22, 3) := by decide +kernel
theorem dX8_findMost_25 : decode cX8_findMost 25 = .ok (.sipush 6144, 3) := by decide +kernel
theorem dX8_findMost_28 : decode cX8_findMost 28 = .ok (.iload_n 3, 1) := by decide +kernel
theorem dX8_findMost_29 : decode cX8_findMost 29 = .ok (.iadd, 1) := by decide +kernel
theorem dX8_findMost_30 : decode cX8_findMost 30 = .ok (.iconst 0, 1) := by decide +kernel
theorem dX8_findMost_31 : decode cX8_findMost 31 = .ok (.iastore, 1) := by decide +kernel
theorem dX8_findMost_32 : decode cX8_findMost 32 = .ok (.iinc 3 1, 3) := by decide +kernel
theorem dX8_findMost_35 : decode cX8_findMost 35 = .ok (.goto (-21), 3) := by decide +kernel
theorem dX8_findMost_38 : decode cX8_findMost 38 = .ok (.iconst 5, 1) := by decide +kernel
theorem dX8_findMost_39 : decode cX8_findMost 39 = .ok (.istore_n 3, 1) := by decide +kernel
theorem dX8_findMost_40 : decode cX8_findMost 40 = .ok (.iload_n 3, 1) := by decide +kernel
theorem dX8_findMost_41 : decode cX8_findMost 41 = .ok (.ifCond .lt 144, 3) := by decide +kernel
theorem dX8_findMost_44 : decode cX8_findMost 44 = .ok (.iconst 0, 1) := by decide +kernel
theorem dX8_findMost_45 : decode cX8_findMost 45 = .ok (.istore 4, 2) := by decide +kernel
theorem dX8_findMost_47 : decode cX8_findMost 47 = .ok (.iload 4, 2) := by decide +kernel
theorem dX8_findMost_49 : decode cX8_findMost 49 = .ok (.sipush 1024, 3) := by decide +kernel
theorem dX8_findMost_52 : decode cX8_findMost 52 = .ok (.if_icmp .ge 127, 3) := by decide +kernel
theorem dX8_findMost_55 : decode cX8_findMost 55 = .ok (.aload_n 0, 1) := by decide +kernel
theorem dX8_findMost_56 : decode cX8_findMost 56 = .ok (.iload_n 3, 1) := by decide +kernel
theorem dX8_findMost_57 : decode cX8_findMost 57 = .ok (.iconst 1, 1) := by decide +kernel
theorem dX8_findMost_58 : decode cX8_findMost 58 = .ok (.iadd, 1) := by decide +kernel
theorem dX8_findMost_59 : decode cX8_findMost 59 = .ok (.iload 4, 2) := by decide +kernel
theorem dX8_findMost_61 : decode cX8_findMost 61 = .ok (.invokevirtual 188, 3) := by decide +kernel
theorem dX8_findMost_64 : decode cX8_findMost 64 = .ok (.istore 5, 2) := by decide +kernel
theorem dX8_findMost_66 : decode cX8_findMost 66 = .ok (.iconst 0, 1) := by decide +kernel
theorem dX8_findMost_67 : decode cX8_findMost 67 = .ok (.istore 6, 2) := by decide +kernel
theorem dX8_findMost_69 : decode cX8_findMost 69 = .ok (.iload 6, 2) := by decide +kernel
theorem dX8_findMost_71 : decode cX8_findMost 71 = .ok (.aload_n 0, 1) := by decide +kernel
theorem dX8_findMost_72 : decode cX8_findMost 72 = .ok (.getfield 9, 3) := by decide +kernel
theorem dX8_findMost_75 : decode cX8_findMost 75 = .ok (.iconst 2, 1) := by decide +kernel
theorem dX8_findMost_76 : decode cX8_findMost 76 = .ok (.iaload, 1) := by decide +kernel
theorem dX8_findMost_77 : decode cX8_findMost 77 = .ok (.if_icmp .ge 82, 3) := by decide +kernel
theorem dX8_findMost_80 : decode cX8_findMost 80 = .ok (.aload_n 0, 1) := by decide +kernel
theorem dX8_findMost_81 : decode cX8_findMost 81 = .ok (.getfield 9, 3) := by decide +kernel
theorem dX8_findMost_84 : decode cX8_findMost 84 = .ok (.bipush 27, 2) := by decide +kernel
theorem dX8_findMost_86 : decode cX8_findMost 86 = .ok (.iload_n 3, 1) := by decide +kernel
theorem dX8_findMost_87 : decode cX8_findMost 87 = .ok (.iadd, 1) := by decide +kernel
theorem dX8_findMost_88 : decode cX8_findMost 88 = .ok (.iaload, 1) := by decide +kernel
theorem dX8_findMost_89 : decode cX8_findMost 89 = .ok (.ifCond .lt 70, 3) := by decide +kernel
theorem dX8_findMost_92 : decode cX8_findMost 92 = .ok (.iload 4, 2) := by decide +kernel
theorem dX8_findMost_94 : decode cX8_findMost 94 = .ok (.iload_n 2, 1) := by decide +kernel
theorem dX8_findMost_95 : decode cX8_findMost 95 = .ok (.iand, 1) := by decide +kernel
theorem dX8_findMost_96 : decode cX8_findMost 96 = .ok (.ifCond .ne 63, 3) := by decide +kernel
theorem dX8_findMost_99 : decode cX8_findMost 99 = .ok (.iload 4, 2) := by decide +kernel
theorem dX8_findMost_101 : decode cX8_findMost 101 = .ok (.iload_n 2, 1) := by decide +kernel
theorem dX8_findMost_102 : decode cX8_findMost 102 = .ok (.ior, 1) := by decide +kernel
theorem dX8_findMost_103 : decode cX8_findMost 103 = .ok (.iload 6, 2) := by decide +kernel
theorem dX8_findMost_105 : decode cX8_findMost 105 = .ok (.invokestatic 120, 3) := by decide +kernel
theorem dX8_findMost_108 : decode cX8_findMost 108 = .ok (.ifCond .eq 8, 3) := by decide +kernel
theorem dX8_findMost_111 : decode cX8_findMost 111 = .ok (.iload 5, 2) := by decide +kernel
theorem dX8_findMost_113 : decode cX8_findMost 113 = .ok (.goto 38, 3) := by decide +kernel
theorem dX8_findMost_116 : decode cX8_findMost 116 = .ok (.iload 5, 2) := by decide +kernel
theorem dX8_findMost_118 : decode cX8_findMost 118 = .ok (.aload_n 0, 1) := by decide +kernel
theorem dX8_findMost_119 : decode cX8_findMost 119 = .ok (.iload 6, 2) := by decide +kernel
theorem dX8_findMost_121 : decode cX8_findMost 121 = .ok (.aload_n 0, 1) := by decide +kernel
theorem dX8_findMost_122 : decode cX8_findMost 122 = .ok (.getfield 9, 3) := by decide +kernel
theorem dX8_findMost_125 : decode cX8_findMost 125 = .ok (.bipush 27, 2) := by decide +kernel
theorem dX8_findMost_127 : decode cX8_findMost 127 = .ok (.iload_n 3, 1) := by decide +kernel
theorem dX8_findMost_128 : decode cX8_findMost 128 = .ok (.iadd, 1) := by decide +kernel
theorem dX8_findMost_129 : decode cX8_findMost 129 = .ok (.iaload, 1) := by decide +kernel
theorem dX8_findMost_130 : decode cX8_findMost 130 = .ok (.invokevirtual 132, 3) := by decide +kernel
theorem dX8_findMost_133 : decode cX8_findMost 133 = .ok (.aload_n 0, 1) := by decide +kernel
theorem dX8_findMost_134 : decode cX8_findMost 134 = .ok (.iload_n 3, 1) := by decide +kernel
theorem dX8_findMost_135 : decode cX8_findMost 135 = .ok (.iconst 1, 1) := by decide +kernel
theorem dX8_findMost_136 : decode cX8_findMost 136 = .ok (.iadd, 1) := by decide +kernel
theorem dX8_findMost_137 : decode cX8_findMost 137 = .ok (.iload 4, 2) := by decide +kernel
theorem dX8_findMost_139 : decode cX8_findMost 139 = .ok (.iconst 1, 1) := by decide +kernel
theorem dX8_findMost_140 : decode cX8_findMost 140 = .ok (.iload 6, 2) := by decide +kernel
theorem dX8_findMost_142 : decode cX8_findMost 142 = .ok (.ishl, 1) := by decide +kernel
theorem dX8_findMost_143 : decode cX8_findMost 143 = .ok (.ior, 1) := by decide +kernel
theorem dX8_findMost_144 : decode cX8_findMost 144 = .ok (.invokevirtual 188, 3) := by decide +kernel
theorem dX8_findMost_147 : decode cX8_findMost 147 = .ok (.iadd, 1) := by decide +kernel
theorem dX8_findMost_148 : decode cX8_findMost 148 = .ok (.invokestatic 123, 3) := by decide +kernel
theorem dX8_findMost_151 : decode cX8_findMost 151 = .ok (.istore 5, 2) := by decide +kernel
theorem dX8_findMost_153 : decode cX8_findMost 153 = .ok (.iinc 6 1, 3) := by decide +kernel
theorem dX8_findMost_156 : decode cX8_findMost 156 = .ok (.goto (-87), 3) := by decide +kernel
theorem dX8_findMost_159 : decode cX8_findMost 159 = .ok (.aload_n 0, 1) := by decide +kernel
theorem dX8_findMost_160 : decode cX8_findMost 160 = .ok (.getfield 22, 3) := by decide +kernel
theorem dX8_findMost_163 : decode cX8_findMost 163 = .ok (.iload_n 3, 1) := by decide +kernel
theorem dX8_findMost_164 : decode cX8_findMost 164 = .ok (.bipush 10, 2) := by decide +kernel
theorem dX8_findMost_166 : decode cX8_findMost 166 = .ok (.ishl, 1) := by decide +kernel
theorem dX8_findMost_167 : decode cX8_findMost 167 = .ok (.iload 4, 2) := by decide +kernel
theorem dX8_findMost_169 : decode cX8_findMost 169 = .ok (.iadd, 1) := by decide +kernel
theorem dX8_findMost_170 : decode cX8_findMost 170 = .ok (.iload 5, 2) := by decide +kernel
theorem dX8_findMost_172 : decode cX8_findMost 172 = .ok (.iastore, 1) := by decide +kernel
theorem dX8_findMost_173 : decode cX8_findMost 173 = .ok (.iinc 4 1, 3) := by decide +kernel
theorem dX8_findMost_176 : decode cX8_findMost 176 = .ok (.goto (-129), 3) := by decide +kernel
theorem dX8_findMost_179 : decode cX8_findMost 179 = .ok (.iinc 3 (-1), 3) := by decide +kernel
theorem dX8_findMost_182 : decode cX8_findMost 182 = .ok (.goto (-142), 3) := by decide +kernel
theorem dX8_findMost_185 : decode cX8_findMost 185 = .ok (.aload_n 0, 1) := by decide +kernel
theorem dX8_findMost_186 : decode cX8_findMost 186 = .ok (.iconst 0, 1) := by decide +kernel
theorem dX8_findMost_187 : decode cX8_findMost 187 = .ok (.iconst 0, 1) := by decide +kernel
theorem dX8_findMost_188 : decode cX8_findMost 188 = .ok (.invokevirtual 188, 3) := by decide +kernel
theorem dX8_findMost_191 : decode cX8_findMost 191 = .ok (.ireturn, 1) := by decide +kernel
theorem dX8_most_0 : decode cX8_most 0 = .ok (.aload_n 0, 1) := by decide +kernel
theorem dX8_most_1 : decode cX8_most 1 = .ok (.iconst 0, 1) := by decide +kernel
theorem dX8_most_2 : decode cX8_most 2 = .ok (.invokevirtual 191, 3) := by decide +kernel
theorem dX8_most_5 : decode cX8_most 5 = .ok (.ireturn, 1) := by decide +kernel
theorem dX8_given_0 : decode cX8_given 0 = .ok (.iload_n 1, 1) := by decide +kernel
theorem dX8_given_1 : decode cX8_given 1 = .ok (.invokestatic 114, 3) := by decide +kernel
theorem dX8_given_4 : decode cX8_given 4 = .ok (.ifCond .ne 10, 3) := by decide +kernel
theorem dX8_given_7 : decode cX8_given 7 = .ok (.aload_n 0, 1) := by decide +kernel
theorem dX8_given_8 : decode cX8_given 8 = .ok (.ldc 63, 2) := by decide +kernel
theorem dX8_given_10 : decode cX8_given 10 = .ok (.invokevirtual 80, 3) := by decide +kernel
theorem dX8_given_13 : decode cX8_given 13 = .ok (.ireturn, 1) := by decide +kernel
theorem dX8_given_14 : decode cX8_given 14 = .ok (.aload_n 0, 1) := by decide +kernel
theorem dX8_given_15 : decode cX8_given 15 = .ok (.iconst 0, 1) := by decide +kernel
theorem dX8_given_16 : decode cX8_given 16 = .ok (.invokevirtual 191, 3) := by decide +kernel
theorem dX8_given_19 : decode cX8_given 19 = .ok (.istore_n 2, 1) := by decide +kernel
theorem dX8_given_20 : decode cX8_given 20 = .ok (.iconst 0, 1) := by decide +kernel
theorem dX8_given_21 : decode cX8_given 21 = .ok (.istore_n 3, 1) := by decide +kernel
theorem dX8_given_22 : decode cX8_given 22 = .ok (.iconst (-1), 1) := by decide +kernel
theorem dX8_given_23 : decode cX8_given 23 = .ok (.istore 4, 2) := by decide +kernel
theorem dX8_given_25 : decode cX8_given 25 = .ok (.iconst 0, 1) := by decide +kernel
theorem dX8_given_26 : decode cX8_given 26 = .ok (.istore 5, 2) := by decide +kernel
theorem dX8_given_28 : decode cX8_given 28 = .ok (.iload 5, 2) := by decide +kernel
theorem dX8_given_30 : decode cX8_given 30 = .ok (.iload_n 1, 1) := by decide +kernel
theorem dX8_given_31 : decode cX8_given 31 = .ok (.if_icmp .gt 145, 3) := by decide +kernel
theorem dX8_given_34 : decode cX8_given 34 = .ok (.iconst (-1), 1) := by decide +kernel
theorem dX8_given_35 : decode cX8_given 35 = .ok (.istore 4, 2) := by decide +kernel
theorem dX8_given_37 : decode cX8_given 37 = .ok (.aload_n 0, 1) := by decide +kernel
theorem dX8_given_38 : decode cX8_given 38 = .ok (.getfield 9, 3) := by decide +kernel
theorem dX8_given_41 : decode cX8_given 41 = .ok (.iconst 2, 1) := by decide +kernel
theorem dX8_given_42 : decode cX8_given 42 = .ok (.iaload, 1) := by decide +kernel
theorem dX8_given_43 : decode cX8_given 43 = .ok (.iconst 1, 1) := by decide +kernel
theorem dX8_given_44 : decode cX8_given 44 = .ok (.isub, 1) := by decide +kernel
theorem dX8_given_45 : decode cX8_given 45 = .ok (.istore 6, 2) := by decide +kernel
theorem dX8_given_47 : decode cX8_given 47 = .ok (.iload 6, 2) := by decide +kernel
theorem dX8_given_49 : decode cX8_given 49 = .ok (.ifCond .lt 77, 3) := by decide +kernel
theorem dX8_given_52 : decode cX8_given 52 = .ok (.aload_n 0, 1) := by decide +kernel
theorem dX8_given_53 : decode cX8_given 53 = .ok (.iload 5, 2) := by decide +kernel
theorem dX8_given_55 : decode cX8_given 55 = .ok (.iload_n 3, 1) := by decide +kernel
theorem dX8_given_56 : decode cX8_given 56 = .ok (.iload 6, 2) := by decide +kernel
theorem dX8_given_58 : decode cX8_given 58 = .ok (.invokevirtual 194, 3) := by decide +kernel
theorem dX8_given_61 : decode cX8_given 61 = .ok (.ifCond .eq 42, 3) := by decide +kernel
theorem dX8_given_64 : decode cX8_given 64 = .ok (.aload_n 0, 1) := by decide +kernel
theorem dX8_given_65 : decode cX8_given 65 = .ok (.iload 6, 2) := by decide +kernel
theorem dX8_given_67 : decode cX8_given 67 = .ok (.aload_n 0, 1) := by decide +kernel
theorem dX8_given_68 : decode cX8_given 68 = .ok (.getfield 9, 3) := by decide +kernel
theorem dX8_given_71 : decode cX8_given 71 = .ok (.bipush 27, 2) := by decide +kernel
theorem dX8_given_73 : decode cX8_given 73 = .ok (.iload 5, 2) := by decide +kernel
theorem dX8_given_75 : decode cX8_given 75 = .ok (.iadd, 1) := by decide +kernel
theorem dX8_given_76 : decode cX8_given 76 = .ok (.iaload, 1) := by decide +kernel
theorem dX8_given_77 : decode cX8_given 77 = .ok (.invokevirtual 132, 3) := by decide +kernel
theorem dX8_given_80 : decode cX8_given 80 = .ok (.aload_n 0, 1) := by decide +kernel
theorem dX8_given_81 : decode cX8_given 81 = .ok (.iload 5, 2) := by decide +kernel
theorem dX8_given_83 : decode cX8_given 83 = .ok (.iconst 1, 1) := by decide +kernel
theorem dX8_given_84 : decode cX8_given 84 = .ok (.iadd, 1) := by decide +kernel
theorem dX8_given_85 : decode cX8_given 85 = .ok (.iload_n 3, 1) := by decide +kernel
theorem dX8_given_86 : decode cX8_given 86 = .ok (.iconst 1, 1) := by decide +kernel
theorem dX8_given_87 : decode cX8_given 87 = .ok (.iload 6, 2) := by decide +kernel
theorem dX8_given_89 : decode cX8_given 89 = .ok (.ishl, 1) := by decide +kernel
theorem dX8_given_90 : decode cX8_given 90 = .ok (.ior, 1) := by decide +kernel
theorem dX8_given_91 : decode cX8_given 91 = .ok (.invokevirtual 188, 3) := by decide +kernel
theorem dX8_given_94 : decode cX8_given 94 = .ok (.iadd, 1) := by decide +kernel
theorem dX8_given_95 : decode cX8_given 95 = .ok (.iload_n 2, 1) := by decide +kernel
theorem dX8_given_96 : decode cX8_given 96 = .ok (.if_icmp .ne 7, 3) := by decide +kernel
theorem dX8_given_99 : decode cX8_given 99 = .ok (.iconst 1, 1) := by decide +kernel
theorem dX8_given_100 : decode cX8_given 100 = .ok (.goto 4, 3) := by decide +kernel
theorem dX8_given_103 : decode cX8_given 103 = .ok (.iconst 0, 1) := by decide +kernel
theorem dX8_given_104 : decode cX8_given 104 = .ok (.istore 7, 2) := by decide +kernel
theorem dX8_given_106 : decode cX8_given 106 = .ok (.iload 7, 2) := by decide +kernel
theorem dX8_given_108 : decode cX8_given 108 = .ok (.ifCond .eq 8, 3) := by decide +kernel
theorem dX8_given_111 : decode cX8_given 111 = .ok (.iload 6, 2) := by decide +kernel
theorem dX8_given_113 : decode cX8_given 113 = .ok (.goto 5, 3) := by decide +kernel
theorem dX8_given_116 : decode cX8_given 116 = .ok (.iload 4, 2) := by decide +kernel
theorem dX8_given_118 : decode cX8_given 118 = .ok (.istore 4, 2) := by decide +kernel
theorem dX8_given_120 : decode cX8_given 120 = .ok (.iinc 6 (-1), 3) := by decide +kernel
theorem dX8_given_123 : decode cX8_given 123 = .ok (.goto (-76), 3) := by decide +kernel
theorem dX8_given_126 : decode cX8_given 126 = .ok (.iload_n 2, 1) := by decide +kernel
theorem dX8_given_127 : decode cX8_given 127 = .ok (.iload 4, 2) := by decide +kernel
theorem dX8_given_129 : decode cX8_given 129 = .ok (.ifCond .ge 7, 3) := by decide +kernel
theorem dX8_given_132 : decode cX8_given 132 = .ok (.iconst 0, 1) := by decide +kernel
theorem dX8_given_133 : decode cX8_given 133 = .ok (.goto 19, 3) := by decide +kernel
theorem dX8_given_136 : decode cX8_given 136 = .ok (.aload_n 0, 1) := by decide +kernel
theorem dX8_given_137 : decode cX8_given 137 = .ok (.iload 4, 2) := by decide +kernel
theorem dX8_given_139 : decode cX8_given 139 = .ok (.aload_n 0, 1) := by decide +kernel
theorem dX8_given_140 : decode cX8_given 140 = .ok (.getfield 9, 3) := by decide +kernel
theorem dX8_given_143 : decode cX8_given 143 = .ok (.bipush 27, 2) := by decide +kernel
theorem dX8_given_145 : decode cX8_given 145 = .ok (.iload 5, 2) := by decide +kernel
theorem dX8_given_147 : decode cX8_given 147 = .ok (.iadd, 1) := by decide +kernel
theorem dX8_given_148 : decode cX8_given 148 = .ok (.iaload, 1) := by decide +kernel
theorem dX8_given_149 : decode cX8_given 149 = .ok (.invokevirtual 132, 3) := by decide +kernel
theorem dX8_given_152 : decode cX8_given 152 = .ok (.isub, 1) := by decide +kernel
theorem dX8_given_153 : decode cX8_given 153 = .ok (.istore_n 2, 1) := by decide +kernel
theorem dX8_given_154 : decode cX8_given 154 = .ok (.iload_n 3, 1) := by decide +kernel
theorem dX8_given_155 : decode cX8_given 155 = .ok (.iload 4, 2) := by decide +kernel
theorem dX8_given_157 : decode cX8_given 157 = .ok (.ifCond .ge 7, 3) := by decide +kernel
theorem dX8_given_160 : decode cX8_given 160 = .ok (.iconst 0, 1) := by decide +kernel
theorem dX8_given_161 : decode cX8_given 161 = .ok (.goto 7, 3) := by decide +kernel
theorem dX8_given_164 : decode cX8_given 164 = .ok (.iconst 1, 1) := by decide +kernel
theorem dX8_given_165 : decode cX8_given 165 = .ok (.iload 4, 2) := by decide +kernel
theorem dX8_given_167 : decode cX8_given 167 = .ok (.ishl, 1) := by decide +kernel
theorem dX8_given_168 : decode cX8_given 168 = .ok (.ior, 1) := by decide +kernel
theorem dX8_given_169 : decode cX8_given 169 = .ok (.istore_n 3, 1) := by decide +kernel
theorem dX8_given_170 : decode cX8_given 170 = .ok (.iinc 5 1, 3) := by decide +kernel
theorem dX8_given_173 : decode cX8_given 173 = .ok (.goto (-145), 3) := by decide +kernel
theorem dX8_given_176 : decode cX8_given 176 = .ok (.iload 4, 2) := by decide +kernel
theorem dX8_given_178 : decode cX8_given 178 = .ok (.ireturn, 1) := by decide +kernel
theorem dX8_likest_0 : decode cX8_likest 0 = .ok (.iload_n 1, 1) := by decide +kernel
theorem dX8_likest_1 : decode cX8_likest 1 = .ok (.invokestatic 111, 3) := by decide +kernel
theorem dX8_likest_4 : decode cX8_likest 4 = .ok (.ifCond .ne 10, 3) := by decide +kernel
theorem dX8_likest_7 : decode cX8_likest 7 = .ok (.aload_n 0, 1) := by decide +kernel
theorem dX8_likest_8 : decode cX8_likest 8 = .ok (.ldc 63, 2) := by decide +kernel
theorem dX8_likest_10 : decode cX8_likest 10 = .ok (.invokevirtual 80, 3) := by decide +kernel
theorem dX8_likest_13 : decode cX8_likest 13 = .ok (.ireturn, 1) := by decide +kernel
theorem dX8_likest_14 : decode cX8_likest 14 = .ok (.iconst (-1), 1) := by decide +kernel
theorem dX8_likest_15 : decode cX8_likest 15 = .ok (.istore_n 2, 1) := by decide +kernel
theorem dX8_likest_16 : decode cX8_likest 16 = .ok (.iconst (-1), 1) := by decide +kernel
theorem dX8_likest_17 : decode cX8_likest 17 = .ok (.istore_n 3, 1) := by decide +kernel
theorem dX8_likest_18 : decode cX8_likest 18 = .ok (.iconst 0, 1) := by decide +kernel
theorem dX8_likest_19 : decode cX8_likest 19 = .ok (.istore 4, 2) := by decide +kernel
theorem dX8_likest_21 : decode cX8_likest 21 = .ok (.iload 4, 2) := by decide +kernel
theorem dX8_likest_23 : decode cX8_likest 23 = .ok (.aload_n 0, 1) := by decide +kernel
theorem dX8_likest_24 : decode cX8_likest 24 = .ok (.getfield 9, 3) := by decide +kernel
theorem dX8_likest_27 : decode cX8_likest 27 = .ok (.iconst 2, 1) := by decide +kernel
theorem dX8_likest_28 : decode cX8_likest 28 = .ok (.iaload, 1) := by decide +kernel
theorem dX8_likest_29 : decode cX8_likest 29 = .ok (.if_icmp .ge 39, 3) := by decide +kernel
theorem dX8_likest_32 : decode cX8_likest 32 = .ok (.aload_n 0, 1) := by decide +kernel
theorem dX8_likest_33 : decode cX8_likest 33 = .ok (.iload 4, 2) := by decide +kernel
theorem dX8_likest_35 : decode cX8_likest 35 = .ok (.iload_n 1, 1) := by decide +kernel
theorem dX8_likest_36 : decode cX8_likest 36 = .ok (.invokevirtual 132, 3) := by decide +kernel
theorem dX8_likest_39 : decode cX8_likest 39 = .ok (.iload_n 3, 1) := by decide +kernel
theorem dX8_likest_40 : decode cX8_likest 40 = .ok (.if_icmp .le 8, 3) := by decide +kernel
theorem dX8_likest_43 : decode cX8_likest 43 = .ok (.iload 4, 2) := by decide +kernel
theorem dX8_likest_45 : decode cX8_likest 45 = .ok (.goto 4, 3) := by decide +kernel
theorem dX8_likest_48 : decode cX8_likest 48 = .ok (.iload_n 2, 1) := by decide +kernel
theorem dX8_likest_49 : decode cX8_likest 49 = .ok (.istore_n 2, 1) := by decide +kernel
theorem dX8_likest_50 : decode cX8_likest 50 = .ok (.iload_n 3, 1) := by decide +kernel
theorem dX8_likest_51 : decode cX8_likest 51 = .ok (.aload_n 0, 1) := by decide +kernel
theorem dX8_likest_52 : decode cX8_likest 52 = .ok (.iload 4, 2) := by decide +kernel
theorem dX8_likest_54 : decode cX8_likest 54 = .ok (.iload_n 1, 1) := by decide +kernel
theorem dX8_likest_55 : decode cX8_likest 55 = .ok (.invokevirtual 132, 3) := by decide +kernel
theorem dX8_likest_58 : decode cX8_likest 58 = .ok (.invokestatic 123, 3) := by decide +kernel
theorem dX8_likest_61 : decode cX8_likest 61 = .ok (.istore_n 3, 1) := by decide +kernel
theorem dX8_likest_62 : decode cX8_likest 62 = .ok (.iinc 4 1, 3) := by decide +kernel
theorem dX8_likest_65 : decode cX8_likest 65 = .ok (.goto (-44), 3) := by decide +kernel
theorem dX8_likest_68 : decode cX8_likest 68 = .ok (.iload_n 2, 1) := by decide +kernel
theorem dX8_likest_69 : decode cX8_likest 69 = .ok (.ifCond .ge 12, 3) := by decide +kernel
theorem dX8_likest_72 : decode cX8_likest 72 = .ok (.aload_n 0, 1) := by decide +kernel
theorem dX8_likest_73 : decode cX8_likest 73 = .ok (.ldc 197, 2) := by decide +kernel
theorem dX8_likest_75 : decode cX8_likest 75 = .ok (.invokevirtual 80, 3) := by decide +kernel
theorem dX8_likest_78 : decode cX8_likest 78 = .ok (.goto 4, 3) := by decide +kernel
theorem dX8_likest_81 : decode cX8_likest 81 = .ok (.iload_n 2, 1) := by decide +kernel
theorem dX8_likest_82 : decode cX8_likest 82 = .ok (.ireturn, 1) := by decide +kernel
theorem dX8_whom_0 : decode cX8_whom 0 = .ok (.aload_n 0, 1) := by decide +kernel
theorem dX8_whom_1 : decode cX8_whom 1 = .ok (.iload_n 1, 1) := by decide +kernel
theorem dX8_whom_2 : decode cX8_whom 2 = .ok (.invokevirtual 99, 3) := by decide +kernel
theorem dX8_whom_5 : decode cX8_whom 5 = .ok (.ifCond .ne 10, 3) := by decide +kernel
theorem dX8_whom_8 : decode cX8_whom 8 = .ok (.aload_n 0, 1) := by decide +kernel
theorem dX8_whom_9 : decode cX8_whom 9 = .ok (.ldc 63, 2) := by decide +kernel
theorem dX8_whom_11 : decode cX8_whom 11 = .ok (.invokevirtual 80, 3) := by decide +kernel
theorem dX8_whom_14 : decode cX8_whom 14 = .ok (.ireturn, 1) := by decide +kernel
theorem dX8_whom_15 : decode cX8_whom 15 = .ok (.iconst 0, 1) := by decide +kernel
theorem dX8_whom_16 : decode cX8_whom 16 = .ok (.istore_n 2, 1) := by decide +kernel
theorem dX8_whom_17 : decode cX8_whom 17 = .ok (.iconst 1, 1) := by decide +kernel
theorem dX8_whom_18 : decode cX8_whom 18 = .ok (.istore_n 3, 1) := by decide +kernel
theorem dX8_whom_19 : decode cX8_whom 19 = .ok (.iload_n 3, 1) := by decide +kernel
theorem dX8_whom_20 : decode cX8_whom 20 = .ok (.bipush 6, 2) := by decide +kernel
theorem dX8_whom_22 : decode cX8_whom 22 = .ok (.if_icmp .ge 30, 3) := by decide +kernel
theorem dX8_whom_25 : decode cX8_whom 25 = .ok (.aload_n 0, 1) := by decide +kernel
theorem dX8_whom_26 : decode cX8_whom 26 = .ok (.iload_n 1, 1) := by decide +kernel
theorem dX8_whom_27 : decode cX8_whom 27 = .ok (.iload_n 3, 1) := by decide +kernel
theorem dX8_whom_28 : decode cX8_whom 28 = .ok (.invokevirtual 132, 3) := by decide +kernel
theorem dX8_whom_31 : decode cX8_whom 31 = .ok (.aload_n 0, 1) := by decide +kernel
theorem dX8_whom_32 : decode cX8_whom 32 = .ok (.iload_n 1, 1) := by decide +kernel
theorem dX8_whom_33 : decode cX8_whom 33 = .ok (.iload_n 2, 1) := by decide +kernel
theorem dX8_whom_34 : decode cX8_whom 34 = .ok (.invokevirtual 132, 3) := by decide +kernel
theorem dX8_whom_37 : decode cX8_whom 37 = .ok (.if_icmp .le 7, 3) := by decide +kernel
theorem dX8_whom_40 : decode cX8_whom 40 = .ok (.iload_n 3, 1) := by decide +kernel
theorem dX8_whom_41 : decode cX8_whom 41 = .ok (.goto 4, 3) := by decide +kernel
theorem dX8_whom_44 : decode cX8_whom 44 = .ok (.iload_n 2, 1) := by decide +kernel
theorem dX8_whom_45 : decode cX8_whom 45 = .ok (.istore_n 2, 1) := by decide +kernel
theorem dX8_whom_46 : decode cX8_whom 46 = .ok (.iinc 3 1, 3) := by decide +kernel
theorem dX8_whom_49 : decode cX8_whom 49 = .ok (.goto (-30), 3) := by decide +kernel
theorem dX8_whom_52 : decode cX8_whom 52 = .ok (.iload_n 2, 1) := by decide +kernel
theorem dX8_whom_53 : decode cX8_whom 53 = .ok (.ireturn, 1) := by decide +kernel
theorem dX8_missed_0 : decode cX8_missed 0 = .ok (.aload_n 0, 1) := by decide +kernel
theorem dX8_missed_1 : decode cX8_missed 1 = .ok (.iload_n 1, 1) := by decide +kernel
theorem dX8_missed_2 : decode cX8_missed 2 = .ok (.invokevirtual 99, 3) := by decide +kernel
theorem dX8_missed_5 : decode cX8_missed 5 = .ok (.ifCond .ne 10, 3) := by decide +kernel
theorem dX8_missed_8 : decode cX8_missed 8 = .ok (.aload_n 0, 1) := by decide +kernel
theorem dX8_missed_9 : decode cX8_missed 9 = .ok (.ldc 63, 2) := by decide +kernel
theorem dX8_missed_11 : decode cX8_missed 11 = .ok (.invokevirtual 80, 3) := by decide +kernel
theorem dX8_missed_14 : decode cX8_missed 14 = .ok (.ireturn, 1) := by decide +kernel
theorem dX8_missed_15 : decode cX8_missed 15 = .ok (.aload_n 0, 1) := by decide +kernel
theorem dX8_missed_16 : decode cX8_missed 16 = .ok (.iconst 0, 1) := by decide +kernel
theorem dX8_missed_17 : decode cX8_missed 17 = .ok (.invokevirtual 191, 3) := by decide +kernel
theorem dX8_missed_20 : decode cX8_missed 20 = .ok (.istore_n 2, 1) := by decide +kernel
theorem dX8_missed_21 : decode cX8_missed 21 = .ok (.iload_n 2, 1) := by decide +kernel
theorem dX8_missed_22 : decode cX8_missed 22 = .ok (.aload_n 0, 1) := by decide +kernel
theorem dX8_missed_23 : decode cX8_missed 23 = .ok (.iconst 1, 1) := by decide +kernel
theorem dX8_missed_24 : decode cX8_missed 24 = .ok (.iload_n 1, 1) := by decide +kernel
theorem dX8_missed_25 : decode cX8_missed 25 = .ok (.ishl, 1) := by decide +kernel
theorem dX8_missed_26 : decode cX8_missed 26 = .ok (.invokevirtual 191, 3) := by decide +kernel
theorem dX8_missed_29 : decode cX8_missed 29 = .ok (.isub, 1) := by decide +kernel
theorem dX8_missed_30 : decode cX8_missed 30 = .ok (.ireturn, 1) := by decide +kernel
theorem dX8_bestWith_0 : decode cX8_bestWith 0 = .ok (.aload_n 0, 1) := by decide +kernel
theorem dX8_bestWith_1 : decode cX8_bestWith 1 = .ok (.getfield 9, 3) := by decide +kernel
theorem dX8_bestWith_4 : decode cX8_bestWith 4 = .ok (.iload_n 1, 1) := by decide +kernel
theorem dX8_bestWith_5 : decode cX8_bestWith 5 = .ok (.iaload, 1) := by decide +kernel
theorem dX8_bestWith_6 : decode cX8_bestWith 6 = .ok (.istore_n 3, 1) := by decide +kernel
theorem dX8_bestWith_7 : decode cX8_bestWith 7 = .ok (.iconst 0, 1) := by decide +kernel
theorem dX8_bestWith_8 : decode cX8_bestWith 8 = .ok (.istore 4, 2) := by decide +kernel
theorem dX8_bestWith_10 : decode cX8_bestWith 10 = .ok (.iconst (-1), 1) := by decide +kernel
theorem dX8_bestWith_11 : decode cX8_bestWith 11 = .ok (.istore 5, 2) := by decide +kernel
theorem dX8_bestWith_13 : decode cX8_bestWith 13 = .ok (.iconst 0, 1) := by decide +kernel
theorem dX8_bestWith_14 : decode cX8_bestWith 14 = .ok (.istore 6, 2) := by decide +kernel
theorem dX8_bestWith_16 : decode cX8_bestWith 16 = .ok (.iload 6, 2) := by decide +kernel
theorem dX8_bestWith_18 : decode cX8_bestWith 18 = .ok (.iload_n 2, 1) := by decide +kernel
theorem dX8_bestWith_19 : decode cX8_bestWith 19 = .ok (.if_icmp .ge 49, 3) := by decide +kernel
theorem dX8_bestWith_22 : decode cX8_bestWith 22 = .ok (.aload_n 0, 1) := by decide +kernel
theorem dX8_bestWith_23 : decode cX8_bestWith 23 = .ok (.getfield 9, 3) := by decide +kernel
theorem dX8_bestWith_26 : decode cX8_bestWith 26 = .ok (.iload_n 1, 1) := by decide +kernel
theorem dX8_bestWith_27 : decode cX8_bestWith 27 = .ok (.iload 6, 2) := by decide +kernel
theorem dX8_bestWith_29 : decode cX8_bestWith 29 = .ok (.iastore, 1) := by decide +kernel
theorem dX8_bestWith_30 : decode cX8_bestWith 30 = .ok (.aload_n 0, 1) := by decide +kernel
theorem dX8_bestWith_31 : decode cX8_bestWith 31 = .ok (.iconst 0, 1) := by decide +kernel
theorem dX8_bestWith_32 : decode cX8_bestWith 32 = .ok (.invokevirtual 191, 3) := by decide +kernel
theorem dX8_bestWith_35 : decode cX8_bestWith 35 = .ok (.istore 7, 2) := by decide +kernel
theorem dX8_bestWith_37 : decode cX8_bestWith 37 = .ok (.iload 7, 2) := by decide +kernel
theorem dX8_bestWith_39 : decode cX8_bestWith 39 = .ok (.iload 5, 2) := by decide +kernel
theorem dX8_bestWith_41 : decode cX8_bestWith 41 = .ok (.if_icmp .le 8, 3) := by decide +kernel
theorem dX8_bestWith_44 : decode cX8_bestWith 44 = .ok (.iload 6, 2) := by decide +kernel
theorem dX8_bestWith_46 : decode cX8_bestWith 46 = .ok (.goto 5, 3) := by decide +kernel
theorem dX8_bestWith_49 : decode cX8_bestWith 49 = .ok (.iload 4, 2) := by decide +kernel
theorem dX8_bestWith_51 : decode cX8_bestWith 51 = .ok (.istore 4, 2) := by decide +kernel
theorem dX8_bestWith_53 : decode cX8_bestWith 53 = .ok (.iload 5, 2) := by decide +kernel
theorem dX8_bestWith_55 : decode cX8_bestWith 55 = .ok (.iload 7, 2) := by decide +kernel
theorem dX8_bestWith_57 : decode cX8_bestWith 57 = .ok (.invokestatic 123, 3) := by decide +kernel
theorem dX8_bestWith_60 : decode cX8_bestWith 60 = .ok (.istore 5, 2) := by decide +kernel
theorem dX8_bestWith_62 : decode cX8_bestWith 62 = .ok (.iinc 6 1, 3) := by decide +kernel
theorem dX8_bestWith_65 : decode cX8_bestWith 65 = .ok (.goto (-49), 3) := by decide +kernel
theorem dX8_bestWith_68 : decode cX8_bestWith 68 = .ok (.aload_n 0, 1) := by decide +kernel
theorem dX8_bestWith_69 : decode cX8_bestWith 69 = .ok (.getfield 9, 3) := by decide +kernel
theorem dX8_bestWith_72 : decode cX8_bestWith 72 = .ok (.iload_n 1, 1) := by decide +kernel
theorem dX8_bestWith_73 : decode cX8_bestWith 73 = .ok (.iload_n 3, 1) := by decide +kernel
theorem dX8_bestWith_74 : decode cX8_bestWith 74 = .ok (.iastore, 1) := by decide +kernel
theorem dX8_bestWith_75 : decode cX8_bestWith 75 = .ok (.iload 4, 2) := by decide +kernel
theorem dX8_bestWith_77 : decode cX8_bestWith 77 = .ok (.ireturn, 1) := by decide +kernel
theorem dX8_recast_0 : decode cX8_recast 0 = .ok (.aload_n 0, 1) := by decide +kernel
theorem dX8_recast_1 : decode cX8_recast 1 = .ok (.iload_n 1, 1) := by decide +kernel
theorem dX8_recast_2 : decode cX8_recast 2 = .ok (.invokevirtual 99, 3) := by decide +kernel
theorem dX8_recast_5 : decode cX8_recast 5 = .ok (.ifCond .ne 10, 3) := by decide +kernel
theorem dX8_recast_8 : decode cX8_recast 8 = .ok (.aload_n 0, 1) := by decide +kernel
theorem dX8_recast_9 : decode cX8_recast 9 = .ok (.ldc 63, 2) := by decide +kernel
theorem dX8_recast_11 : decode cX8_recast 11 = .ok (.invokevirtual 80, 3) := by decide +kernel
theorem dX8_recast_14 : decode cX8_recast 14 = .ok (.ireturn, 1) := by decide +kernel
theorem dX8_recast_15 : decode cX8_recast 15 = .ok (.aload_n 0, 1) := by decide +kernel
theorem dX8_recast_16 : decode cX8_recast 16 = .ok (.iload_n 1, 1) := by decide +kernel
theorem dX8_recast_17 : decode cX8_recast 17 = .ok (.invokevirtual 182, 3) := by decide +kernel
theorem dX8_recast_20 : decode cX8_recast 20 = .ok (.ifCond .eq 18, 3) := by decide +kernel
theorem dX8_recast_23 : decode cX8_recast 23 = .ok (.aload_n 0, 1) := by decide +kernel
theorem dX8_recast_24 : decode cX8_recast 24 = .ok (.iload_n 1, 1) := by decide +kernel
theorem dX8_recast_25 : decode cX8_recast 25 = .ok (.iconst 1, 1) := by decide +kernel
theorem dX8_recast_26 : decode cX8_recast 26 = .ok (.invokestatic 72, 3) := by decide +kernel
theorem dX8_recast_29 : decode cX8_recast 29 = .ok (.sipush 256, 3) := by decide +kernel
theorem dX8_recast_32 : decode cX8_recast 32 = .ok (.invokevirtual 198, 3) := by decide +kernel
theorem dX8_recast_35 : decode cX8_recast 35 = .ok (.goto 9, 3) := by decide +kernel
theorem dX8_recast_38 : decode cX8_recast 38 = .ok (.aload_n 0, 1) := by decide +kernel
theorem dX8_recast_39 : decode cX8_recast 39 = .ok (.ldc 201, 2) := by decide +kernel
theorem dX8_recast_41 : decode cX8_recast 41 = .ok (.invokevirtual 80, 3) := by decide +kernel
theorem dX8_recast_44 : decode cX8_recast 44 = .ok (.ireturn, 1) := by decide +kernel
theorem dX8_kindFor_0 : decode cX8_kindFor 0 = .ok (.aload_n 0, 1) := by decide +kernel
theorem dX8_kindFor_1 : decode cX8_kindFor 1 = .ok (.iload_n 1, 1) := by decide +kernel
theorem dX8_kindFor_2 : decode cX8_kindFor 2 = .ok (.invokevirtual 99, 3) := by decide +kernel
theorem dX8_kindFor_5 : decode cX8_kindFor 5 = .ok (.ifCond .eq 17, 3) := by decide +kernel
theorem dX8_kindFor_8 : decode cX8_kindFor 8 = .ok (.aload_n 0, 1) := by decide +kernel
theorem dX8_kindFor_9 : decode cX8_kindFor 9 = .ok (.iload_n 1, 1) := by decide +kernel
theorem dX8_kindFor_10 : decode cX8_kindFor 10 = .ok (.iconst 0, 1) := by decide +kernel
theorem dX8_kindFor_11 : decode cX8_kindFor 11 = .ok (.invokestatic 72, 3) := by decide +kernel
theorem dX8_kindFor_14 : decode cX8_kindFor 14 = .ok (.bipush 7, 2) := by decide +kernel
theorem dX8_kindFor_16 : decode cX8_kindFor 16 = .ok (.invokevirtual 198, 3) := by decide +kernel
theorem dX8_kindFor_19 : decode cX8_kindFor 19 = .ok (.goto 9, 3) := by decide +kernel
theorem dX8_kindFor_22 : decode cX8_kindFor 22 = .ok (.aload_n 0, 1) := by decide +kernel
theorem dX8_kindFor_23 : decode cX8_kindFor 23 = .ok (.ldc 63, 2) := by decide +kernel
theorem dX8_kindFor_25 : decode cX8_kindFor 25 = .ok (.invokevirtual 80, 3) := by decide +kernel
theorem dX8_kindFor_28 : decode cX8_kindFor 28 = .ok (.ireturn, 1) := by decide +kernel
theorem dX8_isUnseen_0 : decode cX8_isUnseen 0 = .ok (.aload_n 0, 1) := by decide +kernel
theorem dX8_isUnseen_1 : decode cX8_isUnseen 1 = .ok (.getfield 9, 3) := by decide +kernel
theorem dX8_isUnseen_4 : decode cX8_isUnseen 4 = .ok (.aload_n 0, 1) := by decide +kernel
theorem dX8_isUnseen_5 : decode cX8_isUnseen 5 = .ok (.getfield 16, 3) := by decide +kernel
theorem dX8_isUnseen_8 : decode cX8_isUnseen 8 = .ok (.invokestatic 64, 3) := by decide +kernel
theorem dX8_isUnseen_11 : decode cX8_isUnseen 11 = .ok (.aload_n 0, 1) := by decide +kernel
theorem dX8_isUnseen_12 : decode cX8_isUnseen 12 = .ok (.iload_n 3, 1) := by decide +kernel
theorem dX8_isUnseen_13 : decode cX8_isUnseen 13 = .ok (.invokevirtual 164, 3) := by decide +kernel
theorem dX8_isUnseen_16 : decode cX8_isUnseen 16 = .ok (.aload_n 0, 1) := by decide +kernel
theorem dX8_isUnseen_17 : decode cX8_isUnseen 17 = .ok (.iload_n 1, 1) := by decide +kernel
theorem dX8_isUnseen_18 : decode cX8_isUnseen 18 = .ok (.iload_n 2, 1) := by decide +kernel
theorem dX8_isUnseen_19 : decode cX8_isUnseen 19 = .ok (.invokevirtual 168, 3) := by decide +kernel
theorem dX8_isUnseen_22 : decode cX8_isUnseen 22 = .ok (.aload_n 0, 1) := by decide +kernel
theorem dX8_isUnseen_23 : decode cX8_isUnseen 23 = .ok (.invokevirtual 175, 3) := by decide +kernel
theorem dX8_isUnseen_26 : decode cX8_isUnseen 26 = .ok (.iload 4, 2) := by decide +kernel
theorem dX8_isUnseen_28 : decode cX8_isUnseen 28 = .ok (.iand, 1) := by decide +kernel
theorem dX8_isUnseen_29 : decode cX8_isUnseen 29 = .ok (.ifCond .eq 10, 3) := by decide +kernel
theorem dX8_isUnseen_32 : decode cX8_isUnseen 32 = .ok (.aload_n 0, 1) := by decide +kernel
theorem dX8_isUnseen_33 : decode cX8_isUnseen 33 = .ok (.invokevirtual 161, 3) := by decide +kernel
theorem dX8_isUnseen_36 : decode cX8_isUnseen 36 = .ok (.goto (-14), 3) := by decide +kernel
theorem dX8_isUnseen_39 : decode cX8_isUnseen 39 = .ok (.iconst 1, 1) := by decide +kernel
theorem dX8_isUnseen_40 : decode cX8_isUnseen 40 = .ok (.istore 5, 2) := by decide +kernel
theorem dX8_isUnseen_42 : decode cX8_isUnseen 42 = .ok (.iconst 0, 1) := by decide +kernel
theorem dX8_isUnseen_43 : decode cX8_isUnseen 43 = .ok (.istore 6, 2) := by decide +kernel
theorem dX8_isUnseen_45 : decode cX8_isUnseen 45 = .ok (.iload 6, 2) := by decide +kernel
theorem dX8_isUnseen_47 : decode cX8_isUnseen 47 = .ok (.aload_n 0, 1) := by decide +kernel
theorem dX8_isUnseen_48 : decode cX8_isUnseen 48 = .ok (.getfield 9, 3) := by decide +kernel
theorem dX8_isUnseen_51 : decode cX8_isUnseen 51 = .ok (.iconst 3, 1) := by decide +kernel
theorem dX8_isUnseen_52 : decode cX8_isUnseen 52 = .ok (.iaload, 1) := by decide +kernel
theorem dX8_isUnseen_53 : decode cX8_isUnseen 53 = .ok (.if_icmp .ge 45, 3) := by decide +kernel
theorem dX8_isUnseen_56 : decode cX8_isUnseen 56 = .ok (.iload 5, 2) := by decide +kernel
theorem dX8_isUnseen_58 : decode cX8_isUnseen 58 = .ok (.ifCond .eq 31, 3) := by decide +kernel
theorem dX8_isUnseen_61 : decode cX8_isUnseen 61 = .ok (.iload 4, 2) := by decide +kernel
theorem dX8_isUnseen_63 : decode cX8_isUnseen 63 = .ok (.iload 6, 2) := by decide +kernel
theorem dX8_isUnseen_65 : decode cX8_isUnseen 65 = .ok (.invokestatic 120, 3) := by decide +kernel
theorem dX8_isUnseen_68 : decode cX8_isUnseen 68 = .ok (.ifCond .eq 17, 3) := by decide +kernel
theorem dX8_isUnseen_71 : decode cX8_isUnseen 71 = .ok (.aload_n 0, 1) := by decide +kernel
theorem dX8_isUnseen_72 : decode cX8_isUnseen 72 = .ok (.iload 6, 2) := by decide +kernel
theorem dX8_isUnseen_74 : decode cX8_isUnseen 74 = .ok (.iconst 2, 1) := by decide +kernel
theorem dX8_isUnseen_75 : decode cX8_isUnseen 75 = .ok (.invokevirtual 158, 3) := by decide +kernel
theorem dX8_isUnseen_78 : decode cX8_isUnseen 78 = .ok (.iload_n 1, 1) := by decide +kernel
theorem dX8_isUnseen_79 : decode cX8_isUnseen 79 = .ok (.invokestatic 120, 3) := by decide +kernel
theorem dX8_isUnseen_82 : decode cX8_isUnseen 82 = .ok (.ifCond .ne 7, 3) := by decide +kernel
theorem dX8_isUnseen_85 : decode cX8_isUnseen 85 = .ok (.iconst 1, 1) := by decide +kernel
theorem dX8_isUnseen_86 : decode cX8_isUnseen 86 = .ok (.goto 4, 3) := by decide +kernel
theorem dX8_isUnseen_89 : decode cX8_isUnseen 89 = .ok (.iconst 0, 1) := by decide +kernel
theorem dX8_isUnseen_90 : decode cX8_isUnseen 90 = .ok (.istore 5, 2) := by decide +kernel
theorem dX8_isUnseen_92 : decode cX8_isUnseen 92 = .ok (.iinc 6 1, 3) := by decide +kernel
theorem dX8_isUnseen_95 : decode cX8_isUnseen 95 = .ok (.goto (-50), 3) := by decide +kernel
theorem dX8_isUnseen_98 : decode cX8_isUnseen 98 = .ok (.aload_n 0, 1) := by decide +kernel
theorem dX8_isUnseen_99 : decode cX8_isUnseen 99 = .ok (.getfield 16, 3) := by decide +kernel
theorem dX8_isUnseen_102 : decode cX8_isUnseen 102 = .ok (.aload_n 0, 1) := by decide +kernel
theorem dX8_isUnseen_103 : decode cX8_isUnseen 103 = .ok (.getfield 9, 3) := by decide +kernel
theorem dX8_isUnseen_106 : decode cX8_isUnseen 106 = .ok (.invokestatic 64, 3) := by decide +kernel
theorem dX8_isUnseen_109 : decode cX8_isUnseen 109 = .ok (.iload 5, 2) := by decide +kernel
theorem dX8_isUnseen_111 : decode cX8_isUnseen 111 = .ok (.ireturn, 1) := by decide +kernel
theorem dX8_whoCount_0 : decode cX8_whoCount 0 = .ok (.aload_n 0, 1) := by decide +kernel
theorem dX8_whoCount_1 : decode cX8_whoCount 1 = .ok (.invokevirtual 175, 3) := by decide +kernel
theorem dX8_whoCount_4 : decode cX8_whoCount 4 = .ok (.istore_n 2, 1) := by decide +kernel
theorem dX8_whoCount_5 : decode cX8_whoCount 5 = .ok (.iconst 0, 1) := by decide +kernel
theorem dX8_whoCount_6 : decode cX8_whoCount 6 = .ok (.istore_n 3, 1) := by decide +kernel
theorem dX8_whoCount_7 : decode cX8_whoCount 7 = .ok (.iload_n 3, 1) := by decide +kernel
theorem dX8_whoCount_8 : decode cX8_whoCount 8 = .ok (.aload_n 0, 1) := by decide +kernel
theorem dX8_whoCount_9 : decode cX8_whoCount 9 = .ok (.getfield 9, 3) := by decide +kernel
theorem dX8_whoCount_12 : decode cX8_whoCount 12 = .ok (.iconst 3, 1) := by decide +kernel
theorem dX8_whoCount_13 : decode cX8_whoCount 13 = .ok (.iaload, 1) := by decide +kernel
theorem dX8_whoCount_14 : decode cX8_whoCount 14 = .ok (.if_icmp .ge 34, 3) := by decide +kernel
theorem dX8_whoCount_17 : decode cX8_whoCount 17 = .ok (.iload_n 2, 1) := by decide +kernel
theorem dX8_whoCount_18 : decode cX8_whoCount 18 = .ok (.aload_n 0, 1) := by decide +kernel
theorem dX8_whoCount_19 : decode cX8_whoCount 19 = .ok (.iload_n 3, 1) := by decide +kernel
theorem dX8_whoCount_20 : decode cX8_whoCount 20 = .ok (.iconst 2, 1) := by decide +kernel
theorem dX8_whoCount_21 : decode cX8_whoCount 21 = .ok (.invokevirtual 158, 3) := by decide +kernel
theorem dX8_whoCount_24 : decode cX8_whoCount 24 = .ok (.iload_n 1, 1) := by decide +kernel
theorem dX8_whoCount_25 : decode cX8_whoCount 25 = .ok (.invokestatic 120, 3) := by decide +kernel
theorem dX8_whoCount_28 : decode cX8_whoCount 28 = .ok (.ifCond .eq 11, 3) := by decide +kernel
theorem dX8_whoCount_31 : decode cX8_whoCount 31 = .ok (.iconst 1, 1) := by decide +kernel
theorem dX8_whoCount_32 : decode cX8_whoCount 32 = .ok (.iload_n 3, 1) := by decide +kernel
theorem dX8_whoCount_33 : decode cX8_whoCount 33 = .ok (.ishl, 1) := by decide +kernel
theorem dX8_whoCount_34 : decode cX8_whoCount 34 = .ok (.iconst (-1), 1) := by decide +kernel
theorem dX8_whoCount_35 : decode cX8_whoCount 35 = .ok (.ixor, 1) := by decide +kernel
theorem dX8_whoCount_36 : decode cX8_whoCount 36 = .ok (.goto 4, 3) := by decide +kernel
theorem dX8_whoCount_39 : decode cX8_whoCount 39 = .ok (.iconst (-1), 1) := by decide +kernel
theorem dX8_whoCount_40 : decode cX8_whoCount 40 = .ok (.iand, 1) := by decide +kernel
theorem dX8_whoCount_41 : decode cX8_whoCount 41 = .ok (.istore_n 2, 1) := by decide +kernel
theorem dX8_whoCount_42 : decode cX8_whoCount 42 = .ok (.iinc 3 1, 3) := by decide +kernel
theorem dX8_whoCount_45 : decode cX8_whoCount 45 = .ok (.goto (-38), 3) := by decide +kernel
theorem dX8_whoCount_48 : decode cX8_whoCount 48 = .ok (.iload_n 2, 1) := by decide +kernel
theorem dX8_whoCount_49 : decode cX8_whoCount 49 = .ok (.ireturn, 1) := by decide +kernel
theorem dX8_unseen_0 : decode cX8_unseen 0 = .ok (.aload_n 0, 1) := by decide +kernel
theorem dX8_unseen_1 : decode cX8_unseen 1 = .ok (.iload_n 1, 1) := by decide +kernel
theorem dX8_unseen_2 : decode cX8_unseen 2 = .ok (.invokevirtual 99, 3) := by decide +kernel
theorem dX8_unseen_5 : decode cX8_unseen 5 = .ok (.ifCond .eq 10, 3) := by decide +kernel
theorem dX8_unseen_8 : decode cX8_unseen 8 = .ok (.iload_n 2, 1) := by decide +kernel
theorem dX8_unseen_9 : decode cX8_unseen 9 = .ok (.invokestatic 105, 3) := by decide +kernel
theorem dX8_unseen_12 : decode cX8_unseen 12 = .ok (.ifCond .ne 10, 3) := by decide +kernel
theorem dX8_unseen_15 : decode cX8_unseen 15 = .ok (.aload_n 0, 1) := by decide +kernel
theorem dX8_unseen_16 : decode cX8_unseen 16 = .ok (.ldc 63, 2) := by decide +kernel
theorem dX8_unseen_18 : decode cX8_unseen 18 = .ok (.invokevirtual 80, 3) := by decide +kernel
theorem dX8_unseen_21 : decode cX8_unseen 21 = .ok (.ireturn, 1) := by decide +kernel
theorem dX8_unseen_22 : decode cX8_unseen 22 = .ok (.aload_n 0, 1) := by decide +kernel
theorem dX8_unseen_23 : decode cX8_unseen 23 = .ok (.iload_n 1, 1) := by decide +kernel
theorem dX8_unseen_24 : decode cX8_unseen 24 = .ok (.iconst 3, 1) := by decide +kernel
theorem dX8_unseen_25 : decode cX8_unseen 25 = .ok (.invokevirtual 92, 3) := by decide +kernel
theorem dX8_unseen_28 : decode cX8_unseen 28 = .ok (.iload_n 2, 1) := by decide +kernel
theorem dX8_unseen_29 : decode cX8_unseen 29 = .ok (.if_icmp .eq 15, 3) := by decide +kernel
theorem dX8_unseen_32 : decode cX8_unseen 32 = .ok (.aload_n 0, 1) := by decide +kernel
theorem dX8_unseen_33 : decode cX8_unseen 33 = .ok (.getfield 9, 3) := by decide +kernel
theorem dX8_unseen_36 : decode cX8_unseen 36 = .ok (.iconst 0, 1) := by decide +kernel
theorem dX8_unseen_37 : decode cX8_unseen 37 = .ok (.iaload, 1) := by decide +kernel
theorem dX8_unseen_38 : decode cX8_unseen 38 = .ok (.sipush 9000, 3) := by decide +kernel
theorem dX8_unseen_41 : decode cX8_unseen 41 = .ok (.if_icmp .le 10, 3) := by decide +kernel
theorem dX8_unseen_44 : decode cX8_unseen 44 = .ok (.aload_n 0, 1) := by decide +kernel
theorem dX8_unseen_45 : decode cX8_unseen 45 = .ok (.ldc 150, 2) := by decide +kernel
theorem dX8_unseen_47 : decode cX8_unseen 47 = .ok (.invokevirtual 80, 3) := by decide +kernel
theorem dX8_unseen_50 : decode cX8_unseen 50 = .ok (.ireturn, 1) := by decide +kernel
theorem dX8_unseen_51 : decode cX8_unseen 51 = .ok (.aload_n 0, 1) := by decide +kernel
theorem dX8_unseen_52 : decode cX8_unseen 52 = .ok (.iload_n 1, 1) := by decide +kernel
theorem dX8_unseen_53 : decode cX8_unseen 53 = .ok (.invokevirtual 202, 3) := by decide +kernel
theorem dX8_unseen_56 : decode cX8_unseen 56 = .ok (.istore_n 3, 1) := by decide +kernel
theorem dX8_unseen_57 : decode cX8_unseen 57 = .ok (.iconst 0, 1) := by decide +kernel
theorem dX8_unseen_58 : decode cX8_unseen 58 = .ok (.istore 4, 2) := by decide +kernel
theorem dX8_unseen_60 : decode cX8_unseen 60 = .ok (.iload 4, 2) := by decide +kernel
theorem dX8_unseen_62 : decode cX8_unseen 62 = .ok (.bipush 60, 2) := by decide +kernel
theorem dX8_unseen_64 : decode cX8_unseen 64 = .ok (.if_icmp .gt 21, 3) := by decide +kernel
theorem dX8_unseen_67 : decode cX8_unseen 67 = .ok (.aload_n 0, 1) := by decide +kernel
theorem dX8_unseen_68 : decode cX8_unseen 68 = .ok (.iload_n 1, 1) := by decide +kernel
theorem dX8_unseen_69 : decode cX8_unseen 69 = .ok (.iload_n 2, 1) := by decide +kernel
theorem dX8_unseen_70 : decode cX8_unseen 70 = .ok (.iload 4, 2) := by decide +kernel
theorem dX8_unseen_72 : decode cX8_unseen 72 = .ok (.iload_n 3, 1) := by decide +kernel
theorem dX8_unseen_73 : decode cX8_unseen 73 = .ok (.invokevirtual 205, 3) := by decide +kernel
theorem dX8_unseen_76 : decode cX8_unseen 76 = .ok (.ifCond .ne 9, 3) := by decide +kernel
theorem dX8_unseen_79 : decode cX8_unseen 79 = .ok (.iinc 4 1, 3) := by decide +kernel
theorem dX8_unseen_82 : decode cX8_unseen 82 = .ok (.goto (-22), 3) := by decide +kernel
theorem dX8_unseen_85 : decode cX8_unseen 85 = .ok (.iload 4, 2) := by decide +kernel
theorem dX8_unseen_87 : decode cX8_unseen 87 = .ok (.bipush 60, 2) := by decide +kernel
theorem dX8_unseen_89 : decode cX8_unseen 89 = .ok (.if_icmp .le 12, 3) := by decide +kernel
theorem dX8_unseen_92 : decode cX8_unseen 92 = .ok (.aload_n 0, 1) := by decide +kernel
theorem dX8_unseen_93 : decode cX8_unseen 93 = .ok (.ldc 197, 2) := by decide +kernel
theorem dX8_unseen_95 : decode cX8_unseen 95 = .ok (.invokevirtual 80, 3) := by decide +kernel
theorem dX8_unseen_98 : decode cX8_unseen 98 = .ok (.goto 5, 3) := by decide +kernel
theorem dX8_unseen_101 : decode cX8_unseen 101 = .ok (.iload 4, 2) := by decide +kernel
theorem dX8_unseen_103 : decode cX8_unseen 103 = .ok (.ireturn, 1) := by decide +kernel
theorem dX8_hidden_0 : decode cX8_hidden 0 = .ok (.iload_n 1, 1) := by decide +kernel
theorem dX8_hidden_1 : decode cX8_hidden 1 = .ok (.invokestatic 105, 3) := by decide +kernel
theorem dX8_hidden_4 : decode cX8_hidden 4 = .ok (.ifCond .ne 10, 3) := by decide +kernel
theorem dX8_hidden_7 : decode cX8_hidden 7 = .ok (.aload_n 0, 1) := by decide +kernel
theorem dX8_hidden_8 : decode cX8_hidden 8 = .ok (.ldc 63, 2) := by decide +kernel
theorem dX8_hidden_10 : decode cX8_hidden 10 = .ok (.invokevirtual 80, 3) := by decide +kernel
theorem dX8_hidden_13 : decode cX8_hidden 13 = .ok (.ireturn, 1) := by decide +kernel
theorem dX8_hidden_14 : decode cX8_hidden 14 = .ok (.aload_n 0, 1) := by decide +kernel
theorem dX8_hidden_15 : decode cX8_hidden 15 = .ok (.getfield 9, 3) := by decide +kernel
theorem dX8_hidden_18 : decode cX8_hidden 18 = .ok (.iconst 0, 1) := by decide +kernel
theorem dX8_hidden_19 : decode cX8_hidden 19 = .ok (.iaload, 1) := by decide +kernel
theorem dX8_hidden_20 : decode cX8_hidden 20 = .ok (.sipush 9000, 3) := by decide +kernel
theorem dX8_hidden_23 : decode cX8_hidden 23 = .ok (.if_icmp .le 10, 3) := by decide +kernel
theorem dX8_hidden_26 : decode cX8_hidden 26 = .ok (.aload_n 0, 1) := by decide +kernel
theorem dX8_hidden_27 : decode cX8_hidden 27 = .ok (.ldc 150, 2) := by decide +kernel
theorem dX8_hidden_29 : decode cX8_hidden 29 = .ok (.invokevirtual 80, 3) := by decide +kernel
theorem dX8_hidden_32 : decode cX8_hidden 32 = .ok (.ireturn, 1) := by decide +kernel
theorem dX8_hidden_33 : decode cX8_hidden 33 = .ok (.iconst 0, 1) := by decide +kernel
theorem dX8_hidden_34 : decode cX8_hidden 34 = .ok (.istore_n 2, 1) := by decide +kernel
theorem dX8_hidden_35 : decode cX8_hidden 35 = .ok (.iconst 0, 1) := by decide +kernel
theorem dX8_hidden_36 : decode cX8_hidden 36 = .ok (.istore_n 3, 1) := by decide +kernel
theorem dX8_hidden_37 : decode cX8_hidden 37 = .ok (.iload_n 3, 1) := by decide +kernel
theorem dX8_hidden_38 : decode cX8_hidden 38 = .ok (.aload_n 0, 1) := by decide +kernel
theorem dX8_hidden_39 : decode cX8_hidden 39 = .ok (.getfield 9, 3) := by decide +kernel
theorem dX8_hidden_42 : decode cX8_hidden 42 = .ok (.iconst 2, 1) := by decide +kernel
theorem dX8_hidden_43 : decode cX8_hidden 43 = .ok (.iaload, 1) := by decide +kernel
theorem dX8_hidden_44 : decode cX8_hidden 44 = .ok (.if_icmp .ge 44, 3) := by decide +kernel
theorem dX8_hidden_47 : decode cX8_hidden 47 = .ok (.iload_n 2, 1) := by decide +kernel
theorem dX8_hidden_48 : decode cX8_hidden 48 = .ok (.aload_n 0, 1) := by decide +kernel
theorem dX8_hidden_49 : decode cX8_hidden 49 = .ok (.iload_n 3, 1) := by decide +kernel
theorem dX8_hidden_50 : decode cX8_hidden 50 = .ok (.iconst 3, 1) := by decide +kernel
theorem dX8_hidden_51 : decode cX8_hidden 51 = .ok (.invokevirtual 92, 3) := by decide +kernel
theorem dX8_hidden_54 : decode cX8_hidden 54 = .ok (.iload_n 1, 1) := by decide +kernel
theorem dX8_hidden_55 : decode cX8_hidden 55 = .ok (.if_icmp .eq 24, 3) := by decide +kernel
theorem dX8_hidden_58 : decode cX8_hidden 58 = .ok (.aload_n 0, 1) := by decide +kernel
theorem dX8_hidden_59 : decode cX8_hidden 59 = .ok (.iload_n 3, 1) := by decide +kernel
theorem dX8_hidden_60 : decode cX8_hidden 60 = .ok (.iload_n 1, 1) := by decide +kernel
theorem dX8_hidden_61 : decode cX8_hidden 61 = .ok (.iconst 0, 1) := by decide +kernel
theorem dX8_hidden_62 : decode cX8_hidden 62 = .ok (.aload_n 0, 1) := by decide +kernel
theorem dX8_hidden_63 : decode cX8_hidden 63 = .ok (.iload_n 3, 1) := by decide +kernel
theorem dX8_hidden_64 : decode cX8_hidden 64 = .ok (.invokevirtual 202, 3) := by decide +kernel
theorem dX8_hidden_67 : decode cX8_hidden 67 = .ok (.invokevirtual 205, 3) := by decide +kernel
theorem dX8_hidden_70 : decode cX8_hidden 70 = .ok (.ifCond .eq 9, 3) := by decide +kernel
theorem dX8_hidden_73 : decode cX8_hidden 73 = .ok (.iconst 1, 1) := by decide +kernel
theorem dX8_hidden_74 : decode cX8_hidden 74 = .ok (.iload_n 3, 1) := by decide +kernel
theorem dX8_hidden_75 : decode cX8_hidden 75 = .ok (.ishl, 1) := by decide +kernel
theorem dX8_hidden_76 : decode cX8_hidden 76 = .ok (.goto 4, 3) := by decide +kernel
theorem dX8_hidden_79 : decode cX8_hidden 79 = .ok (.iconst 0, 1) := by decide +kernel
theorem dX8_hidden_80 : decode cX8_hidden 80 = .ok (.ior, 1) := by decide +kernel
theorem dX8_hidden_81 : decode cX8_hidden 81 = .ok (.istore_n 2, 1) := by decide +kernel
theorem dX8_hidden_82 : decode cX8_hidden 82 = .ok (.iinc 3 1, 3) := by decide +kernel
theorem dX8_hidden_85 : decode cX8_hidden 85 = .ok (.goto (-48), 3) := by decide +kernel
theorem dX8_hidden_88 : decode cX8_hidden 88 = .ok (.iload_n 2, 1) := by decide +kernel
theorem dX8_hidden_89 : decode cX8_hidden 89 = .ok (.ireturn, 1) := by decide +kernel
theorem dX8_empty_0 : decode cX8_empty 0 = .ok (.iconst 0, 1) := by decide +kernel
theorem dX8_empty_1 : decode cX8_empty 1 = .ok (.istore_n 1, 1) := by decide +kernel
theorem dX8_empty_2 : decode cX8_empty 2 = .ok (.iconst 0, 1) := by decide +kernel
theorem dX8_empty_3 : decode cX8_empty 3 = .ok (.istore_n 2, 1) := by decide +kernel
theorem dX8_empty_4 : decode cX8_empty 4 = .ok (.iload_n 2, 1) := by decide +kernel
theorem dX8_empty_5 : decode cX8_empty 5 = .ok (.aload_n 0, 1) := by decide +kernel
theorem dX8_empty_6 : decode cX8_empty 6 = .ok (.getfield 9, 3) := by decide +kernel
theorem dX8_empty_9 : decode cX8_empty 9 = .ok (.iconst 3, 1) := by decide +kernel
theorem dX8_empty_10 : decode cX8_empty 10 = .ok (.iaload, 1) := by decide +kernel
theorem dX8_empty_11 : decode cX8_empty 11 = .ok (.if_icmp .ge 40, 3) := by decide +kernel
theorem dX8_empty_14 : decode cX8_empty 14 = .ok (.iload_n 1, 1) := by decide +kernel
theorem dX8_empty_15 : decode cX8_empty 15 = .ok (.aload_n 0, 1) := by decide +kernel
theorem dX8_empty_16 : decode cX8_empty 16 = .ok (.getfield 9, 3) := by decide +kernel
theorem dX8_empty_19 : decode cX8_empty 19 = .ok (.bipush 73, 2) := by decide +kernel
theorem dX8_empty_21 : decode cX8_empty 21 = .ok (.iload_n 2, 1) := by decide +kernel
theorem dX8_empty_22 : decode cX8_empty 22 = .ok (.iadd, 1) := by decide +kernel
theorem dX8_empty_23 : decode cX8_empty 23 = .ok (.iaload, 1) := by decide +kernel
theorem dX8_empty_24 : decode cX8_empty 24 = .ok (.bipush 6, 2) := by decide +kernel
theorem dX8_empty_26 : decode cX8_empty 26 = .ok (.aload_n 0, 1) := by decide +kernel
theorem dX8_empty_27 : decode cX8_empty 27 = .ok (.getfield 9, 3) := by decide +kernel
theorem dX8_empty_30 : decode cX8_empty 30 = .ok (.iconst 1, 1) := by decide +kernel
theorem dX8_empty_31 : decode cX8_empty 31 = .ok (.iaload, 1) := by decide +kernel
theorem dX8_empty_32 : decode cX8_empty 32 = .ok (.imul, 1) := by decide +kernel
theorem dX8_empty_33 : decode cX8_empty 33 = .ok (.iadd, 1) := by decide +kernel
theorem dX8_empty_34 : decode cX8_empty 34 = .ok (.aload_n 0, 1) := by decide +kernel
theorem dX8_empty_35 : decode cX8_empty 35 = .ok (.getfield 9, 3) := by decide +kernel
theorem dX8_empty_38 : decode cX8_empty 38 = .ok (.iconst 0, 1) := by decide +kernel
theorem dX8_empty_39 : decode cX8_empty 39 = .ok (.iaload, 1) := by decide +kernel
theorem dX8_empty_40 : decode cX8_empty 40 = .ok (.isub, 1) := by decide +kernel
theorem dX8_empty_41 : decode cX8_empty 41 = .ok (.invokestatic 123, 3) := by decide +kernel
theorem dX8_empty_44 : decode cX8_empty 44 = .ok (.istore_n 1, 1) := by decide +kernel
theorem dX8_empty_45 : decode cX8_empty 45 = .ok (.iinc 2 1, 3) := by decide +kernel
theorem dX8_empty_48 : decode cX8_empty 48 = .ok (.goto (-44), 3) := by decide +kernel
theorem dX8_empty_51 : decode cX8_empty 51 = .ok (.iload_n 1, 1) := by decide +kernel
theorem dX8_empty_52 : decode cX8_empty 52 = .ok (.ireturn, 1) := by decide +kernel
theorem dX8_chances_0 : decode cX8_chances 0 = .ok (.iconst 0, 1) := by decide +kernel
theorem dX8_chances_1 : decode cX8_chances 1 = .ok (.istore_n 1, 1) := by decide +kernel
theorem dX8_chances_2 : decode cX8_chances 2 = .ok (.iconst 0, 1) := by decide +kernel
theorem dX8_chances_3 : decode cX8_chances 3 = .ok (.istore_n 2, 1) := by decide +kernel
theorem dX8_chances_4 : decode cX8_chances 4 = .ok (.iload_n 2, 1) := by decide +kernel
theorem dX8_chances_5 : decode cX8_chances 5 = .ok (.bipush 6, 2) := by decide +kernel
theorem dX8_chances_7 : decode cX8_chances 7 = .ok (.if_icmp .ge 21, 3) := by decide +kernel
theorem dX8_chances_10 : decode cX8_chances 10 = .ok (.iload_n 1, 1) := by decide +kernel
theorem dX8_chances_11 : decode cX8_chances 11 = .ok (.aload_n 0, 1) := by decide +kernel
theorem dX8_chances_12 : decode cX8_chances 12 = .ok (.getfield 9, 3) := by decide +kernel
theorem dX8_chances_15 : decode cX8_chances 15 = .ok (.bipush 21, 2) := by decide +kernel
theorem dX8_chances_17 : decode cX8_chances 17 = .ok (.iload_n 2, 1) := by decide +kernel
theorem dX8_chances_18 : decode cX8_chances 18 = .ok (.iadd, 1) := by decide +kernel
theorem dX8_chances_19 : decode cX8_chances 19 = .ok (.iaload, 1) := by decide +kernel
theorem dX8_chances_20 : decode cX8_chances 20 = .ok (.iadd, 1) := by decide +kernel
theorem dX8_chances_21 : decode cX8_chances 21 = .ok (.istore_n 1, 1) := by decide +kernel
theorem dX8_chances_22 : decode cX8_chances 22 = .ok (.iinc 2 1, 3) := by decide +kernel
theorem dX8_chances_25 : decode cX8_chances 25 = .ok (.goto (-21), 3) := by decide +kernel
theorem dX8_chances_28 : decode cX8_chances 28 = .ok (.iload_n 1, 1) := by decide +kernel
theorem dX8_chances_29 : decode cX8_chances 29 = .ok (.ireturn, 1) := by decide +kernel
theorem dX8_onTheWhole_0 : decode cX8_onTheWhole 0 = .ok (.iconst 0, 1) := by decide +kernel
theorem dX8_onTheWhole_1 : decode cX8_onTheWhole 1 = .ok (.istore_n 2, 1) := by decide +kernel
theorem dX8_onTheWhole_2 : decode cX8_onTheWhole 2 = .ok (.iconst 0, 1) := by decide +kernel
theorem dX8_onTheWhole_3 : decode cX8_onTheWhole 3 = .ok (.istore_n 3, 1) := by decide +kernel
theorem dX8_onTheWhole_4 : decode cX8_onTheWhole 4 = .ok (.iload_n 3, 1) := by decide +kernel
theorem dX8_onTheWhole_5 : decode cX8_onTheWhole 5 = .ok (.bipush 6, 2) := by decide +kernel
theorem dX8_onTheWhole_7 : decode cX8_onTheWhole 7 = .ok (.if_icmp .ge 36, 3) := by decide +kernel
theorem dX8_onTheWhole_10 : decode cX8_onTheWhole 10 = .ok (.iload_n 2, 1) := by decide +kernel
theorem dX8_onTheWhole_11 : decode cX8_onTheWhole 11 = .ok (.aload_n 0, 1) := by decide +kernel
theorem dX8_onTheWhole_12 : decode cX8_onTheWhole 12 = .ok (.getfield 9, 3) := by decide +kernel
theorem dX8_onTheWhole_15 : decode cX8_onTheWhole 15 = .ok (.bipush 21, 2) := by decide +kernel
theorem dX8_onTheWhole_17 : decode cX8_onTheWhole 17 = .ok (.iload_n 3, 1) := by decide +kernel
theorem dX8_onTheWhole_18 : decode cX8_onTheWhole 18 = .ok (.iadd, 1) := by decide +kernel
theorem dX8_onTheWhole_19 : decode cX8_onTheWhole 19 = .ok (.iaload, 1) := by decide +kernel
theorem dX8_onTheWhole_20 : decode cX8_onTheWhole 20 = .ok (.iconst 1, 1) := by decide +kernel
theorem dX8_onTheWhole_21 : decode cX8_onTheWhole 21 = .ok (.iload_n 1, 1) := by decide +kernel
theorem dX8_onTheWhole_22 : decode cX8_onTheWhole 22 = .ok (.aload_n 0, 1) := by decide +kernel
theorem dX8_onTheWhole_23 : decode cX8_onTheWhole 23 = .ok (.getfield 9, 3) := by decide +kernel
theorem dX8_onTheWhole_26 : decode cX8_onTheWhole 26 = .ok (.bipush 15, 2) := by decide +kernel
theorem dX8_onTheWhole_28 : decode cX8_onTheWhole 28 = .ok (.iload_n 3, 1) := by decide +kernel
theorem dX8_onTheWhole_29 : decode cX8_onTheWhole 29 = .ok (.iadd, 1) := by decide +kernel
theorem dX8_onTheWhole_30 : decode cX8_onTheWhole 30 = .ok (.iaload, 1) := by decide +kernel
theorem dX8_onTheWhole_31 : decode cX8_onTheWhole 31 = .ok (.invokestatic 128, 3) := by decide +kernel
theorem dX8_onTheWhole_34 : decode cX8_onTheWhole 34 = .ok (.imul, 1) := by decide +kernel
theorem dX8_onTheWhole_35 : decode cX8_onTheWhole 35 = .ok (.iadd, 1) := by decide +kernel
theorem dX8_onTheWhole_36 : decode cX8_onTheWhole 36 = .ok (.istore_n 2, 1) := by decide +kernel
theorem dX8_onTheWhole_37 : decode cX8_onTheWhole 37 = .ok (.iinc 3 1, 3) := by decide +kernel
theorem dX8_onTheWhole_40 : decode cX8_onTheWhole 40 = .ok (.goto (-36), 3) := by decide +kernel
theorem dX8_onTheWhole_43 : decode cX8_onTheWhole 43 = .ok (.iload_n 2, 1) := by decide +kernel
theorem dX8_onTheWhole_44 : decode cX8_onTheWhole 44 = .ok (.ireturn, 1) := by decide +kernel
theorem dX8_common_0 : decode cX8_common 0 = .ok (.iload_n 0, 1) := by decide +kernel
theorem dX8_common_1 : decode cX8_common 1 = .ok (.istore_n 2, 1) := by decide +kernel
theorem dX8_common_2 : decode cX8_common 2 = .ok (.iload_n 1, 1) := by decide +kernel
theorem dX8_common_3 : decode cX8_common 3 = .ok (.istore_n 3, 1) := by decide +kernel
theorem dX8_common_4 : decode cX8_common 4 = .ok (.iload_n 3, 1) := by decide +kernel
theorem dX8_common_5 : decode cX8_common 5 = .ok (.ifCond .eq 16, 3) := by decide +kernel
theorem dX8_common_8 : decode cX8_common 8 = .ok (.iload_n 2, 1) := by decide +kernel
theorem dX8_common_9 : decode cX8_common 9 = .ok (.iload_n 3, 1) := by decide +kernel
theorem dX8_common_10 : decode cX8_common 10 = .ok (.irem, 1) := by decide +kernel
theorem dX8_common_11 : decode cX8_common 11 = .ok (.istore 4, 2) := by decide +kernel
theorem dX8_common_13 : decode cX8_common 13 = .ok (.iload_n 3, 1) := by decide +kernel
theorem dX8_common_14 : decode cX8_common 14 = .ok (.istore_n 2, 1) := by decide +kernel
theorem dX8_common_15 : decode cX8_common 15 = .ok (.iload 4, 2) := by decide +kernel
theorem dX8_common_17 : decode cX8_common 17 = .ok (.istore_n 3, 1) := by decide +kernel
theorem dX8_common_18 : decode cX8_common 18 = .ok (.goto (-14), 3) := by decide +kernel
theorem dX8_common_21 : decode cX8_common 21 = .ok (.iload_n 2, 1) := by decide +kernel
theorem dX8_common_22 : decode cX8_common 22 = .ok (.ireturn, 1) := by decide +kernel
theorem dX8_worth_0 : decode cX8_worth 0 = .ok (.iload_n 1, 1) := by decide +kernel
theorem dX8_worth_1 : decode cX8_worth 1 = .ok (.invokestatic 102, 3) := by decide +kernel
theorem dX8_worth_4 : decode cX8_worth 4 = .ok (.ifCond .eq 12, 3) := by decide +kernel
theorem dX8_worth_7 : decode cX8_worth 7 = .ok (.iload_n 2, 1) := by decide +kernel
theorem dX8_worth_8 : decode cX8_worth 8 = .ok (.iconst 0, 1) := by decide +kernel
theorem dX8_worth_9 : decode cX8_worth 9 = .ok (.iconst 1, 1) := by decide +kernel
theorem dX8_worth_10 : decode cX8_worth 10 = .ok (.invokestatic 68, 3) := by decide +kernel
theorem dX8_worth_13 : decode cX8_worth 13 = .ok (.ifCond .ne 10, 3) := by decide +kernel
theorem dX8_worth_16 : decode cX8_worth 16 = .ok (.aload_n 0, 1) := by decide +kernel
theorem dX8_worth_17 : decode cX8_worth 17 = .ok (.ldc 63, 2) := by decide +kernel
theorem dX8_worth_19 : decode cX8_worth 19 = .ok (.invokevirtual 80, 3) := by decide +kernel
theorem dX8_worth_22 : decode cX8_worth 22 = .ok (.ireturn, 1) := by decide +kernel
theorem dX8_worth_23 : decode cX8_worth 23 = .ok (.aload_n 0, 1) := by decide +kernel
theorem dX8_worth_24 : decode cX8_worth 24 = .ok (.invokevirtual 209, 3) := by decide +kernel
theorem dX8_worth_27 : decode cX8_worth 27 = .ok (.istore_n 3, 1) := by decide +kernel
theorem dX8_worth_28 : decode cX8_worth 28 = .ok (.iload_n 3, 1) := by decide +kernel
theorem dX8_worth_29 : decode cX8_worth 29 = .ok (.ifCond .ne 10, 3) := by decide +kernel
theorem dX8_worth_32 : decode cX8_worth 32 = .ok (.aload_n 0, 1) := by decide +kernel
theorem dX8_worth_33 : decode cX8_worth 33 = .ok (.ldc 197, 2) := by decide +kernel
theorem dX8_worth_35 : decode cX8_worth 35 = .ok (.invokevirtual 80, 3) := by decide +kernel
theorem dX8_worth_38 : decode cX8_worth 38 = .ok (.ireturn, 1) := by decide +kernel
theorem dX8_worth_39 : decode cX8_worth 39 = .ok (.aload_n 0, 1) := by decide +kernel
theorem dX8_worth_40 : decode cX8_worth 40 = .ok (.iload_n 1, 1) := by decide +kernel
theorem dX8_worth_41 : decode cX8_worth 41 = .ok (.invokevirtual 212, 3) := by decide +kernel
theorem dX8_worth_44 : decode cX8_worth 44 = .ok (.istore 4, 2) := by decide +kernel
theorem dX8_worth_46 : decode cX8_worth 46 = .ok (.iload 4, 2) := by decide +kernel
theorem dX8_worth_48 : decode cX8_worth 48 = .ok (.iload_n 3, 1) := by decide +kernel
theorem dX8_worth_49 : decode cX8_worth 49 = .ok (.invokestatic 215, 3) := by decide +kernel
theorem dX8_worth_52 : decode cX8_worth 52 = .ok (.istore 5, 2) := by decide +kernel
theorem dX8_worth_54 : decode cX8_worth 54 = .ok (.iload_n 2, 1) := by decide +kernel
theorem dX8_worth_55 : decode cX8_worth 55 = .ok (.ifCond .ne 11, 3) := by decide +kernel
theorem dX8_worth_58 : decode cX8_worth 58 = .ok (.iload 4, 2) := by decide +kernel
theorem dX8_worth_60 : decode cX8_worth 60 = .ok (.iload 5, 2) := by decide +kernel
theorem dX8_worth_62 : decode cX8_worth 62 = .ok (.idiv, 1) := by decide +kernel
theorem dX8_worth_63 : decode cX8_worth 63 = .ok (.goto 7, 3) := by decide +kernel
theorem dX8_worth_66 : decode cX8_worth 66 = .ok (.iload_n 3, 1) := by decide +kernel
theorem dX8_worth_67 : decode cX8_worth 67 = .ok (.iload 5, 2) := by decide +kernel
theorem dX8_worth_69 : decode cX8_worth 69 = .ok (.idiv, 1) := by decide +kernel
theorem dX8_worth_70 : decode cX8_worth 70 = .ok (.ireturn, 1) := by decide +kernel
theorem dX8_next_0 : decode cX8_next 0 = .ok (.aload_n 0, 1) := by decide +kernel
theorem dX8_next_1 : decode cX8_next 1 = .ok (.invokevirtual 209, 3) := by decide +kernel
theorem dX8_next_4 : decode cX8_next 4 = .ok (.ifCond .ne 10, 3) := by decide +kernel
theorem dX8_next_7 : decode cX8_next 7 = .ok (.aload_n 0, 1) := by decide +kernel
theorem dX8_next_8 : decode cX8_next 8 = .ok (.ldc 197, 2) := by decide +kernel
theorem dX8_next_10 : decode cX8_next 10 = .ok (.invokevirtual 80, 3) := by decide +kernel
theorem dX8_next_13 : decode cX8_next 13 = .ok (.ireturn, 1) := by decide +kernel
theorem dX8_next_14 : decode cX8_next 14 = .ok (.iconst 0, 1) := by decide +kernel
theorem dX8_next_15 : decode cX8_next 15 = .ok (.istore_n 1, 1) := by decide +kernel
theorem dX8_next_16 : decode cX8_next 16 = .ok (.iconst 1, 1) := by decide +kernel
theorem dX8_next_17 : decode cX8_next 17 = .ok (.istore_n 2, 1) := by decide +kernel
theorem dX8_next_18 : decode cX8_next 18 = .ok (.iload_n 2, 1) := by decide +kernel
theorem dX8_next_19 : decode cX8_next 19 = .ok (.sipush 256, 3) := by decide +kernel
theorem dX8_next_22 : decode cX8_next 22 = .ok (.if_icmp .ge 28, 3) := by decide +kernel
theorem dX8_next_25 : decode cX8_next 25 = .ok (.aload_n 0, 1) := by decide +kernel
theorem dX8_next_26 : decode cX8_next 26 = .ok (.iload_n 2, 1) := by decide +kernel
theorem dX8_next_27 : decode cX8_next 27 = .ok (.invokevirtual 212, 3) := by decide +kernel
theorem dX8_next_30 : decode cX8_next 30 = .ok (.aload_n 0, 1) := by decide +kernel
theorem dX8_next_31 : decode cX8_next 31 = .ok (.iload_n 1, 1) := by decide +kernel
theorem dX8_next_32 : decode cX8_next 32 = .ok (.invokevirtual 212, 3) := by decide +kernel
theorem dX8_next_35 : decode cX8_next 35 = .ok (.if_icmp .le 7, 3) := by decide +kernel
theorem dX8_next_38 : decode cX8_next 38 = .ok (.iload_n 2, 1) := by decide +kernel
theorem dX8_next_39 : decode cX8_next 39 = .ok (.goto 4, 3) := by decide +kernel
theorem dX8_next_42 : decode cX8_next 42 = .ok (.iload_n 1, 1) := by decide +kernel
theorem dX8_next_43 : decode cX8_next 43 = .ok (.istore_n 1, 1) := by decide +kernel
theorem dX8_next_44 : decode cX8_next 44 = .ok (.iinc 2 1, 3) := by decide +kernel
theorem dX8_next_47 : decode cX8_next 47 = .ok (.goto (-29), 3) := by decide +kernel
theorem dX8_next_50 : decode cX8_next 50 = .ok (.iload_n 1, 1) := by decide +kernel
theorem dX8_next_51 : decode cX8_next 51 = .ok (.ireturn, 1) := by decide +kernel
theorem dX8_cutOf_0 : decode cX8_cutOf 0 = .ok (.aload_n 0, 1) := by decide +kernel
theorem dX8_cutOf_1 : decode cX8_cutOf 1 = .ok (.iload_n 1, 1) := by decide +kernel
theorem dX8_cutOf_2 : decode cX8_cutOf 2 = .ok (.iconst 1, 1) := by decide +kernel
theorem dX8_cutOf_3 : decode cX8_cutOf 3 = .ok (.invokevirtual 92, 3) := by decide +kernel
theorem dX8_cutOf_6 : decode cX8_cutOf 6 = .ok (.aload_n 0, 1) := by decide +kernel
theorem dX8_cutOf_7 : decode cX8_cutOf 7 = .ok (.getfield 9, 3) := by decide +kernel
theorem dX8_cutOf_10 : decode cX8_cutOf 10 = .ok (.bipush 15, 2) := by decide +kernel
theorem dX8_cutOf_12 : decode cX8_cutOf 12 = .ok (.iload_n 2, 1) := by decide +kernel
theorem dX8_cutOf_13 : decode cX8_cutOf 13 = .ok (.iadd, 1) := by decide +kernel
theorem dX8_cutOf_14 : decode cX8_cutOf 14 = .ok (.iaload, 1) := by decide +kernel
theorem dX8_cutOf_15 : decode cX8_cutOf 15 = .ok (.ixor, 1) := by decide +kernel
theorem dX8_cutOf_16 : decode cX8_cutOf 16 = .ok (.invokestatic 117, 3) := by decide +kernel
theorem dX8_cutOf_19 : decode cX8_cutOf 19 = .ok (.aload_n 0, 1) := by decide +kernel
theorem dX8_cutOf_20 : decode cX8_cutOf 20 = .ok (.iload_n 1, 1) := by decide +kernel
theorem dX8_cutOf_21 : decode cX8_cutOf 21 = .ok (.iconst 2, 1) := by decide +kernel
theorem dX8_cutOf_22 : decode cX8_cutOf 22 = .ok (.invokevirtual 92, 3) := by decide +kernel
theorem dX8_cutOf_25 : decode cX8_cutOf 25 = .ok (.imul, 1) := by decide +kernel
theorem dX8_cutOf_26 : decode cX8_cutOf 26 = .ok (.ireturn, 1) := by decide +kernel
theorem dX8_mouldOf_0 : decode cX8_mouldOf 0 = .ok (.iload_n 1, 1) := by decide +kernel
theorem dX8_mouldOf_1 : decode cX8_mouldOf 1 = .ok (.invokestatic 111, 3) := by decide +kernel
theorem dX8_mouldOf_4 : decode cX8_mouldOf 4 = .ok (.ifCond .ne 10, 3) := by decide +kernel
theorem dX8_mouldOf_7 : decode cX8_mouldOf 7 = .ok (.aload_n 0, 1) := by decide +kernel
theorem dX8_mouldOf_8 : decode cX8_mouldOf 8 = .ok (.ldc 63, 2) := by decide +kernel
theorem dX8_mouldOf_10 : decode cX8_mouldOf 10 = .ok (.invokevirtual 80, 3) := by decide +kernel
theorem dX8_mouldOf_13 : decode cX8_mouldOf 13 = .ok (.ireturn, 1) := by decide +kernel
theorem dX8_mouldOf_14 : decode cX8_mouldOf 14 = .ok (.aload_n 0, 1) := by decide +kernel
theorem dX8_mouldOf_15 : decode cX8_mouldOf 15 = .ok (.getfield 9, 3) := by decide +kernel
theorem dX8_mouldOf_18 : decode cX8_mouldOf 18 = .ok (.iconst 2, 1) := by decide +kernel
theorem dX8_mouldOf_19 : decode cX8_mouldOf 19 = .ok (.iaload, 1) := by decide +kernel
theorem dX8_mouldOf_20 : decode cX8_mouldOf 20 = .ok (.ifCond .ne 10, 3) := by decide +kernel
theorem dX8_mouldOf_23 : decode cX8_mouldOf 23 = .ok (.aload_n 0, 1) := by decide +kernel
theorem dX8_mouldOf_24 : decode cX8_mouldOf 24 = .ok (.ldc 197, 2) := by decide +kernel
theorem dX8_mouldOf_26 : decode cX8_mouldOf 26 = .ok (.invokevirtual 80, 3) := by decide +kernel
theorem dX8_mouldOf_29 : decode cX8_mouldOf 29 = .ok (.ireturn, 1) := by decide +kernel
theorem dX8_mouldOf_30 : decode cX8_mouldOf 30 = .ok (.iconst 0, 1) := by decide +kernel
theorem dX8_mouldOf_31 : decode cX8_mouldOf 31 = .ok (.istore_n 3, 1) := by decide +kernel
theorem dX8_mouldOf_32 : decode cX8_mouldOf 32 = .ok (.iconst 1, 1) := by decide +kernel
theorem dX8_mouldOf_33 : decode cX8_mouldOf 33 = .ok (.istore 4, 2) := by decide +kernel
theorem dX8_mouldOf_35 : decode cX8_mouldOf 35 = .ok (.iload 4, 2) := by decide +kernel
theorem dX8_mouldOf_37 : decode cX8_mouldOf 37 = .ok (.aload_n 0, 1) := by decide +kernel
theorem dX8_mouldOf_38 : decode cX8_mouldOf 38 = .ok (.getfield 9, 3) := by decide +kernel
theorem dX8_mouldOf_41 : decode cX8_mouldOf 41 = .ok (.iconst 2, 1) := by decide +kernel
theorem dX8_mouldOf_42 : decode cX8_mouldOf 42 = .ok (.iaload, 1) := by decide +kernel
theorem dX8_mouldOf_43 : decode cX8_mouldOf 43 = .ok (.if_icmp .ge 32, 3) := by decide +kernel
theorem dX8_mouldOf_46 : decode cX8_mouldOf 46 = .ok (.aload_n 0, 1) := by decide +kernel
theorem dX8_mouldOf_47 : decode cX8_mouldOf 47 = .ok (.iload 4, 2) := by decide +kernel
theorem dX8_mouldOf_49 : decode cX8_mouldOf 49 = .ok (.iload_n 1, 1) := by decide +kernel
theorem dX8_mouldOf_50 : decode cX8_mouldOf 50 = .ok (.invokevirtual 218, 3) := by decide +kernel
theorem dX8_mouldOf_53 : decode cX8_mouldOf 53 = .ok (.aload_n 0, 1) := by decide +kernel
theorem dX8_mouldOf_54 : decode cX8_mouldOf 54 = .ok (.iload_n 3, 1) := by decide +kernel
theorem dX8_mouldOf_55 : decode cX8_mouldOf 55 = .ok (.iload_n 1, 1) := by decide +kernel
theorem dX8_mouldOf_56 : decode cX8_mouldOf 56 = .ok (.invokevirtual 218, 3) := by decide +kernel
theorem dX8_mouldOf_59 : decode cX8_mouldOf 59 = .ok (.if_icmp .ge 8, 3) := by decide +kernel
theorem dX8_mouldOf_62 : decode cX8_mouldOf 62 = .ok (.iload 4, 2) := by decide +kernel
theorem dX8_mouldOf_64 : decode cX8_mouldOf 64 = .ok (.goto 4, 3) := by decide +kernel
theorem dX8_mouldOf_67 : decode cX8_mouldOf 67 = .ok (.iload_n 3, 1) := by decide +kernel
theorem dX8_mouldOf_68 : decode cX8_mouldOf 68 = .ok (.istore_n 3, 1) := by decide +kernel
theorem dX8_mouldOf_69 : decode cX8_mouldOf 69 = .ok (.iinc 4 1, 3) := by decide +kernel
theorem dX8_mouldOf_72 : decode cX8_mouldOf 72 = .ok (.goto (-37), 3) := by decide +kernel
theorem dX8_mouldOf_75 : decode cX8_mouldOf 75 = .ok (.iload_n 2, 1) := by decide +kernel
theorem dX8_mouldOf_76 : decode cX8_mouldOf 76 = .ok (.ifCond .eq 12, 3) := by decide +kernel
theorem dX8_mouldOf_79 : decode cX8_mouldOf 79 = .ok (.aload_n 0, 1) := by decide +kernel
theorem dX8_mouldOf_80 : decode cX8_mouldOf 80 = .ok (.iload_n 3, 1) := by decide +kernel
theorem dX8_mouldOf_81 : decode cX8_mouldOf 81 = .ok (.iload_n 1, 1) := by decide +kernel
theorem dX8_mouldOf_82 : decode cX8_mouldOf 82 = .ok (.invokevirtual 218, 3) := by decide +kernel
theorem dX8_mouldOf_85 : decode cX8_mouldOf 85 = .ok (.goto 4, 3) := by decide +kernel
theorem dX8_mouldOf_88 : decode cX8_mouldOf 88 = .ok (.iload_n 3, 1) := by decide +kernel
theorem dX8_mouldOf_89 : decode cX8_mouldOf 89 = .ok (.ireturn, 1) := by decide +kernel
theorem dX8_mould_0 : decode cX8_mould 0 = .ok (.aload_n 0, 1) := by decide +kernel
theorem dX8_mould_1 : decode cX8_mould 1 = .ok (.iload_n 1, 1) := by decide +kernel
theorem dX8_mould_2 : decode cX8_mould 2 = .ok (.iconst 0, 1) := by decide +kernel
theorem dX8_mould_3 : decode cX8_mould 3 = .ok (.invokevirtual 221, 3) := by decide +kernel
theorem dX8_mould_6 : decode cX8_mould 6 = .ok (.ireturn, 1) := by decide +kernel
theorem dX8_cuts_0 : decode cX8_cuts 0 = .ok (.aload_n 0, 1) := by decide +kernel
theorem dX8_cuts_1 : decode cX8_cuts 1 = .ok (.iload_n 1, 1) := by decide +kernel
theorem dX8_cuts_2 : decode cX8_cuts 2 = .ok (.iconst 1, 1) := by decide +kernel
theorem dX8_cuts_3 : decode cX8_cuts 3 = .ok (.invokevirtual 221, 3) := by decide +kernel
theorem dX8_cuts_6 : decode cX8_cuts 6 = .ok (.ireturn, 1) := by decide +kernel
theorem dX8_waysFrom_0 : decode cX8_waysFrom 0 = .ok (.iload_n 2, 1) := by decide +kernel
theorem dX8_waysFrom_1 : decode cX8_waysFrom 1 = .ok (.iload_n 3, 1) := by decide +kernel
theorem dX8_waysFrom_2 : decode cX8_waysFrom 2 = .ok (.if_icmp .ne 5, 3) := by decide +kernel
theorem dX8_waysFrom_5 : decode cX8_waysFrom 5 = .ok (.iconst 1, 1) := by decide +kernel
theorem dX8_waysFrom_6 : decode cX8_waysFrom 6 = .ok (.ireturn, 1) := by decide +kernel
theorem dX8_waysFrom_7 : decode cX8_waysFrom 7 = .ok (.iconst 0, 1) := by decide +kernel
theorem dX8_waysFrom_8 : decode cX8_waysFrom 8 = .ok (.istore 5, 2) := by decide +kernel
theorem dX8_waysFrom_10 : decode cX8_waysFrom 10 = .ok (.iconst 0, 1) := by decide +kernel
theorem dX8_waysFrom_11 : decode cX8_waysFrom 11 = .ok (.istore 6, 2) := by decide +kernel
theorem dX8_waysFrom_13 : decode cX8_waysFrom 13 = .ok (.iload 6, 2) := by decide +kernel
theorem dX8_waysFrom_15 : decode cX8_waysFrom 15 = .ok (.aload_n 0, 1) := by decide +kernel
theorem dX8_waysFrom_16 : decode cX8_waysFrom 16 = .ok (.getfield 9, 3) := by decide +kernel
theorem dX8_waysFrom_19 : decode cX8_waysFrom 19 = .ok (.iconst 2, 1) := by decide +kernel
theorem dX8_waysFrom_20 : decode cX8_waysFrom 20 = .ok (.iaload, 1) := by decide +kernel
theorem dX8_waysFrom_21 : decode cX8_waysFrom 21 = .ok (.if_icmp .ge 104, 3) := by decide +kernel
theorem dX8_waysFrom_24 : decode cX8_waysFrom 24 = .ok (.iload 4, 2) := by decide +kernel
theorem dX8_waysFrom_26 : decode cX8_waysFrom 26 = .ok (.iload 6, 2) := by decide +kernel
theorem dX8_waysFrom_28 : decode cX8_waysFrom 28 = .ok (.invokestatic 120, 3) := by decide +kernel
theorem dX8_waysFrom_31 : decode cX8_waysFrom 31 = .ok (.ifCond .ne 88, 3) := by decide +kernel
theorem dX8_waysFrom_34 : decode cX8_waysFrom 34 = .ok (.aload_n 0, 1) := by decide +kernel
theorem dX8_waysFrom_35 : decode cX8_waysFrom 35 = .ok (.iload 6, 2) := by decide +kernel
theorem dX8_waysFrom_37 : decode cX8_waysFrom 37 = .ok (.invokevirtual 182, 3) := by decide +kernel
theorem dX8_waysFrom_40 : decode cX8_waysFrom 40 = .ok (.ifCond .eq 79, 3) := by decide +kernel
theorem dX8_waysFrom_43 : decode cX8_waysFrom 43 = .ok (.aload_n 0, 1) := by decide +kernel
theorem dX8_waysFrom_44 : decode cX8_waysFrom 44 = .ok (.iload 6, 2) := by decide +kernel
theorem dX8_waysFrom_46 : decode cX8_waysFrom 46 = .ok (.iload_n 2, 1) := by decide +kernel
theorem dX8_waysFrom_47 : decode cX8_waysFrom 47 = .ok (.invokevirtual 132, 3) := by decide +kernel
theorem dX8_waysFrom_50 : decode cX8_waysFrom 50 = .ok (.aload_n 0, 1) := by decide +kernel
theorem dX8_waysFrom_51 : decode cX8_waysFrom 51 = .ok (.getfield 57, 3) := by decide +kernel
theorem dX8_waysFrom_54 : decode cX8_waysFrom 54 = .ok (.bipush 40, 2) := by decide +kernel
theorem dX8_waysFrom_56 : decode cX8_waysFrom 56 = .ok (.iload_n 1, 1) := by decide +kernel
theorem dX8_waysFrom_57 : decode cX8_waysFrom 57 = .ok (.imul, 1) := by decide +kernel
theorem dX8_waysFrom_58 : decode cX8_waysFrom 58 = .ok (.iload_n 2, 1) := by decide +kernel
theorem dX8_waysFrom_59 : decode cX8_waysFrom 59 = .ok (.iadd, 1) := by decide +kernel
theorem dX8_waysFrom_60 : decode cX8_waysFrom 60 = .ok (.iaload, 1) := by decide +kernel
theorem dX8_waysFrom_61 : decode cX8_waysFrom 61 = .ok (.if_icmp .ne 58, 3) := by decide +kernel
theorem dX8_waysFrom_64 : decode cX8_waysFrom 64 = .ok (.aload_n 0, 1) := by decide +kernel
theorem dX8_waysFrom_65 : decode cX8_waysFrom 65 = .ok (.iload_n 1, 1) := by decide +kernel
theorem dX8_waysFrom_66 : decode cX8_waysFrom 66 = .ok (.iload_n 2, 1) := by decide +kernel
theorem dX8_waysFrom_67 : decode cX8_waysFrom 67 = .ok (.iconst 1, 1) := by decide +kernel
theorem dX8_waysFrom_68 : decode cX8_waysFrom 68 = .ok (.iadd, 1) := by decide +kernel
theorem dX8_waysFrom_69 : decode cX8_waysFrom 69 = .ok (.iload_n 3, 1) := by decide +kernel
theorem dX8_waysFrom_70 : decode cX8_waysFrom 70 = .ok (.iload 4, 2) := by decide +kernel
theorem dX8_waysFrom_72 : decode cX8_waysFrom 72 = .ok (.iconst 1, 1) := by decide +kernel
theorem dX8_waysFrom_73 : decode cX8_waysFrom 73 = .ok (.iload 6, 2) := by decide +kernel
theorem dX8_waysFrom_75 : decode cX8_waysFrom 75 = .ok (.ishl, 1) := by decide +kernel
theorem dX8_waysFrom_76 : decode cX8_waysFrom 76 = .ok (.ior, 1) := by decide +kernel
theorem dX8_waysFrom_77 : decode cX8_waysFrom 77 = .ok (.invokevirtual 225, 3) := by decide +kernel
theorem dX8_waysFrom_80 : decode cX8_waysFrom 80 = .ok (.istore 7, 2) := by decide +kernel
theorem dX8_waysFrom_82 : decode cX8_waysFrom 82 = .ok (.aload_n 0, 1) := by decide +kernel
theorem dX8_waysFrom_83 : decode cX8_waysFrom 83 = .ok (.dup, 1) := by decide +kernel
theorem dX8_waysFrom_84 : decode cX8_waysFrom 84 = .ok (.getfield 228, 3) := by decide +kernel
theorem dX8_waysFrom_87 : decode cX8_waysFrom 87 = .ok (.iload_n 2, 1) := by decide +kernel
theorem dX8_waysFrom_88 : decode cX8_waysFrom 88 = .ok (.aload_n 0, 1) := by decide +kernel
theorem dX8_waysFrom_89 : decode cX8_waysFrom 89 = .ok (.getfield 231, 3) := by decide +kernel
theorem dX8_waysFrom_92 : decode cX8_waysFrom 92 = .ok (.if_icmp .ne 15, 3) := by decide +kernel
theorem dX8_waysFrom_95 : decode cX8_waysFrom 95 = .ok (.iload 7, 2) := by decide +kernel
theorem dX8_waysFrom_97 : decode cX8_waysFrom 97 = .ok (.ifCond .le 10, 3) := by decide +kernel
theorem dX8_waysFrom_100 : decode cX8_waysFrom 100 = .ok (.iconst 1, 1) := by decide +kernel
theorem dX8_waysFrom_101 : decode cX8_waysFrom 101 = .ok (.iload 6, 2) := by decide +kernel
theorem dX8_waysFrom_103 : decode cX8_waysFrom 103 = .ok (.ishl, 1) := by decide +kernel
theorem dX8_waysFrom_104 : decode cX8_waysFrom 104 = .ok (.goto 4, 3) := by decide +kernel
theorem dX8_waysFrom_107 : decode cX8_waysFrom 107 = .ok (.iconst 0, 1) := by decide +kernel
theorem dX8_waysFrom_108 : decode cX8_waysFrom 108 = .ok (.ior, 1) := by decide +kernel
theorem dX8_waysFrom_109 : decode cX8_waysFrom 109 = .ok (.putfield 228, 3) := by decide +kernel
theorem dX8_waysFrom_112 : decode cX8_waysFrom 112 = .ok (.iload 5, 2) := by decide +kernel
theorem dX8_waysFrom_114 : decode cX8_waysFrom 114 = .ok (.iload 7, 2) := by decide +kernel
theorem dX8_waysFrom_116 : decode cX8_waysFrom 116 = .ok (.iadd, 1) := by decide +kernel
theorem dX8_waysFrom_117 : decode cX8_waysFrom 117 = .ok (.istore 5, 2) := by decide +kernel
theorem dX8_waysFrom_119 : decode cX8_waysFrom 119 = .ok (.iinc 6 1, 3) := by decide +kernel
theorem dX8_waysFrom_122 : decode cX8_waysFrom 122 = .ok (.goto (-109), 3) := by decide +kernel
theorem dX8_waysFrom_125 : decode cX8_waysFrom 125 = .ok (.iload 5, 2) := by decide +kernel
theorem dX8_waysFrom_127 : decode cX8_waysFrom 127 = .ok (.ireturn, 1) := by decide +kernel
theorem dX8_waysOf_0 : decode cX8_waysOf 0 = .ok (.aload_n 0, 1) := by decide +kernel
theorem dX8_waysOf_1 : decode cX8_waysOf 1 = .ok (.iload_n 2, 1) := by decide +kernel
theorem dX8_waysOf_2 : decode cX8_waysOf 2 = .ok (.putfield 231, 3) := by decide +kernel
theorem dX8_waysOf_5 : decode cX8_waysOf 5 = .ok (.aload_n 0, 1) := by decide +kernel
theorem dX8_waysOf_6 : decode cX8_waysOf 6 = .ok (.iconst 0, 1) := by decide +kernel
theorem dX8_waysOf_7 : decode cX8_waysOf 7 = .ok (.putfield 228, 3) := by decide +kernel
theorem dX8_waysOf_10 : decode cX8_waysOf 10 = .ok (.aload_n 0, 1) := by decide +kernel
theorem dX8_waysOf_11 : decode cX8_waysOf 11 = .ok (.iload_n 1, 1) := by decide +kernel
theorem dX8_waysOf_12 : decode cX8_waysOf 12 = .ok (.iconst 0, 1) := by decide +kernel
theorem dX8_waysOf_13 : decode cX8_waysOf 13 = .ok (.bipush 6, 2) := by decide +kernel
theorem dX8_waysOf_15 : decode cX8_waysOf 15 = .ok (.aload_n 0, 1) := by decide +kernel
theorem dX8_waysOf_16 : decode cX8_waysOf 16 = .ok (.getfield 54, 3) := by decide +kernel
theorem dX8_waysOf_19 : decode cX8_waysOf 19 = .ok (.iload_n 1, 1) := by decide +kernel
theorem dX8_waysOf_20 : decode cX8_waysOf 20 = .ok (.iaload, 1) := by decide +kernel
theorem dX8_waysOf_21 : decode cX8_waysOf 21 = .ok (.invokestatic 234, 3) := by decide +kernel
theorem dX8_waysOf_24 : decode cX8_waysOf 24 = .ok (.iconst 0, 1) := by decide +kernel
theorem dX8_waysOf_25 : decode cX8_waysOf 25 = .ok (.invokevirtual 225, 3) := by decide +kernel
theorem dX8_waysOf_28 : decode cX8_waysOf 28 = .ok (.ireturn, 1) := by decide +kernel
theorem dX8_fits_0 : decode cX8_fits 0 = .ok (.iload_n 1, 1) := by decide +kernel
theorem dX8_fits_1 : decode cX8_fits 1 = .ok (.invokestatic 237, 3) := by decide +kernel
theorem dX8_fits_4 : decode cX8_fits 4 = .ok (.ifCond .ne 10, 3) := by decide +kernel
theorem dX8_fits_7 : decode cX8_fits 7 = .ok (.aload_n 0, 1) := by decide +kernel
theorem dX8_fits_8 : decode cX8_fits 8 = .ok (.ldc 63, 2) := by decide +kernel
theorem dX8_fits_10 : decode cX8_fits 10 = .ok (.invokevirtual 80, 3) := by decide +kernel
theorem dX8_fits_13 : decode cX8_fits 13 = .ok (.ireturn, 1) := by decide +kernel
theorem dX8_fits_14 : decode cX8_fits 14 = .ok (.aload_n 0, 1) := by decide +kernel
theorem dX8_fits_15 : decode cX8_fits 15 = .ok (.getfield 51, 3) := by decide +kernel
theorem dX8_fits_18 : decode cX8_fits 18 = .ok (.iload_n 1, 1) := by decide +kernel
theorem dX8_fits_19 : decode cX8_fits 19 = .ok (.iaload, 1) := by decide +kernel
theorem dX8_fits_20 : decode cX8_fits 20 = .ok (.ifCond .ne 12, 3) := by decide +kernel
theorem dX8_fits_23 : decode cX8_fits 23 = .ok (.aload_n 0, 1) := by decide +kernel
theorem dX8_fits_24 : decode cX8_fits 24 = .ok (.ldc 240, 2) := by decide +kernel
theorem dX8_fits_26 : decode cX8_fits 26 = .ok (.invokevirtual 80, 3) := by decide +kernel
theorem dX8_fits_29 : decode cX8_fits 29 = .ok (.goto 9, 3) := by decide +kernel
theorem dX8_fits_32 : decode cX8_fits 32 = .ok (.aload_n 0, 1) := by decide +kernel
theorem dX8_fits_33 : decode cX8_fits 33 = .ok (.iload_n 1, 1) := by decide +kernel
theorem dX8_fits_34 : decode cX8_fits 34 = .ok (.iconst (-1), 1) := by decide +kernel
theorem dX8_fits_35 : decode cX8_fits 35 = .ok (.invokevirtual 241, 3) := by decide +kernel
theorem dX8_fits_38 : decode cX8_fits 38 = .ok (.ireturn, 1) := by decide +kernel
theorem dX8_maybe_0 : decode cX8_maybe 0 = .ok (.iload_n 1, 1) := by decide +kernel
theorem dX8_maybe_1 : decode cX8_maybe 1 = .ok (.invokestatic 237, 3) := by decide +kernel
theorem dX8_maybe_4 : decode cX8_maybe 4 = .ok (.ifCond .ne 10, 3) := by decide +kernel
theorem dX8_maybe_7 : decode cX8_maybe 7 = .ok (.aload_n 0, 1) := by decide +kernel
theorem dX8_maybe_8 : decode cX8_maybe 8 = .ok (.ldc 63, 2) := by decide +kernel
theorem dX8_maybe_10 : decode cX8_maybe 10 = .ok (.invokevirtual 80, 3) := by decide +kernel
theorem dX8_maybe_13 : decode cX8_maybe 13 = .ok (.ireturn, 1) := by decide +kernel
theorem dX8_maybe_14 : decode cX8_maybe 14 = .ok (.aload_n 0, 1) := by decide +kernel
theorem dX8_maybe_15 : decode cX8_maybe 15 = .ok (.getfield 51, 3) := by decide +kernel
theorem dX8_maybe_18 : decode cX8_maybe 18 = .ok (.iload_n 1, 1) := by decide +kernel
theorem dX8_maybe_19 : decode cX8_maybe 19 = .ok (.iaload, 1) := by decide +kernel
theorem dX8_maybe_20 : decode cX8_maybe 20 = .ok (.ifCond .ne 10, 3) := by decide +kernel
theorem dX8_maybe_23 : decode cX8_maybe 23 = .ok (.aload_n 0, 1) := by decide +kernel
theorem dX8_maybe_24 : decode cX8_maybe 24 = .ok (.ldc 240, 2) := by decide +kernel
theorem dX8_maybe_26 : decode cX8_maybe 26 = .ok (.invokevirtual 80, 3) := by decide +kernel
theorem dX8_maybe_29 : decode cX8_maybe 29 = .ok (.ireturn, 1) := by decide +kernel
theorem dX8_maybe_30 : decode cX8_maybe 30 = .ok (.iload_n 2, 1) := by decide +kernel
theorem dX8_maybe_31 : decode cX8_maybe 31 = .ok (.iconst 0, 1) := by decide +kernel
theorem dX8_maybe_32 : decode cX8_maybe 32 = .ok (.bipush 6, 2) := by decide +kernel
theorem dX8_maybe_34 : decode cX8_maybe 34 = .ok (.aload_n 0, 1) := by decide +kernel
theorem dX8_maybe_35 : decode cX8_maybe 35 = .ok (.getfield 54, 3) := by decide +kernel
theorem dX8_maybe_38 : decode cX8_maybe 38 = .ok (.iload_n 1, 1) := by decide +kernel
theorem dX8_maybe_39 : decode cX8_maybe 39 = .ok (.iaload, 1) := by decide +kernel
theorem dX8_maybe_40 : decode cX8_maybe 40 = .ok (.invokestatic 234, 3) := by decide +kernel
theorem dX8_maybe_43 : decode cX8_maybe 43 = .ok (.iconst 1, 1) := by decide +kernel
theorem dX8_maybe_44 : decode cX8_maybe 44 = .ok (.isub, 1) := by decide +kernel
theorem dX8_maybe_45 : decode cX8_maybe 45 = .ok (.invokestatic 68, 3) := by decide +kernel
theorem dX8_maybe_48 : decode cX8_maybe 48 = .ok (.ifCond .ne 10, 3) := by decide +kernel
theorem dX8_maybe_51 : decode cX8_maybe 51 = .ok (.aload_n 0, 1) := by decide +kernel
theorem dX8_maybe_52 : decode cX8_maybe 52 = .ok (.ldc 63, 2) := by decide +kernel
theorem dX8_maybe_54 : decode cX8_maybe 54 = .ok (.invokevirtual 80, 3) := by decide +kernel
theorem dX8_maybe_57 : decode cX8_maybe 57 = .ok (.ireturn, 1) := by decide +kernel
theorem dX8_maybe_58 : decode cX8_maybe 58 = .ok (.aload_n 0, 1) := by decide +kernel
theorem dX8_maybe_59 : decode cX8_maybe 59 = .ok (.iload_n 1, 1) := by decide +kernel
theorem dX8_maybe_60 : decode cX8_maybe 60 = .ok (.iload_n 2, 1) := by decide +kernel
theorem dX8_maybe_61 : decode cX8_maybe 61 = .ok (.invokevirtual 241, 3) := by decide +kernel
theorem dX8_maybe_64 : decode cX8_maybe 64 = .ok (.istore_n 3, 1) := by decide +kernel
theorem dX8_maybe_65 : decode cX8_maybe 65 = .ok (.iload_n 3, 1) := by decide +kernel
theorem dX8_maybe_66 : decode cX8_maybe 66 = .ok (.ifCond .ne 7, 3) := by decide +kernel
theorem dX8_maybe_69 : decode cX8_maybe 69 = .ok (.iconst 0, 1) := by decide +kernel
theorem dX8_maybe_70 : decode cX8_maybe 70 = .ok (.goto 7, 3) := by decide +kernel
theorem dX8_maybe_73 : decode cX8_maybe 73 = .ok (.aload_n 0, 1) := by decide +kernel
theorem dX8_maybe_74 : decode cX8_maybe 74 = .ok (.getfield 228, 3) := by decide +kernel
theorem dX8_maybe_77 : decode cX8_maybe 77 = .ok (.ireturn, 1) := by decide +kernel
theorem dX8_headsLike_0 : decode cX8_headsLike 0 = .ok (.iconst 0, 1) := by decide +kernel
theorem dX8_headsLike_1 : decode cX8_headsLike 1 = .ok (.istore_n 3, 1) := by decide +kernel
theorem dX8_headsLike_2 : decode cX8_headsLike 2 = .ok (.iconst 0, 1) := by decide +kernel
theorem dX8_headsLike_3 : decode cX8_headsLike 3 = .ok (.istore 4, 2) := by decide +kernel
theorem dX8_headsLike_5 : decode cX8_headsLike 5 = .ok (.iload 4, 2) := by decide +kernel
theorem dX8_headsLike_7 : decode cX8_headsLike 7 = .ok (.aload_n 0, 1) := by decide +kernel
theorem dX8_headsLike_8 : decode cX8_headsLike 8 = .ok (.getfield 9, 3) := by decide +kernel
theorem dX8_headsLike_11 : decode cX8_headsLike 11 = .ok (.iconst 2, 1) := by decide +kernel
theorem dX8_headsLike_12 : decode cX8_headsLike 12 = .ok (.iaload, 1) := by decide +kernel
theorem dX8_headsLike_13 : decode cX8_headsLike 13 = .ok (.if_icmp .ge 40, 3) := by decide +kernel
theorem dX8_headsLike_16 : decode cX8_headsLike 16 = .ok (.iload_n 3, 1) := by decide +kernel
theorem dX8_headsLike_17 : decode cX8_headsLike 17 = .ok (.aload_n 0, 1) := by decide +kernel
theorem dX8_headsLike_18 : decode cX8_headsLike 18 = .ok (.iload 4, 2) := by decide +kernel
theorem dX8_headsLike_20 : decode cX8_headsLike 20 = .ok (.invokevirtual 182, 3) := by decide +kernel
theorem dX8_headsLike_23 : decode cX8_headsLike 23 = .ok (.ifCond .eq 21, 3) := by decide +kernel
theorem dX8_headsLike_26 : decode cX8_headsLike 26 = .ok (.aload_n 0, 1) := by decide +kernel
theorem dX8_headsLike_27 : decode cX8_headsLike 27 = .ok (.iload 4, 2) := by decide +kernel
theorem dX8_headsLike_29 : decode cX8_headsLike 29 = .ok (.iload_n 1, 1) := by decide +kernel
theorem dX8_headsLike_30 : decode cX8_headsLike 30 = .ok (.invokevirtual 132, 3) := by decide +kernel
theorem dX8_headsLike_33 : decode cX8_headsLike 33 = .ok (.iload_n 2, 1) := by decide +kernel
theorem dX8_headsLike_34 : decode cX8_headsLike 34 = .ok (.if_icmp .lt 10, 3) := by decide +kernel
theorem dX8_headsLike_37 : decode cX8_headsLike 37 = .ok (.iconst 1, 1) := by decide +kernel
theorem dX8_headsLike_38 : decode cX8_headsLike 38 = .ok (.iload 4, 2) := by decide +kernel
theorem dX8_headsLike_40 : decode cX8_headsLike 40 = .ok (.ishl, 1) := by decide +kernel
theorem dX8_headsLike_41 : decode cX8_headsLike 41 = .ok (.goto 4, 3) := by decide +kernel
theorem dX8_headsLike_44 : decode cX8_headsLike 44 = .ok (.iconst 0, 1) := by decide +kernel
theorem dX8_headsLike_45 : decode cX8_headsLike 45 = .ok (.ior, 1) := by decide +kernel
theorem dX8_headsLike_46 : decode cX8_headsLike 46 = .ok (.istore_n 3, 1) := by decide +kernel
theorem dX8_headsLike_47 : decode cX8_headsLike 47 = .ok (.iinc 4 1, 3) := by decide +kernel
theorem dX8_headsLike_50 : decode cX8_headsLike 50 = .ok (.goto (-45), 3) := by decide +kernel
theorem dX8_headsLike_53 : decode cX8_headsLike 53 = .ok (.iload_n 3, 1) := by decide +kernel
theorem dX8_headsLike_54 : decode cX8_headsLike 54 = .ok (.ireturn, 1) := by decide +kernel
theorem dX8_stand_0 : decode cX8_stand 0 = .ok (.iload_n 1, 1) := by decide +kernel
theorem dX8_stand_1 : decode cX8_stand 1 = .ok (.iconst 0, 1) := by decide +kernel
theorem dX8_stand_2 : decode cX8_stand 2 = .ok (.iconst 1, 1) := by decide +kernel
theorem dX8_stand_3 : decode cX8_stand 3 = .ok (.aload_n 0, 1) := by decide +kernel
theorem dX8_stand_4 : decode cX8_stand 4 = .ok (.getfield 9, 3) := by decide +kernel
theorem dX8_stand_7 : decode cX8_stand 7 = .ok (.iconst 2, 1) := by decide +kernel
theorem dX8_stand_8 : decode cX8_stand 8 = .ok (.iaload, 1) := by decide +kernel
theorem dX8_stand_9 : decode cX8_stand 9 = .ok (.ishl, 1) := by decide +kernel
theorem dX8_stand_10 : decode cX8_stand 10 = .ok (.iconst 1, 1) := by decide +kernel
theorem dX8_stand_11 : decode cX8_stand 11 = .ok (.isub, 1) := by decide +kernel
theorem dX8_stand_12 : decode cX8_stand 12 = .ok (.invokestatic 68, 3) := by decide +kernel
theorem dX8_stand_15 : decode cX8_stand 15 = .ok (.ifCond .eq 13, 3) := by decide +kernel
theorem dX8_stand_18 : decode cX8_stand 18 = .ok (.iload_n 2, 1) := by decide +kernel
theorem dX8_stand_19 : decode cX8_stand 19 = .ok (.iconst 0, 1) := by decide +kernel
theorem dX8_stand_20 : decode cX8_stand 20 = .ok (.bipush 99, 2) := by decide +kernel
theorem dX8_stand_22 : decode cX8_stand 22 = .ok (.invokestatic 68, 3) := by decide +kernel
theorem dX8_stand_25 : decode cX8_stand 25 = .ok (.ifCond .ne 10, 3) := by decide +kernel
theorem dX8_stand_28 : decode cX8_stand 28 = .ok (.aload_n 0, 1) := by decide +kernel
theorem dX8_stand_29 : decode cX8_stand 29 = .ok (.ldc 63, 2) := by decide +kernel
theorem dX8_stand_31 : decode cX8_stand 31 = .ok (.invokevirtual 80, 3) := by decide +kernel
theorem dX8_stand_34 : decode cX8_stand 34 = .ok (.ireturn, 1) := by decide +kernel
theorem dX8_stand_35 : decode cX8_stand 35 = .ok (.iconst 0, 1) := by decide +kernel
theorem dX8_stand_36 : decode cX8_stand 36 = .ok (.istore_n 3, 1) := by decide +kernel
theorem dX8_stand_37 : decode cX8_stand 37 = .ok (.iconst 0, 1) := by decide +kernel
theorem dX8_stand_38 : decode cX8_stand 38 = .ok (.istore 4, 2) := by decide +kernel
theorem dX8_stand_40 : decode cX8_stand 40 = .ok (.iload 4, 2) := by decide +kernel
theorem dX8_stand_42 : decode cX8_stand 42 = .ok (.bipush 6, 2) := by decide +kernel
theorem dX8_stand_44 : decode cX8_stand 44 = .ok (.if_icmp .ge 34, 3) := by decide +kernel
theorem dX8_stand_47 : decode cX8_stand 47 = .ok (.iload_n 3, 1) := by decide +kernel
theorem dX8_stand_48 : decode cX8_stand 48 = .ok (.aload_n 0, 1) := by decide +kernel
theorem dX8_stand_49 : decode cX8_stand 49 = .ok (.iload 4, 2) := by decide +kernel
theorem dX8_stand_51 : decode cX8_stand 51 = .ok (.iload_n 2, 1) := by decide +kernel
theorem dX8_stand_52 : decode cX8_stand 52 = .ok (.invokevirtual 244, 3) := by decide +kernel
theorem dX8_stand_55 : decode cX8_stand 55 = .ok (.iload_n 1, 1) := by decide +kernel
theorem dX8_stand_56 : decode cX8_stand 56 = .ok (.iconst (-1), 1) := by decide +kernel
theorem dX8_stand_57 : decode cX8_stand 57 = .ok (.ixor, 1) := by decide +kernel
theorem dX8_stand_58 : decode cX8_stand 58 = .ok (.iand, 1) := by decide +kernel
theorem dX8_stand_59 : decode cX8_stand 59 = .ok (.ifCond .eq 10, 3) := by decide +kernel
theorem dX8_stand_62 : decode cX8_stand 62 = .ok (.iconst 1, 1) := by decide +kernel
theorem dX8_stand_63 : decode cX8_stand 63 = .ok (.iload 4, 2) := by decide +kernel
theorem dX8_stand_65 : decode cX8_stand 65 = .ok (.ishl, 1) := by decide +kernel
theorem dX8_stand_66 : decode cX8_stand 66 = .ok (.goto 4, 3) := by decide +kernel
theorem dX8_stand_69 : decode cX8_stand 69 = .ok (.iconst 0, 1) := by decide +kernel
theorem dX8_stand_70 : decode cX8_stand 70 = .ok (.ior, 1) := by decide +kernel
theorem dX8_stand_71 : decode cX8_stand 71 = .ok (.istore_n 3, 1) := by decide +kernel
theorem dX8_stand_72 : decode cX8_stand 72 = .ok (.iinc 4 1, 3) := by decide +kernel
theorem dX8_stand_75 : decode cX8_stand 75 = .ok (.goto (-35), 3) := by decide +kernel
theorem dX8_stand_78 : decode cX8_stand 78 = .ok (.iload_n 3, 1) := by decide +kernel
theorem dX8_stand_79 : decode cX8_stand 79 = .ok (.ireturn, 1) := by decide +kernel
theorem dX8_fire_0 : decode cX8_fire 0 = .ok (.iload_n 1, 1) := by decide +kernel
theorem dX8_fire_1 : decode cX8_fire 1 = .ok (.invokestatic 111, 3) := by decide +kernel
theorem dX8_fire_4 : decode cX8_fire 4 = .ok (.ifCond .eq 22, 3) := by decide +kernel
theorem dX8_fire_7 : decode cX8_fire 7 = .ok (.iload_n 2, 1) := by decide +kernel
theorem dX8_fire_8 : decode cX8_fire 8 = .ok (.iconst 0, 1) := by decide +kernel
theorem dX8_fire_9 : decode cX8_fire 9 = .ok (.bipush 99, 2) := by decide +kernel
theorem dX8_fire_11 : decode cX8_fire 11 = .ok (.invokestatic 68, 3) := by decide +kernel
theorem dX8_fire_14 : decode cX8_fire 14 = .ok (.ifCond .eq 12, 3) := by decide +kernel
theorem dX8_fire_17 : decode cX8_fire 17 = .ok (.aload_n 0, 1) := by decide +kernel
theorem dX8_fire_18 : decode cX8_fire 18 = .ok (.iload_n 1, 1) := by decide +kernel
theorem dX8_fire_19 : decode cX8_fire 19 = .ok (.iload_n 2, 1) := by decide +kernel
theorem dX8_fire_20 : decode cX8_fire 20 = .ok (.invokevirtual 244, 3) := by decide +kernel
theorem dX8_fire_23 : decode cX8_fire 23 = .ok (.goto 9, 3) := by decide +kernel
theorem dX8_fire_26 : decode cX8_fire 26 = .ok (.aload_n 0, 1) := by decide +kernel
theorem dX8_fire_27 : decode cX8_fire 27 = .ok (.ldc 63, 2) := by decide +kernel
theorem dX8_fire_29 : decode cX8_fire 29 = .ok (.invokevirtual 80, 3) := by decide +kernel
theorem dX8_fire_32 : decode cX8_fire 32 = .ok (.ireturn, 1) := by decide +kernel
theorem dX8_drawn_0 : decode cX8_drawn 0 = .ok (.aload_n 0, 1) := by decide +kernel
theorem dX8_drawn_1 : decode cX8_drawn 1 = .ok (.getfield 9, 3) := by decide +kernel
theorem dX8_drawn_4 : decode cX8_drawn 4 = .ok (.iconst 4, 1) := by decide +kernel
theorem dX8_drawn_5 : decode cX8_drawn 5 = .ok (.aload_n 0, 1) := by decide +kernel
theorem dX8_drawn_6 : decode cX8_drawn 6 = .ok (.getfield 9, 3) := by decide +kernel
theorem dX8_drawn_9 : decode cX8_drawn 9 = .ok (.iconst 4, 1) := by decide +kernel
theorem dX8_drawn_10 : decode cX8_drawn 10 = .ok (.iaload, 1) := by decide +kernel
theorem dX8_drawn_11 : decode cX8_drawn 11 = .ok (.ldc 247, 2) := by decide +kernel
theorem dX8_drawn_13 : decode cX8_drawn 13 = .ok (.imul, 1) := by decide +kernel
theorem dX8_drawn_14 : decode cX8_drawn 14 = .ok (.sipush 12345, 3) := by decide +kernel
theorem dX8_drawn_17 : decode cX8_drawn 17 = .ok (.iadd, 1) := by decide +kernel
theorem dX8_drawn_18 : decode cX8_drawn 18 = .ok (.iastore, 1) := by decide +kernel
theorem dX8_drawn_19 : decode cX8_drawn 19 = .ok (.aload_n 0, 1) := by decide +kernel
theorem dX8_drawn_20 : decode cX8_drawn 20 = .ok (.getfield 9, 3) := by decide +kernel
theorem dX8_drawn_23 : decode cX8_drawn 23 = .ok (.iconst 4, 1) := by decide +kernel
theorem dX8_drawn_24 : decode cX8_drawn 24 = .ok (.iaload, 1) := by decide +kernel
theorem dX8_drawn_25 : decode cX8_drawn 25 = .ok (.bipush 8, 2) := by decide +kernel
theorem dX8_drawn_27 : decode cX8_drawn 27 = .ok (.iushr, 1) := by decide +kernel
theorem dX8_drawn_28 : decode cX8_drawn 28 = .ok (.iload_n 1, 1) := by decide +kernel
theorem dX8_drawn_29 : decode cX8_drawn 29 = .ok (.irem, 1) := by decide +kernel
theorem dX8_drawn_30 : decode cX8_drawn 30 = .ok (.ireturn, 1) := by decide +kernel
theorem dX8_papers_0 : decode cX8_papers 0 = .ok (.iload_n 1, 1) := by decide +kernel
theorem dX8_papers_1 : decode cX8_papers 1 = .ok (.iconst 1, 1) := by decide +kernel
theorem dX8_papers_2 : decode cX8_papers 2 = .ok (.bipush 12, 2) := by decide +kernel
theorem dX8_papers_4 : decode cX8_papers 4 = .ok (.invokestatic 68, 3) := by decide +kernel
theorem dX8_papers_7 : decode cX8_papers 7 = .ok (.ifCond .ne 10, 3) := by decide +kernel
theorem dX8_papers_10 : decode cX8_papers 10 = .ok (.aload_n 0, 1) := by decide +kernel
theorem dX8_papers_11 : decode cX8_papers 11 = .ok (.ldc 63, 2) := by decide +kernel
theorem dX8_papers_13 : decode cX8_papers 13 = .ok (.invokevirtual 80, 3) := by decide +kernel
theorem dX8_papers_16 : decode cX8_papers 16 = .ok (.ireturn, 1) := by decide +kernel
theorem dX8_papers_17 : decode cX8_papers 17 = .ok (.iconst 0, 1) := by decide +kernel
theorem dX8_papers_18 : decode cX8_papers 18 = .ok (.istore_n 2, 1) := by decide +kernel
theorem dX8_papers_19 : decode cX8_papers 19 = .ok (.iload_n 2, 1) := by decide +kernel
theorem dX8_papers_20 : decode cX8_papers 20 = .ok (.iload_n 1, 1) := by decide +kernel
theorem dX8_papers_21 : decode cX8_papers 21 = .ok (.if_icmp .ge 31, 3) := by decide +kernel
theorem dX8_papers_24 : decode cX8_papers 24 = .ok (.aload_n 0, 1) := by decide +kernel
theorem dX8_papers_25 : decode cX8_papers 25 = .ok (.bipush 6, 2) := by decide +kernel
theorem dX8_papers_27 : decode cX8_papers 27 = .ok (.invokevirtual 248, 3) := by decide +kernel
theorem dX8_papers_30 : decode cX8_papers 30 = .ok (.istore_n 3, 1) := by decide +kernel
theorem dX8_papers_31 : decode cX8_papers 31 = .ok (.aload_n 0, 1) := by decide +kernel
theorem dX8_papers_32 : decode cX8_papers 32 = .ok (.getfield 9, 3) := by decide +kernel
theorem dX8_papers_35 : decode cX8_papers 35 = .ok (.bipush 27, 2) := by decide +kernel
theorem dX8_papers_37 : decode cX8_papers 37 = .ok (.iload_n 3, 1) := by decide +kernel
theorem dX8_papers_38 : decode cX8_papers 38 = .ok (.iadd, 1) := by decide +kernel
theorem dX8_papers_39 : decode cX8_papers 39 = .ok (.aload_n 0, 1) := by decide +kernel
theorem dX8_papers_40 : decode cX8_papers 40 = .ok (.bipush 6, 2) := by decide +kernel
theorem dX8_papers_42 : decode cX8_papers 42 = .ok (.invokevirtual 248, 3) := by decide +kernel
theorem dX8_papers_45 : decode cX8_papers 45 = .ok (.iastore, 1) := by decide +kernel
theorem dX8_papers_46 : decode cX8_papers 46 = .ok (.iinc 2 1, 3) := by decide +kernel
theorem dX8_papers_49 : decode cX8_papers 49 = .ok (.goto (-30), 3) := by decide +kernel
theorem dX8_papers_52 : decode cX8_papers 52 = .ok (.aload_n 0, 1) := by decide +kernel
theorem dX8_papers_53 : decode cX8_papers 53 = .ok (.iconst 0, 1) := by decide +kernel
theorem dX8_papers_54 : decode cX8_papers 54 = .ok (.invokevirtual 191, 3) := by decide +kernel
theorem dX8_papers_57 : decode cX8_papers 57 = .ok (.ireturn, 1) := by decide +kernel
theorem dX8_seed_0 : decode cX8_seed 0 = .ok (.aload_n 0, 1) := by decide +kernel
theorem dX8_seed_1 : decode cX8_seed 1 = .ok (.iconst 4, 1) := by decide +kernel
theorem dX8_seed_2 : decode cX8_seed 2 = .ok (.iload_n 1, 1) := by decide +kernel
theorem dX8_seed_3 : decode cX8_seed 3 = .ok (.invokevirtual 108, 3) := by decide +kernel
theorem dX8_seed_6 : decode cX8_seed 6 = .ok (.ireturn, 1) := by decide +kernel
theorem dX8_feed_0 : decode cX8_feed 0 = .ok (.iload_n 2, 1) := by decide +kernel
theorem dX8_feed_1 : decode cX8_feed 1 = .ok (.iconst 1, 1) := by decide +kernel
theorem dX8_feed_2 : decode cX8_feed 2 = .ok (.iconst 4, 1) := by decide +kernel
theorem dX8_feed_3 : decode cX8_feed 3 = .ok (.invokestatic 68, 3) := by decide +kernel
theorem dX8_feed_6 : decode cX8_feed 6 = .ok (.ifCond .ne 10, 3) := by decide +kernel
theorem dX8_feed_9 : decode cX8_feed 9 = .ok (.aload_n 0, 1) := by decide +kernel
theorem dX8_feed_10 : decode cX8_feed 10 = .ok (.ldc 63, 2) := by decide +kernel
theorem dX8_feed_12 : decode cX8_feed 12 = .ok (.invokevirtual 80, 3) := by decide +kernel
theorem dX8_feed_15 : decode cX8_feed 15 = .ok (.ireturn, 1) := by decide +kernel
theorem dX8_feed_16 : decode cX8_feed 16 = .ok (.aload_n 0, 1) := by decide +kernel
theorem dX8_feed_17 : decode cX8_feed 17 = .ok (.getfield 251, 3) := by decide +kernel
theorem dX8_feed_20 : decode cX8_feed 20 = .ok (.iload_n 2, 1) := by decide +kernel
theorem dX8_feed_21 : decode cX8_feed 21 = .ok (.iadd, 1) := by decide +kernel
theorem dX8_feed_22 : decode cX8_feed 22 = .ok (.bipush 120, 2) := by decide +kernel
theorem dX8_feed_24 : decode cX8_feed 24 = .ok (.if_icmp .le 10, 3) := by decide +kernel
theorem dX8_feed_27 : decode cX8_feed 27 = .ok (.aload_n 0, 1) := by decide +kernel
theorem dX8_feed_28 : decode cX8_feed 28 = .ok (.ldc 84, 2) := by decide +kernel
theorem dX8_feed_30 : decode cX8_feed 30 = .ok (.invokevirtual 80, 3) := by decide +kernel
theorem dX8_feed_33 : decode cX8_feed 33 = .ok (.ireturn, 1) := by decide +kernel
theorem dX8_feed_34 : decode cX8_feed 34 = .ok (.iload_n 2, 1) := by decide +kernel
theorem dX8_feed_35 : decode cX8_feed 35 = .ok (.iconst 1, 1) := by decide +kernel
theorem dX8_feed_36 : decode cX8_feed 36 = .ok (.isub, 1) := by decide +kernel
theorem dX8_feed_37 : decode cX8_feed 37 = .ok (.istore_n 3, 1) := by decide +kernel
theorem dX8_feed_38 : decode cX8_feed 38 = .ok (.iload_n 3, 1) := by decide +kernel
theorem dX8_feed_39 : decode cX8_feed 39 = .ok (.ifCond .lt 38, 3) := by decide +kernel
theorem dX8_feed_42 : decode cX8_feed 42 = .ok (.aload_n 0, 1) := by decide +kernel
theorem dX8_feed_43 : decode cX8_feed 43 = .ok (.getfield 25, 3) := by decide +kernel
theorem dX8_feed_46 : decode cX8_feed 46 = .ok (.aload_n 0, 1) := by decide +kernel
theorem dX8_feed_47 : decode cX8_feed 47 = .ok (.getfield 251, 3) := by decide +kernel
theorem dX8_feed_50 : decode cX8_feed 50 = .ok (.iload_n 1, 1) := by decide +kernel
theorem dX8_feed_51 : decode cX8_feed 51 = .ok (.bipush 8, 2) := by decide +kernel
theorem dX8_feed_53 : decode cX8_feed 53 = .ok (.iload_n 3, 1) := by decide +kernel
theorem dX8_feed_54 : decode cX8_feed 54 = .ok (.imul, 1) := by decide +kernel
theorem dX8_feed_55 : decode cX8_feed 55 = .ok (.ishr, 1) := by decide +kernel
theorem dX8_feed_56 : decode cX8_feed 56 = .ok (.sipush 255, 3) := by decide +kernel
theorem dX8_feed_59 : decode cX8_feed 59 = .ok (.iand, 1) := by decide +kernel
theorem dX8_feed_60 : decode cX8_feed 60 = .ok (.iastore, 1) := by decide +kernel
theorem dX8_feed_61 : decode cX8_feed 61 = .ok (.aload_n 0, 1) := by decide +kernel
theorem dX8_feed_62 : decode cX8_feed 62 = .ok (.dup, 1) := by decide +kernel
theorem dX8_feed_63 : decode cX8_feed 63 = .ok (.getfield 251, 3) := by decide +kernel
theorem dX8_feed_66 : decode cX8_feed 66 = .ok (.iconst 1, 1) := by decide +kernel
theorem dX8_feed_67 : decode cX8_feed 67 = .ok (.iadd, 1) := by decide +kernel
theorem dX8_feed_68 : decode cX8_feed 68 = .ok (.putfield 251, 3) := by decide +kernel
theorem dX8_feed_71 : decode cX8_feed 71 = .ok (.iinc 3 (-1), 3) := by decide +kernel
theorem dX8_feed_74 : decode cX8_feed 74 = .ok (.goto (-36), 3) := by decide +kernel
theorem dX8_feed_77 : decode cX8_feed 77 = .ok (.aload_n 0, 1) := by decide +kernel
theorem dX8_feed_78 : decode cX8_feed 78 = .ok (.getfield 251, 3) := by decide +kernel
theorem dX8_feed_81 : decode cX8_feed 81 = .ok (.ireturn, 1) := by decide +kernel
theorem dX8_wipe_0 : decode cX8_wipe 0 = .ok (.aload_n 0, 1) := by decide +kernel
theorem dX8_wipe_1 : decode cX8_wipe 1 = .ok (.getfield 251, 3) := by decide +kernel
theorem dX8_wipe_4 : decode cX8_wipe 4 = .ok (.istore_n 1, 1) := by decide +kernel
theorem dX8_wipe_5 : decode cX8_wipe 5 = .ok (.aload_n 0, 1) := by decide +kernel
theorem dX8_wipe_6 : decode cX8_wipe 6 = .ok (.iconst 0, 1) := by decide +kernel
theorem dX8_wipe_7 : decode cX8_wipe 7 = .ok (.putfield 251, 3) := by decide +kernel
theorem dX8_wipe_10 : decode cX8_wipe 10 = .ok (.iload_n 1, 1) := by decide +kernel
theorem dX8_wipe_11 : decode cX8_wipe 11 = .ok (.ireturn, 1) := by decide +kernel
theorem dX8_byteAt_0 : decode cX8_byteAt 0 = .ok (.iload_n 1, 1) := by decide +kernel
theorem dX8_byteAt_1 : decode cX8_byteAt 1 = .ok (.aload_n 0, 1) := by decide +kernel
theorem dX8_byteAt_2 : decode cX8_byteAt 2 = .ok (.getfield 251, 3) := by decide +kernel
theorem dX8_byteAt_5 : decode cX8_byteAt 5 = .ok (.if_icmp .ge 12, 3) := by decide +kernel
theorem dX8_byteAt_8 : decode cX8_byteAt 8 = .ok (.aload_n 0, 1) := by decide +kernel
theorem dX8_byteAt_9 : decode cX8_byteAt 9 = .ok (.getfield 25, 3) := by decide +kernel
theorem dX8_byteAt_12 : decode cX8_byteAt 12 = .ok (.iload_n 1, 1) := by decide +kernel
theorem dX8_byteAt_13 : decode cX8_byteAt 13 = .ok (.iaload, 1) := by decide +kernel
theorem dX8_byteAt_14 : decode cX8_byteAt 14 = .ok (.goto 4, 3) := by decide +kernel
theorem dX8_byteAt_17 : decode cX8_byteAt 17 = .ok (.iconst (-1), 1) := by decide +kernel
theorem dX8_byteAt_18 : decode cX8_byteAt 18 = .ok (.ireturn, 1) := by decide +kernel
theorem dX8_next0_0 : decode cX8_next0 0 = .ok (.aload_n 0, 1) := by decide +kernel
theorem dX8_next0_1 : decode cX8_next0 1 = .ok (.aload_n 0, 1) := by decide +kernel
theorem dX8_next0_2 : decode cX8_next0 2 = .ok (.getfield 254, 3) := by decide +kernel
theorem dX8_next0_5 : decode cX8_next0 5 = .ok (.putfield 257, 3) := by decide +kernel
theorem dX8_next0_8 : decode cX8_next0 8 = .ok (.aload_n 0, 1) := by decide +kernel
theorem dX8_next0_9 : decode cX8_next0 9 = .ok (.aload_n 0, 1) := by decide +kernel
theorem dX8_next0_10 : decode cX8_next0 10 = .ok (.getfield 257, 3) := by decide +kernel
theorem dX8_next0_13 : decode cX8_next0 13 = .ok (.invokevirtual 260, 3) := by decide +kernel
theorem dX8_next0_16 : decode cX8_next0 16 = .ok (.bipush 32, 2) := by decide +kernel
theorem dX8_next0_18 : decode cX8_next0 18 = .ok (.if_icmp .ne 16, 3) := by decide +kernel
theorem dX8_next0_21 : decode cX8_next0 21 = .ok (.aload_n 0, 1) := by decide +kernel
theorem dX8_next0_22 : decode cX8_next0 22 = .ok (.dup, 1) := by decide +kernel
theorem dX8_next0_23 : decode cX8_next0 23 = .ok (.getfield 257, 3) := by decide +kernel
theorem dX8_next0_26 : decode cX8_next0 26 = .ok (.iconst 1, 1) := by decide +kernel
theorem dX8_next0_27 : decode cX8_next0 27 = .ok (.iadd, 1) := by decide +kernel
theorem dX8_next0_28 : decode cX8_next0 28 = .ok (.putfield 257, 3) := by decide +kernel
theorem dX8_next0_31 : decode cX8_next0 31 = .ok (.goto (-23), 3) := by decide +kernel
theorem dX8_next0_34 : decode cX8_next0 34 = .ok (.aload_n 0, 1) := by decide +kernel
theorem dX8_next0_35 : decode cX8_next0 35 = .ok (.aload_n 0, 1) := by decide +kernel
theorem dX8_next0_36 : decode cX8_next0 36 = .ok (.getfield 257, 3) := by decide +kernel
theorem dX8_next0_39 : decode cX8_next0 39 = .ok (.invokevirtual 260, 3) := by decide +kernel
theorem dX8_next0_42 : decode cX8_next0 42 = .ok (.istore_n 1, 1) := by decide +kernel
theorem dX8_next0_43 : decode cX8_next0 43 = .ok (.aload_n 0, 1) := by decide +kernel
theorem dX8_next0_44 : decode cX8_next0 44 = .ok (.aload_n 0, 1) := by decide +kernel
theorem dX8_next0_45 : decode cX8_next0 45 = .ok (.getfield 257, 3) := by decide +kernel
theorem dX8_next0_48 : decode cX8_next0 48 = .ok (.putfield 254, 3) := by decide +kernel
theorem dX8_next0_51 : decode cX8_next0 51 = .ok (.aload_n 0, 1) := by decide +kernel
theorem dX8_next0_52 : decode cX8_next0 52 = .ok (.iconst 0, 1) := by decide +kernel
theorem dX8_next0_53 : decode cX8_next0 53 = .ok (.putfield 263, 3) := by decide +kernel
theorem dX8_next0_56 : decode cX8_next0 56 = .ok (.iload_n 1, 1) := by decide +kernel
theorem dX8_next0_57 : decode cX8_next0 57 = .ok (.ifCond .ge 11, 3) := by decide +kernel
theorem dX8_next0_60 : decode cX8_next0 60 = .ok (.aload_n 0, 1) := by decide +kernel
theorem dX8_next0_61 : decode cX8_next0 61 = .ok (.iconst 0, 1) := by decide +kernel
theorem dX8_next0_62 : decode cX8_next0 62 = .ok (.putfield 266, 3) := by decide +kernel
theorem dX8_next0_65 : decode cX8_next0 65 = .ok (.goto 141, 3) := by decide +kernel
theorem dX8_next0_68 : decode cX8_next0 68 = .ok (.iload_n 1, 1) := by decide +kernel
theorem dX8_next0_69 : decode cX8_next0 69 = .ok (.bipush 97, 2) := by decide +kernel
theorem dX8_next0_71 : decode cX8_next0 71 = .ok (.bipush 122, 2) := by decide +kernel
theorem dX8_next0_73 : decode cX8_next0 73 = .ok (.invokestatic 68, 3) := by decide +kernel
theorem dX8_next0_76 : decode cX8_next0 76 = .ok (.ifCond .eq 39, 3) := by decide +kernel
theorem dX8_next0_79 : decode cX8_next0 79 = .ok (.aload_n 0, 1) := by decide +kernel
theorem dX8_next0_80 : decode cX8_next0 80 = .ok (.iconst 1, 1) := by decide +kernel
theorem dX8_next0_81 : decode cX8_next0 81 = .ok (.putfield 266, 3) := by decide +kernel
theorem dX8_next0_84 : decode cX8_next0 84 = .ok (.aload_n 0, 1) := by decide +kernel
theorem dX8_next0_85 : decode cX8_next0 85 = .ok (.aload_n 0, 1) := by decide +kernel
theorem dX8_next0_86 : decode cX8_next0 86 = .ok (.getfield 254, 3) := by decide +kernel
theorem dX8_next0_89 : decode cX8_next0 89 = .ok (.invokevirtual 260, 3) := by decide +kernel
theorem dX8_next0_92 : decode cX8_next0 92 = .ok (.bipush 97, 2) := by decide +kernel
theorem dX8_next0_94 : decode cX8_next0 94 = .ok (.bipush 122, 2) := by decide +kernel
theorem dX8_next0_96 : decode cX8_next0 96 = .ok (.invokestatic 68, 3) := by decide +kernel
theorem dX8_next0_99 : decode cX8_next0 99 = .ok (.ifCond .eq 107, 3) := by decide +kernel
theorem dX8_next0_102 : decode cX8_next0 102 = .ok (.aload_n 0, 1) := by decide +kernel
theorem dX8_next0_103 : decode cX8_next0 103 = .ok (.dup, 1) := by decide +kernel
theorem dX8_next0_104 : decode cX8_next0 104 = .ok (.getfield 254, 3) := by decide +kernel
theorem dX8_next0_107 : decode cX8_next0 107 = .ok (.iconst 1, 1) := by decide +kernel
theorem dX8_next0_108 : decode cX8_next0 108 = .ok (.iadd, 1) := by decide +kernel
theorem dX8_next0_109 : decode cX8_next0 109 = .ok (.putfield 254, 3) := by decide +kernel
theorem dX8_next0_112 : decode cX8_next0 112 = .ok (.goto (-28), 3) := by decide +kernel
theorem dX8_next0_115 : decode cX8_next0 115 = .ok (.iload_n 1, 1) := by decide +kernel
theorem dX8_next0_116 : decode cX8_next0 116 = .ok (.bipush 48, 2) := by decide +kernel
theorem dX8_next0_118 : decode cX8_next0 118 = .ok (.bipush 57, 2) := by decide +kernel
theorem dX8_next0_120 : decode cX8_next0 120 = .ok (.invokestatic 68, 3) := by decide +kernel
theorem dX8_next0_123 : decode cX8_next0 123 = .ok (.ifCond .eq 68, 3) := by decide +kernel
theorem dX8_next0_126 : decode cX8_next0 126 = .ok (.aload_n 0, 1) := by decide +kernel
theorem dX8_next0_127 : decode cX8_next0 127 = .ok (.iconst 2, 1) := by decide +kernel
theorem dX8_next0_128 : decode cX8_next0 128 = .ok (.putfield 266, 3) := by decide +kernel
theorem dX8_next0_131 : decode cX8_next0 131 = .ok (.aload_n 0, 1) := by decide +kernel
theorem dX8_next0_132 : decode cX8_next0 132 = .ok (.aload_n 0, 1) := by decide +kernel
theorem dX8_next0_133 : decode cX8_next0 133 = .ok (.getfield 254, 3) := by decide +kernel
theorem dX8_next0_136 : decode cX8_next0 136 = .ok (.invokevirtual 260, 3) := by decide +kernel
theorem dX8_next0_139 : decode cX8_next0 139 = .ok (.bipush 48, 2) := by decide +kernel
theorem dX8_next0_141 : decode cX8_next0 141 = .ok (.bipush 57, 2) := by decide +kernel
theorem dX8_next0_143 : decode cX8_next0 143 = .ok (.invokestatic 68, 3) := by decide +kernel
theorem dX8_next0_146 : decode cX8_next0 146 = .ok (.ifCond .eq 60, 3) := by decide +kernel
theorem dX8_next0_149 : decode cX8_next0 149 = .ok (.aload_n 0, 1) := by decide +kernel
theorem dX8_next0_150 : decode cX8_next0 150 = .ok (.sipush 1000, 3) := by decide +kernel
theorem dX8_next0_153 : decode cX8_next0 153 = .ok (.bipush 10, 2) := by decide +kernel
theorem dX8_next0_155 : decode cX8_next0 155 = .ok (.aload_n 0, 1) := by decide +kernel
theorem dX8_next0_156 : decode cX8_next0 156 = .ok (.getfield 263, 3) := by decide +kernel
theorem dX8_next0_159 : decode cX8_next0 159 = .ok (.imul, 1) := by decide +kernel
theorem dX8_next0_160 : decode cX8_next0 160 = .ok (.aload_n 0, 1) := by decide +kernel
theorem dX8_next0_161 : decode cX8_next0 161 = .ok (.aload_n 0, 1) := by decide +kernel
theorem dX8_next0_162 : decode cX8_next0 162 = .ok (.getfield 254, 3) := by decide +kernel
theorem dX8_next0_165 : decode cX8_next0 165 = .ok (.invokevirtual 260, 3) := by decide +kernel
theorem dX8_next0_168 : decode cX8_next0 168 = .ok (.iadd, 1) := by decide +kernel
theorem dX8_next0_169 : decode cX8_next0 169 = .ok (.bipush 48, 2) := by decide +kernel
theorem dX8_next0_171 : decode cX8_next0 171 = .ok (.isub, 1) := by decide +kernel
theorem dX8_next0_172 : decode cX8_next0 172 = .ok (.invokestatic 234, 3) := by decide +kernel
theorem dX8_next0_175 : decode cX8_next0 175 = .ok (.putfield 263, 3) := by decide +kernel
theorem dX8_next0_178 : decode cX8_next0 178 = .ok (.aload_n 0, 1) := by decide +kernel
theorem dX8_next0_179 : decode cX8_next0 179 = .ok (.dup, 1) := by decide +kernel
theorem dX8_next0_180 : decode cX8_next0 180 = .ok (.getfield 254, 3) := by decide +kernel
theorem dX8_next0_183 : decode cX8_next0 183 = .ok (.iconst 1, 1) := by decide +kernel
theorem dX8_next0_184 : decode cX8_next0 184 = .ok (.iadd, 1) := by decide +kernel
theorem dX8_next0_185 : decode cX8_next0 185 = .ok (.putfield 254, 3) := by decide +kernel
theorem dX8_next0_188 : decode cX8_next0 188 = .ok (.goto (-57), 3) := by decide +kernel
theorem dX8_next0_191 : decode cX8_next0 191 = .ok (.aload_n 0, 1) := by decide +kernel
theorem dX8_next0_192 : decode cX8_next0 192 = .ok (.iconst 3, 1) := by decide +kernel
theorem dX8_next0_193 : decode cX8_next0 193 = .ok (.putfield 266, 3) := by decide +kernel
theorem dX8_next0_196 : decode cX8_next0 196 = .ok (.aload_n 0, 1) := by decide +kernel
theorem dX8_next0_197 : decode cX8_next0 197 = .ok (.dup, 1) := by decide +kernel
theorem dX8_next0_198 : decode cX8_next0 198 = .ok (.getfield 254, 3) := by decide +kernel
theorem dX8_next0_201 : decode cX8_next0 201 = .ok (.iconst 1, 1) := by decide +kernel
theorem dX8_next0_202 : decode cX8_next0 202 = .ok (.iadd, 1) := by decide +kernel
theorem dX8_next0_203 : decode cX8_next0 203 = .ok (.putfield 254, 3) := by decide +kernel
theorem dX8_next0_206 : decode cX8_next0 206 = .ok (.return_, 1) := by decide +kernel
theorem dX8_isWord_0 : decode cX8_isWord 0 = .ok (.aload_n 0, 1) := by decide +kernel
theorem dX8_isWord_1 : decode cX8_isWord 1 = .ok (.getfield 266, 3) := by decide +kernel
theorem dX8_isWord_4 : decode cX8_isWord 4 = .ok (.iconst 1, 1) := by decide +kernel
theorem dX8_isWord_5 : decode cX8_isWord 5 = .ok (.if_icmp .ne 23, 3) := by decide +kernel
theorem dX8_isWord_8 : decode cX8_isWord 8 = .ok (.aload_n 0, 1) := by decide +kernel
theorem dX8_isWord_9 : decode cX8_isWord 9 = .ok (.getfield 254, 3) := by decide +kernel
theorem dX8_isWord_12 : decode cX8_isWord 12 = .ok (.aload_n 0, 1) := by decide +kernel
theorem dX8_isWord_13 : decode cX8_isWord 13 = .ok (.getfield 257, 3) := by decide +kernel
theorem dX8_isWord_16 : decode cX8_isWord 16 = .ok (.isub, 1) := by decide +kernel
theorem dX8_isWord_17 : decode cX8_isWord 17 = .ok (.aload_n 1, 1) := by decide +kernel
theorem dX8_isWord_18 : decode cX8_isWord 18 = .ok (.invokevirtual 269, 3) := by decide +kernel
theorem dX8_isWord_21 : decode cX8_isWord 21 = .ok (.if_icmp .ne 7, 3) := by decide +kernel
theorem dX8_isWord_24 : decode cX8_isWord 24 = .ok (.iconst 1, 1) := by decide +kernel
theorem dX8_isWord_25 : decode cX8_isWord 25 = .ok (.goto 4, 3) := by decide +kernel
theorem dX8_isWord_28 : decode cX8_isWord 28 = .ok (.iconst 0, 1) := by decide +kernel
theorem dX8_isWord_29 : decode cX8_isWord 29 = .ok (.istore_n 2, 1) := by decide +kernel
theorem dX8_isWord_30 : decode cX8_isWord 30 = .ok (.iconst 0, 1) := by decide +kernel
theorem dX8_isWord_31 : decode cX8_isWord 31 = .ok (.istore_n 3, 1) := by decide +kernel
theorem dX8_isWord_32 : decode cX8_isWord 32 = .ok (.iload_n 3, 1) := by decide +kernel
theorem dX8_isWord_33 : decode cX8_isWord 33 = .ok (.aload_n 1, 1) := by decide +kernel
theorem dX8_isWord_34 : decode cX8_isWord 34 = .ok (.invokevirtual 269, 3) := by decide +kernel
theorem dX8_isWord_37 : decode cX8_isWord 37 = .ok (.if_icmp .ge 38, 3) := by decide +kernel
theorem dX8_isWord_40 : decode cX8_isWord 40 = .ok (.iload_n 2, 1) := by decide +kernel
theorem dX8_isWord_41 : decode cX8_isWord 41 = .ok (.ifCond .eq 34, 3) := by decide +kernel
theorem dX8_isWord_44 : decode cX8_isWord 44 = .ok (.aload_n 0, 1) := by decide +kernel
theorem dX8_isWord_45 : decode cX8_isWord 45 = .ok (.getfield 25, 3) := by decide +kernel
theorem dX8_isWord_48 : decode cX8_isWord 48 = .ok (.aload_n 0, 1) := by decide +kernel
theorem dX8_isWord_49 : decode cX8_isWord 49 = .ok (.getfield 257, 3) := by decide +kernel
theorem dX8_isWord_52 : decode cX8_isWord 52 = .ok (.iload_n 3, 1) := by decide +kernel
theorem dX8_isWord_53 : decode cX8_isWord 53 = .ok (.iadd, 1) := by decide +kernel
theorem dX8_isWord_54 : decode cX8_isWord 54 = .ok (.iaload, 1) := by decide +kernel
theorem dX8_isWord_55 : decode cX8_isWord 55 = .ok (.aload_n 1, 1) := by decide +kernel
theorem dX8_isWord_56 : decode cX8_isWord 56 = .ok (.iload_n 3, 1) := by decide +kernel
theorem dX8_isWord_57 : decode cX8_isWord 57 = .ok (.invokevirtual 272, 3) := by decide +kernel
theorem dX8_isWord_60 : decode cX8_isWord 60 = .ok (.if_icmp .ne 7, 3) := by decide +kernel
theorem dX8_isWord_63 : decode cX8_isWord 63 = .ok (.iconst 1, 1) := by decide +kernel
theorem dX8_isWord_64 : decode cX8_isWord 64 = .ok (.goto 4, 3) := by decide +kernel
theorem dX8_isWord_67 : decode cX8_isWord 67 = .ok (.iconst 0, 1) := by decide +kernel
theorem dX8_isWord_68 : decode cX8_isWord 68 = .ok (.istore_n 2, 1) := by decide +kernel
theorem dX8_isWord_69 : decode cX8_isWord 69 = .ok (.iinc 3 1, 3) := by decide +kernel
theorem dX8_isWord_72 : decode cX8_isWord 72 = .ok (.goto (-40), 3) := by decide +kernel
theorem dX8_isWord_75 : decode cX8_isWord 75 = .ok (.iload_n 2, 1) := by decide +kernel
theorem dX8_isWord_76 : decode cX8_isWord 76 = .ok (.ireturn, 1) := by decide +kernel
theorem dX8_must_0 : decode cX8_must 0 = .ok (.aload_n 0, 1) := by decide +kernel
theorem dX8_must_1 : decode cX8_must 1 = .ok (.aload_n 0, 1) := by decide +kernel
theorem dX8_must_2 : decode cX8_must 2 = .ok (.getfield 276, 3) := by decide +kernel
theorem dX8_must_5 : decode cX8_must 5 = .ok (.ifCond .ne 7, 3) := by decide +kernel
theorem dX8_must_8 : decode cX8_must 8 = .ok (.iload_n 1, 1) := by decide +kernel
theorem dX8_must_9 : decode cX8_must 9 = .ok (.ifCond .ne 7, 3) := by decide +kernel
theorem dX8_must_12 : decode cX8_must 12 = .ok (.iconst 1, 1) := by decide +kernel
theorem dX8_must_13 : decode cX8_must 13 = .ok (.goto 4, 3) := by decide +kernel
theorem dX8_must_16 : decode cX8_must 16 = .ok (.iconst 0, 1) := by decide +kernel
theorem dX8_must_17 : decode cX8_must 17 = .ok (.putfield 276, 3) := by decide +kernel
theorem dX8_must_20 : decode cX8_must 20 = .ok (.aload_n 0, 1) := by decide +kernel
theorem dX8_must_21 : decode cX8_must 21 = .ok (.getfield 276, 3) := by decide +kernel
theorem dX8_must_24 : decode cX8_must 24 = .ok (.ifCond .ne 7, 3) := by decide +kernel
theorem dX8_must_27 : decode cX8_must 27 = .ok (.aload_n 0, 1) := by decide +kernel
theorem dX8_must_28 : decode cX8_must 28 = .ok (.invokevirtual 280, 3) := by decide +kernel
theorem dX8_must_31 : decode cX8_must 31 = .ok (.return_, 1) := by decide +kernel
theorem dX8_number_0 : decode cX8_number 0 = .ok (.aload_n 0, 1) := by decide +kernel
theorem dX8_number_1 : decode cX8_number 1 = .ok (.getfield 263, 3) := by decide +kernel
theorem dX8_number_4 : decode cX8_number 4 = .ok (.istore_n 3, 1) := by decide +kernel
theorem dX8_number_5 : decode cX8_number 5 = .ok (.aload_n 0, 1) := by decide +kernel
theorem dX8_number_6 : decode cX8_number 6 = .ok (.aload_n 0, 1) := by decide +kernel
theorem dX8_number_7 : decode cX8_number 7 = .ok (.getfield 266, 3) := by decide +kernel
theorem dX8_number_10 : decode cX8_number 10 = .ok (.iconst 2, 1) := by decide +kernel
theorem dX8_number_11 : decode cX8_number 11 = .ok (.if_icmp .ne 16, 3) := by decide +kernel
theorem dX8_number_14 : decode cX8_number 14 = .ok (.iload_n 3, 1) := by decide +kernel
theorem dX8_number_15 : decode cX8_number 15 = .ok (.iload_n 1, 1) := by decide +kernel
theorem dX8_number_16 : decode cX8_number 16 = .ok (.iload_n 2, 1) := by decide +kernel
theorem dX8_number_17 : decode cX8_number 17 = .ok (.invokestatic 68, 3) := by decide +kernel
theorem dX8_number_20 : decode cX8_number 20 = .ok (.ifCond .eq 7, 3) := by decide +kernel
theorem dX8_number_23 : decode cX8_number 23 = .ok (.iconst 1, 1) := by decide +kernel
theorem dX8_number_24 : decode cX8_number 24 = .ok (.goto 4, 3) := by decide +kernel
theorem dX8_number_27 : decode cX8_number 27 = .ok (.iconst 0, 1) := by decide +kernel
theorem dX8_number_28 : decode cX8_number 28 = .ok (.invokevirtual 283, 3) := by decide +kernel
theorem dX8_number_31 : decode cX8_number 31 = .ok (.iload_n 3, 1) := by decide +kernel
theorem dX8_number_32 : decode cX8_number 32 = .ok (.ireturn, 1) := by decide +kernel
theorem dX8_item_0 : decode cX8_item 0 = .ok (.iconst 4, 1) := by decide +kernel
theorem dX8_item_1 : decode cX8_item 1 = .ok (.aload_n 0, 1) := by decide +kernel
theorem dX8_item_2 : decode cX8_item 2 = .ok (.getfield 287, 3) := by decide +kernel
theorem dX8_item_5 : decode cX8_item 5 = .ok (.imul, 1) := by decide +kernel
theorem dX8_item_6 : decode cX8_item 6 = .ok (.istore 5, 2) := by decide +kernel
theorem dX8_item_8 : decode cX8_item 8 = .ok (.aload_n 0, 1) := by decide +kernel
theorem dX8_item_9 : decode cX8_item 9 = .ok (.getfield 48, 3) := by decide +kernel
theorem dX8_item_12 : decode cX8_item 12 = .ok (.iload 5, 2) := by decide +kernel
theorem dX8_item_14 : decode cX8_item 14 = .ok (.iload_n 1, 1) := by decide +kernel
theorem dX8_item_15 : decode cX8_item 15 = .ok (.iastore, 1) := by decide +kernel
theorem dX8_item_16 : decode cX8_item 16 = .ok (.aload_n 0, 1) := by decide +kernel
theorem dX8_item_17 : decode cX8_item 17 = .ok (.getfield 48, 3) := by decide +kernel
theorem dX8_item_20 : decode cX8_item 20 = .ok (.iload 5, 2) := by decide +kernel
theorem dX8_item_22 : decode cX8_item 22 = .ok (.iconst 1, 1) := by decide +kernel
theorem dX8_item_23 : decode cX8_item 23 = .ok (.iadd, 1) := by decide +kernel
theorem dX8_item_24 : decode cX8_item 24 = .ok (.iload_n 2, 1) := by decide +kernel
theorem dX8_item_25 : decode cX8_item 25 = .ok (.iastore, 1) := by decide +kernel
theorem dX8_item_26 : decode cX8_item 26 = .ok (.aload_n 0, 1) := by decide +kernel
theorem dX8_item_27 : decode cX8_item 27 = .ok (.getfield 48, 3) := by decide +kernel
theorem dX8_item_30 : decode cX8_item 30 = .ok (.iload 5, 2) := by decide +kernel
theorem dX8_item_32 : decode cX8_item 32 = .ok (.iconst 2, 1) := by decide +kernel
theorem dX8_item_33 : decode cX8_item 33 = .ok (.iadd, 1) := by decide +kernel
theorem dX8_item_34 : decode cX8_item 34 = .ok (.iload_n 3, 1) := by decide +kernel
theorem dX8_item_35 : decode cX8_item 35 = .ok (.iastore, 1) := by decide +kernel
theorem dX8_item_36 : decode cX8_item 36 = .ok (.aload_n 0, 1) := by decide +kernel
theorem dX8_item_37 : decode cX8_item 37 = .ok (.getfield 48, 3) := by decide +kernel
theorem dX8_item_40 : decode cX8_item 40 = .ok (.iload 5, 2) := by decide +kernel
theorem dX8_item_42 : decode cX8_item 42 = .ok (.iconst 3, 1) := by decide +kernel
theorem dX8_item_43 : decode cX8_item 43 = .ok (.iadd, 1) := by decide +kernel
theorem dX8_item_44 : decode cX8_item 44 = .ok (.iload 4, 2) := by decide +kernel
theorem dX8_item_46 : decode cX8_item 46 = .ok (.iastore, 1) := by decide +kernel
theorem dX8_item_47 : decode cX8_item 47 = .ok (.aload_n 0, 1) := by decide +kernel
theorem dX8_item_48 : decode cX8_item 48 = .ok (.dup, 1) := by decide +kernel
theorem dX8_item_49 : decode cX8_item 49 = .ok (.getfield 287, 3) := by decide +kernel
theorem dX8_item_52 : decode cX8_item 52 = .ok (.iconst 1, 1) := by decide +kernel
theorem dX8_item_53 : decode cX8_item 53 = .ok (.iadd, 1) := by decide +kernel
theorem dX8_item_54 : decode cX8_item 54 = .ok (.putfield 287, 3) := by decide +kernel
theorem dX8_item_57 : decode cX8_item 57 = .ok (.return_, 1) := by decide +kernel
theorem dX8_kindTold_0 : decode cX8_kindTold 0 = .ok (.iconst (-1), 1) := by decide +kernel
theorem dX8_kindTold_1 : decode cX8_kindTold 1 = .ok (.istore_n 1, 1) := by decide +kernel
theorem dX8_kindTold_2 : decode cX8_kindTold 2 = .ok (.iconst 0, 1) := by decide +kernel
theorem dX8_kindTold_3 : decode cX8_kindTold 3 = .ok (.istore_n 2, 1) := by decide +kernel
theorem dX8_kindTold_4 : decode cX8_kindTold 4 = .ok (.iload_n 2, 1) := by decide +kernel
theorem dX8_kindTold_5 : decode cX8_kindTold 5 = .ok (.aload_n 0, 1) := by decide +kernel
theorem dX8_kindTold_6 : decode cX8_kindTold 6 = .ok (.getfield 44, 3) := by decide +kernel
theorem dX8_kindTold_9 : decode cX8_kindTold 9 = .ok (.arraylength, 1) := by decide +kernel
theorem dX8_kindTold_10 : decode cX8_kindTold 10 = .ok (.if_icmp .ge 28, 3) := by decide +kernel
theorem dX8_kindTold_13 : decode cX8_kindTold 13 = .ok (.aload_n 0, 1) := by decide +kernel
theorem dX8_kindTold_14 : decode cX8_kindTold 14 = .ok (.aload_n 0, 1) := by decide +kernel
theorem dX8_kindTold_15 : decode cX8_kindTold 15 = .ok (.getfield 44, 3) := by decide +kernel
theorem dX8_kindTold_18 : decode cX8_kindTold 18 = .ok (.iload_n 2, 1) := by decide +kernel
theorem dX8_kindTold_19 : decode cX8_kindTold 19 = .ok (.aaload, 1) := by decide +kernel
theorem dX8_kindTold_20 : decode cX8_kindTold 20 = .ok (.invokevirtual 290, 3) := by decide +kernel
theorem dX8_kindTold_23 : decode cX8_kindTold 23 = .ok (.ifCond .eq 7, 3) := by decide +kernel
theorem dX8_kindTold_26 : decode cX8_kindTold 26 = .ok (.iload_n 2, 1) := by decide +kernel
theorem dX8_kindTold_27 : decode cX8_kindTold 27 = .ok (.goto 4, 3) := by decide +kernel
theorem dX8_kindTold_30 : decode cX8_kindTold 30 = .ok (.iload_n 1, 1) := by decide +kernel
theorem dX8_kindTold_31 : decode cX8_kindTold 31 = .ok (.istore_n 1, 1) := by decide +kernel
theorem dX8_kindTold_32 : decode cX8_kindTold 32 = .ok (.iinc 2 1, 3) := by decide +kernel
theorem dX8_kindTold_35 : decode cX8_kindTold 35 = .ok (.goto (-31), 3) := by decide +kernel
theorem dX8_kindTold_38 : decode cX8_kindTold 38 = .ok (.iload_n 1, 1) := by decide +kernel
theorem dX8_kindTold_39 : decode cX8_kindTold 39 = .ok (.ireturn, 1) := by decide +kernel
theorem dX8_isNext_0 : decode cX8_isNext 0 = .ok (.aload_n 0, 1) := by decide +kernel
theorem dX8_isNext_1 : decode cX8_isNext 1 = .ok (.getfield 276, 3) := by decide +kernel
theorem dX8_isNext_4 : decode cX8_isNext 4 = .ok (.ifCond .ne 15, 3) := by decide +kernel
theorem dX8_isNext_7 : decode cX8_isNext 7 = .ok (.aload_n 0, 1) := by decide +kernel
theorem dX8_isNext_8 : decode cX8_isNext 8 = .ok (.aload_n 1, 1) := by decide +kernel
theorem dX8_isNext_9 : decode cX8_isNext 9 = .ok (.invokevirtual 290, 3) := by decide +kernel
theorem dX8_isNext_12 : decode cX8_isNext 12 = .ok (.ifCond .eq 7, 3) := by decide +kernel
theorem dX8_isNext_15 : decode cX8_isNext 15 = .ok (.iconst 1, 1) := by decide +kernel
theorem dX8_isNext_16 : decode cX8_isNext 16 = .ok (.goto 4, 3) := by decide +kernel
theorem dX8_isNext_19 : decode cX8_isNext 19 = .ok (.iconst 0, 1) := by decide +kernel
theorem dX8_isNext_20 : decode cX8_isNext 20 = .ok (.istore_n 2, 1) := by decide +kernel
theorem dX8_isNext_21 : decode cX8_isNext 21 = .ok (.iload_n 2, 1) := by decide +kernel
theorem dX8_isNext_22 : decode cX8_isNext 22 = .ok (.ifCond .eq 8, 3) := by decide +kernel
theorem dX8_isNext_25 : decode cX8_isNext 25 = .ok (.aload_n 0, 1) := by decide +kernel
theorem dX8_isNext_26 : decode cX8_isNext 26 = .ok (.iconst 1, 1) := by decide +kernel
theorem dX8_isNext_27 : decode cX8_isNext 27 = .ok (.invokevirtual 283, 3) := by decide +kernel
theorem dX8_isNext_30 : decode cX8_isNext 30 = .ok (.iload_n 2, 1) := by decide +kernel
theorem dX8_isNext_31 : decode cX8_isNext 31 = .ok (.ireturn, 1) := by decide +kernel
theorem dX8_readItem_0 : decode cX8_readItem 0 = .ok (.aload_n 0, 1) := by decide +kernel
theorem dX8_readItem_1 : decode cX8_readItem 1 = .ok (.invokevirtual 294, 3) := by decide +kernel
theorem dX8_readItem_4 : decode cX8_readItem 4 = .ok (.istore_n 1, 1) := by decide +kernel
theorem dX8_readItem_5 : decode cX8_readItem 5 = .ok (.iload_n 1, 1) := by decide +kernel
theorem dX8_readItem_6 : decode cX8_readItem 6 = .ok (.ifCond .lt 107, 3) := by decide +kernel
theorem dX8_readItem_9 : decode cX8_readItem 9 = .ok (.aload_n 0, 1) := by decide +kernel
theorem dX8_readItem_10 : decode cX8_readItem 10 = .ok (.aload_n 0, 1) := by decide +kernel
theorem dX8_readItem_11 : decode cX8_readItem 11 = .ok (.getfield 297, 3) := by decide +kernel
theorem dX8_readItem_14 : decode cX8_readItem 14 = .ok (.bipush 10, 2) := by decide +kernel
theorem dX8_readItem_16 : decode cX8_readItem 16 = .ok (.if_icmp .ge 7, 3) := by decide +kernel
theorem dX8_readItem_19 : decode cX8_readItem 19 = .ok (.iconst 1, 1) := by decide +kernel
theorem dX8_readItem_20 : decode cX8_readItem 20 = .ok (.goto 4, 3) := by decide +kernel
theorem dX8_readItem_23 : decode cX8_readItem 23 = .ok (.iconst 0, 1) := by decide +kernel
theorem dX8_readItem_24 : decode cX8_readItem 24 = .ok (.invokevirtual 283, 3) := by decide +kernel
theorem dX8_readItem_27 : decode cX8_readItem 27 = .ok (.aload_n 0, 1) := by decide +kernel
theorem dX8_readItem_28 : decode cX8_readItem 28 = .ok (.dup, 1) := by decide +kernel
theorem dX8_readItem_29 : decode cX8_readItem 29 = .ok (.getfield 297, 3) := by decide +kernel
theorem dX8_readItem_32 : decode cX8_readItem 32 = .ok (.iconst 1, 1) := by decide +kernel
theorem dX8_readItem_33 : decode cX8_readItem 33 = .ok (.iadd, 1) := by decide +kernel
theorem dX8_readItem_34 : decode cX8_readItem 34 = .ok (.putfield 297, 3) := by decide +kernel
theorem dX8_readItem_37 : decode cX8_readItem 37 = .ok (.aload_n 0, 1) := by decide +kernel
theorem dX8_readItem_38 : decode cX8_readItem 38 = .ok (.ldc_w 300, 3) := by decide +kernel
theorem dX8_readItem_41 : decode cX8_readItem 41 = .ok (.invokevirtual 302, 3) := by decide +kernel
theorem dX8_readItem_44 : decode cX8_readItem 44 = .ok (.ifCond .eq 14, 3) := by decide +kernel
theorem dX8_readItem_47 : decode cX8_readItem 47 = .ok (.aload_n 0, 1) := by decide +kernel
theorem dX8_readItem_48 : decode cX8_readItem 48 = .ok (.iconst 0, 1) := by decide +kernel
theorem dX8_readItem_49 : decode cX8_readItem 49 = .ok (.sipush 255, 3) := by decide +kernel
theorem dX8_readItem_52 : decode cX8_readItem 52 = .ok (.invokevirtual 305, 3) := by decide +kernel
theorem dX8_readItem_55 : decode cX8_readItem 55 = .ok (.goto 4, 3) := by decide +kernel
theorem dX8_readItem_58 : decode cX8_readItem 58 = .ok (.iconst 0, 1) := by decide +kernel
theorem dX8_readItem_59 : decode cX8_readItem 59 = .ok (.istore_n 2, 1) := by decide +kernel
theorem dX8_readItem_60 : decode cX8_readItem 60 = .ok (.aload_n 0, 1) := by decide +kernel
theorem dX8_readItem_61 : decode cX8_readItem 61 = .ok (.ldc_w 308, 3) := by decide +kernel
theorem dX8_readItem_64 : decode cX8_readItem 64 = .ok (.invokevirtual 302, 3) := by decide +kernel
theorem dX8_readItem_67 : decode cX8_readItem 67 = .ok (.ifCond .eq 13, 3) := by decide +kernel
theorem dX8_readItem_70 : decode cX8_readItem 70 = .ok (.aload_n 0, 1) := by decide +kernel
theorem dX8_readItem_71 : decode cX8_readItem 71 = .ok (.iconst 1, 1) := by decide +kernel
theorem dX8_readItem_72 : decode cX8_readItem 72 = .ok (.bipush 60, 2) := by decide +kernel
theorem dX8_readItem_74 : decode cX8_readItem 74 = .ok (.invokevirtual 305, 3) := by decide +kernel
theorem dX8_readItem_77 : decode cX8_readItem 77 = .ok (.goto 5, 3) := by decide +kernel
theorem dX8_readItem_80 : decode cX8_readItem 80 = .ok (.bipush 10, 2) := by decide +kernel
theorem dX8_readItem_82 : decode cX8_readItem 82 = .ok (.istore_n 3, 1) := by decide +kernel
theorem dX8_readItem_83 : decode cX8_readItem 83 = .ok (.aload_n 0, 1) := by decide +kernel
theorem dX8_readItem_84 : decode cX8_readItem 84 = .ok (.iload_n 1, 1) := by decide +kernel
theorem dX8_readItem_85 : decode cX8_readItem 85 = .ok (.iload_n 2, 1) := by decide +kernel
theorem dX8_readItem_86 : decode cX8_readItem 86 = .ok (.iload_n 3, 1) := by decide +kernel
theorem dX8_readItem_87 : decode cX8_readItem 87 = .ok (.aload_n 0, 1) := by decide +kernel
theorem dX8_readItem_88 : decode cX8_readItem 88 = .ok (.ldc_w 310, 3) := by decide +kernel
theorem dX8_readItem_91 : decode cX8_readItem 91 = .ok (.invokevirtual 302, 3) := by decide +kernel
theorem dX8_readItem_94 : decode cX8_readItem 94 = .ok (.ifCond .eq 12, 3) := by decide +kernel
theorem dX8_readItem_97 : decode cX8_readItem 97 = .ok (.aload_n 0, 1) := by decide +kernel
theorem dX8_readItem_98 : decode cX8_readItem 98 = .ok (.iconst 0, 1) := by decide +kernel
theorem dX8_readItem_99 : decode cX8_readItem 99 = .ok (.iconst 5, 1) := by decide +kernel
theorem dX8_readItem_100 : decode cX8_readItem 100 = .ok (.invokevirtual 305, 3) := by decide +kernel
theorem dX8_readItem_103 : decode cX8_readItem 103 = .ok (.goto 4, 3) := by decide +kernel
theorem dX8_readItem_106 : decode cX8_readItem 106 = .ok (.iconst (-1), 1) := by decide +kernel
theorem dX8_readItem_107 : decode cX8_readItem 107 = .ok (.invokevirtual 312, 3) := by decide +kernel
theorem dX8_readItem_110 : decode cX8_readItem 110 = .ok (.goto 132, 3) := by decide +kernel
theorem dX8_readItem_113 : decode cX8_readItem 113 = .ok (.aload_n 0, 1) := by decide +kernel
theorem dX8_readItem_114 : decode cX8_readItem 114 = .ok (.ldc_w 316, 3) := by decide +kernel
theorem dX8_readItem_117 : decode cX8_readItem 117 = .ok (.invokevirtual 302, 3) := by decide +kernel
theorem dX8_readItem_120 : decode cX8_readItem 120 = .ok (.ifCond .eq 62, 3) := by decide +kernel
theorem dX8_readItem_123 : decode cX8_readItem 123 = .ok (.aload_n 0, 1) := by decide +kernel
theorem dX8_readItem_124 : decode cX8_readItem 124 = .ok (.iconst 0, 1) := by decide +kernel
theorem dX8_readItem_125 : decode cX8_readItem 125 = .ok (.iconst 5, 1) := by decide +kernel
theorem dX8_readItem_126 : decode cX8_readItem 126 = .ok (.invokevirtual 305, 3) := by decide +kernel
theorem dX8_readItem_129 : decode cX8_readItem 129 = .ok (.istore_n 2, 1) := by decide +kernel
theorem dX8_readItem_130 : decode cX8_readItem 130 = .ok (.aload_n 0, 1) := by decide +kernel
theorem dX8_readItem_131 : decode cX8_readItem 131 = .ok (.aload_n 0, 1) := by decide +kernel
theorem dX8_readItem_132 : decode cX8_readItem 132 = .ok (.ldc_w 300, 3) := by decide +kernel
theorem dX8_readItem_135 : decode cX8_readItem 135 = .ok (.invokevirtual 290, 3) := by decide +kernel
theorem dX8_readItem_138 : decode cX8_readItem 138 = .ok (.invokevirtual 283, 3) := by decide +kernel
theorem dX8_readItem_141 : decode cX8_readItem 141 = .ok (.aload_n 0, 1) := by decide +kernel
theorem dX8_readItem_142 : decode cX8_readItem 142 = .ok (.iconst 0, 1) := by decide +kernel
theorem dX8_readItem_143 : decode cX8_readItem 143 = .ok (.sipush 255, 3) := by decide +kernel
theorem dX8_readItem_146 : decode cX8_readItem 146 = .ok (.invokevirtual 305, 3) := by decide +kernel
theorem dX8_readItem_149 : decode cX8_readItem 149 = .ok (.istore_n 3, 1) := by decide +kernel
theorem dX8_readItem_150 : decode cX8_readItem 150 = .ok (.aload_n 0, 1) := by decide +kernel
theorem dX8_readItem_151 : decode cX8_readItem 151 = .ok (.bipush 10, 2) := by decide +kernel
theorem dX8_readItem_153 : decode cX8_readItem 153 = .ok (.iload_n 2, 1) := by decide +kernel
theorem dX8_readItem_154 : decode cX8_readItem 154 = .ok (.iload_n 3, 1) := by decide +kernel
theorem dX8_readItem_155 : decode cX8_readItem 155 = .ok (.aload_n 0, 1) := by decide +kernel
theorem dX8_readItem_156 : decode cX8_readItem 156 = .ok (.ldc_w 318, 3) := by decide +kernel
theorem dX8_readItem_159 : decode cX8_readItem 159 = .ok (.invokevirtual 302, 3) := by decide +kernel
theorem dX8_readItem_162 : decode cX8_readItem 162 = .ok (.ifCond .eq 13, 3) := by decide +kernel
theorem dX8_readItem_165 : decode cX8_readItem 165 = .ok (.aload_n 0, 1) := by decide +kernel
theorem dX8_readItem_166 : decode cX8_readItem 166 = .ok (.iconst 0, 1) := by decide +kernel
theorem dX8_readItem_167 : decode cX8_readItem 167 = .ok (.bipush 99, 2) := by decide +kernel
theorem dX8_readItem_169 : decode cX8_readItem 169 = .ok (.invokevirtual 305, 3) := by decide +kernel
theorem dX8_readItem_172 : decode cX8_readItem 172 = .ok (.goto 4, 3) := by decide +kernel
theorem dX8_readItem_175 : decode cX8_readItem 175 = .ok (.iconst (-1), 1) := by decide +kernel
theorem dX8_readItem_176 : decode cX8_readItem 176 = .ok (.invokevirtual 312, 3) := by decide +kernel
theorem dX8_readItem_179 : decode cX8_readItem 179 = .ok (.goto 63, 3) := by decide +kernel
theorem dX8_readItem_182 : decode cX8_readItem 182 = .ok (.aload_n 0, 1) := by decide +kernel
theorem dX8_readItem_183 : decode cX8_readItem 183 = .ok (.ldc_w 320, 3) := by decide +kernel
theorem dX8_readItem_186 : decode cX8_readItem 186 = .ok (.invokevirtual 302, 3) := by decide +kernel
theorem dX8_readItem_189 : decode cX8_readItem 189 = .ok (.ifCond .eq 27, 3) := by decide +kernel
theorem dX8_readItem_192 : decode cX8_readItem 192 = .ok (.aload_n 0, 1) := by decide +kernel
theorem dX8_readItem_193 : decode cX8_readItem 193 = .ok (.iconst 0, 1) := by decide +kernel
theorem dX8_readItem_194 : decode cX8_readItem 194 = .ok (.iconst 5, 1) := by decide +kernel
theorem dX8_readItem_195 : decode cX8_readItem 195 = .ok (.invokevirtual 305, 3) := by decide +kernel
theorem dX8_readItem_198 : decode cX8_readItem 198 = .ok (.istore_n 2, 1) := by decide +kernel
theorem dX8_readItem_199 : decode cX8_readItem 199 = .ok (.aload_n 0, 1) := by decide +kernel
theorem dX8_readItem_200 : decode cX8_readItem 200 = .ok (.bipush 11, 2) := by decide +kernel
theorem dX8_readItem_202 : decode cX8_readItem 202 = .ok (.iload_n 2, 1) := by decide +kernel
theorem dX8_readItem_203 : decode cX8_readItem 203 = .ok (.aload_n 0, 1) := by decide +kernel
theorem dX8_readItem_204 : decode cX8_readItem 204 = .ok (.iconst 0, 1) := by decide +kernel
theorem dX8_readItem_205 : decode cX8_readItem 205 = .ok (.iconst 5, 1) := by decide +kernel
theorem dX8_readItem_206 : decode cX8_readItem 206 = .ok (.invokevirtual 305, 3) := by decide +kernel
theorem dX8_readItem_209 : decode cX8_readItem 209 = .ok (.iconst 0, 1) := by decide +kernel
theorem dX8_readItem_210 : decode cX8_readItem 210 = .ok (.invokevirtual 312, 3) := by decide +kernel
theorem dX8_readItem_213 : decode cX8_readItem 213 = .ok (.goto 29, 3) := by decide +kernel
theorem dX8_readItem_216 : decode cX8_readItem 216 = .ok (.aload_n 0, 1) := by decide +kernel
theorem dX8_readItem_217 : decode cX8_readItem 217 = .ok (.aload_n 0, 1) := by decide +kernel
theorem dX8_readItem_218 : decode cX8_readItem 218 = .ok (.ldc_w 322, 3) := by decide +kernel
theorem dX8_readItem_221 : decode cX8_readItem 221 = .ok (.invokevirtual 290, 3) := by decide +kernel
theorem dX8_readItem_224 : decode cX8_readItem 224 = .ok (.invokevirtual 283, 3) := by decide +kernel
theorem dX8_readItem_227 : decode cX8_readItem 227 = .ok (.aload_n 0, 1) := by decide +kernel
theorem dX8_readItem_228 : decode cX8_readItem 228 = .ok (.bipush 12, 2) := by decide +kernel
theorem dX8_readItem_230 : decode cX8_readItem 230 = .ok (.aload_n 0, 1) := by decide +kernel
theorem dX8_readItem_231 : decode cX8_readItem 231 = .ok (.iconst 1, 1) := by decide +kernel
theorem dX8_readItem_232 : decode cX8_readItem 232 = .ok (.bipush 20, 2) := by decide +kernel
theorem dX8_readItem_234 : decode cX8_readItem 234 = .ok (.invokevirtual 305, 3) := by decide +kernel
theorem dX8_readItem_237 : decode cX8_readItem 237 = .ok (.iconst 0, 1) := by decide +kernel
theorem dX8_readItem_238 : decode cX8_readItem 238 = .ok (.iconst 0, 1) := by decide +kernel
theorem dX8_readItem_239 : decode cX8_readItem 239 = .ok (.invokevirtual 312, 3) := by decide +kernel
theorem dX8_readItem_242 : decode cX8_readItem 242 = .ok (.return_, 1) := by decide +kernel
