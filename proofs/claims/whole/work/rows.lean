section
-- ===== PART A: goes FIRST, ahead of the names: the tables' words, and 'selects' of the private methods out of them =====
/-- a private method of a class that the tables say can be made, by its rows of tables_1 -/
def lw_okq (q : MethodName × Nat) : Prop := (q.1.cls ≠ "java/lang/invoke/MethodHandle" ∧ q.1.cls ≠ "java/lang/invoke/VarHandle") ∧ Cond.instantiable q.1.cls q.2 ∈ tables_1 ∧ Cond.privateMethod q.1 ∈ tables_1 ∧ Cond.instanceMethod q.1 ∈ tables_1
theorem lw_p0 : lw_okq (⟨"SameHeads", "finding", "(I)I"⟩, 10) := ⟨⟨by decide +kernel, by decide +kernel⟩, List.mem_of_getElem? (i := 19) (by decide +kernel), List.mem_of_getElem? (i := 250) (by decide +kernel), List.mem_of_getElem? (i := 251) (by decide +kernel)⟩
theorem lw_p1 : lw_okq (⟨"SameHeads$Givings", "survey", "(LSameHeads$House;)V"⟩, 4) := ⟨⟨by decide +kernel, by decide +kernel⟩, List.mem_of_getElem? (i := 109) (by decide +kernel), List.mem_of_getElem? (i := 438) (by decide +kernel), List.mem_of_getElem? (i := 439) (by decide +kernel)⟩
theorem lw_p2 : lw_okq (⟨"SameHeads$Givings", "fill", "(II)I"⟩, 4) := ⟨⟨by decide +kernel, by decide +kernel⟩, List.mem_of_getElem? (i := 109) (by decide +kernel), List.mem_of_getElem? (i := 457) (by decide +kernel), List.mem_of_getElem? (i := 458) (by decide +kernel)⟩
theorem lw_p3 : lw_okq (⟨"SameHeads$Givings", "offer", "(II)V"⟩, 4) := ⟨⟨by decide +kernel, by decide +kernel⟩, List.mem_of_getElem? (i := 109) (by decide +kernel), List.mem_of_getElem? (i := 462) (by decide +kernel), List.mem_of_getElem? (i := 463) (by decide +kernel)⟩
theorem lw_p4 : lw_okq (⟨"SameHeads$Givings", "worthIn", "(II)I"⟩, 4) := ⟨⟨by decide +kernel, by decide +kernel⟩, List.mem_of_getElem? (i := 109) (by decide +kernel), List.mem_of_getElem? (i := 466) (by decide +kernel), List.mem_of_getElem? (i := 467) (by decide +kernel)⟩
theorem lw_p5 : lw_okq (⟨"SameHeads$Givings", "firstHead", "(II)I"⟩, 4) := ⟨⟨by decide +kernel, by decide +kernel⟩, List.mem_of_getElem? (i := 109) (by decide +kernel), List.mem_of_getElem? (i := 479) (by decide +kernel), List.mem_of_getElem? (i := 480) (by decide +kernel)⟩
theorem lw_p6 : lw_okq (⟨"SameHeads$Givings", "worthWith", "(LSameHeads$House;II)I"⟩, 4) := ⟨⟨by decide +kernel, by decide +kernel⟩, List.mem_of_getElem? (i := 109) (by decide +kernel), List.mem_of_getElem? (i := 518) (by decide +kernel), List.mem_of_getElem? (i := 519) (by decide +kernel)⟩
theorem lw_p7 : lw_okq (⟨"SameHeads$Tellings", "survey", "(LSameHeads$House;LSameHeads$Sheet;)V"⟩, 2) := ⟨⟨by decide +kernel, by decide +kernel⟩, List.mem_of_getElem? (i := 128) (by decide +kernel), List.mem_of_getElem? (i := 606) (by decide +kernel), List.mem_of_getElem? (i := 607) (by decide +kernel)⟩
theorem lw_p8 : lw_okq (⟨"SameHeads$Tellings", "waysFor", "(II)I"⟩, 2) := ⟨⟨by decide +kernel, by decide +kernel⟩, List.mem_of_getElem? (i := 128) (by decide +kernel), List.mem_of_getElem? (i := 617) (by decide +kernel), List.mem_of_getElem? (i := 618) (by decide +kernel)⟩
theorem lw_p9 : lw_okq (⟨"SameHeads$Tellings", "offer", "(II)V"⟩, 2) := ⟨⟨by decide +kernel, by decide +kernel⟩, List.mem_of_getElem? (i := 128) (by decide +kernel), List.mem_of_getElem? (i := 621) (by decide +kernel), List.mem_of_getElem? (i := 622) (by decide +kernel)⟩
theorem lw_p10 : lw_okq (⟨"SameHeads$Reader", "cut", "()V"⟩, 7) := ⟨⟨by decide +kernel, by decide +kernel⟩, List.mem_of_getElem? (i := 158) (by decide +kernel), List.mem_of_getElem? (i := 686) (by decide +kernel), List.mem_of_getElem? (i := 687) (by decide +kernel)⟩
theorem lw_p11 : lw_okq (⟨"SameHeads$Reader", "begin", "(II)V"⟩, 7) := ⟨⟨by decide +kernel, by decide +kernel⟩, List.mem_of_getElem? (i := 158) (by decide +kernel), List.mem_of_getElem? (i := 693) (by decide +kernel), List.mem_of_getElem? (i := 694) (by decide +kernel)⟩
theorem lw_p12 : lw_okq (⟨"SameHeads$Reader", "lengthen", "(II)V"⟩, 7) := ⟨⟨by decide +kernel, by decide +kernel⟩, List.mem_of_getElem? (i := 158) (by decide +kernel), List.mem_of_getElem? (i := 697) (by decide +kernel), List.mem_of_getElem? (i := 698) (by decide +kernel)⟩
theorem lw_p13 : lw_okq (⟨"SameHeads$Reader", "readItem", "()Z"⟩, 7) := ⟨⟨by decide +kernel, by decide +kernel⟩, List.mem_of_getElem? (i := 158) (by decide +kernel), List.mem_of_getElem? (i := 702) (by decide +kernel), List.mem_of_getElem? (i := 703) (by decide +kernel)⟩
theorem lw_p14 : lw_okq (⟨"SameHeads$Reader", "takes", "(Ljava/lang/String;)Z"⟩, 7) := ⟨⟨by decide +kernel, by decide +kernel⟩, List.mem_of_getElem? (i := 158) (by decide +kernel), List.mem_of_getElem? (i := 716) (by decide +kernel), List.mem_of_getElem? (i := 717) (by decide +kernel)⟩
theorem lw_p15 : lw_okq (⟨"SameHeads$Reader", "readPart", "(I)Z"⟩, 7) := ⟨⟨by decide +kernel, by decide +kernel⟩, List.mem_of_getElem? (i := 158) (by decide +kernel), List.mem_of_getElem? (i := 768) (by decide +kernel), List.mem_of_getElem? (i := 769) (by decide +kernel)⟩
def lw_privs_1 : List (MethodName × Nat) := [(⟨"SameHeads", "finding", "(I)I"⟩, 10), (⟨"SameHeads$Givings", "survey", "(LSameHeads$House;)V"⟩, 4), (⟨"SameHeads$Givings", "fill", "(II)I"⟩, 4), (⟨"SameHeads$Givings", "offer", "(II)V"⟩, 4), (⟨"SameHeads$Givings", "worthIn", "(II)I"⟩, 4), (⟨"SameHeads$Givings", "firstHead", "(II)I"⟩, 4), (⟨"SameHeads$Givings", "worthWith", "(LSameHeads$House;II)I"⟩, 4), (⟨"SameHeads$Tellings", "survey", "(LSameHeads$House;LSameHeads$Sheet;)V"⟩, 2), (⟨"SameHeads$Tellings", "waysFor", "(II)I"⟩, 2), (⟨"SameHeads$Tellings", "offer", "(II)V"⟩, 2), (⟨"SameHeads$Reader", "cut", "()V"⟩, 7), (⟨"SameHeads$Reader", "begin", "(II)V"⟩, 7), (⟨"SameHeads$Reader", "lengthen", "(II)V"⟩, 7), (⟨"SameHeads$Reader", "readItem", "()Z"⟩, 7), (⟨"SameHeads$Reader", "takes", "(Ljava/lang/String;)Z"⟩, 7), (⟨"SameHeads$Reader", "readPart", "(I)Z"⟩, 7)]
theorem lw_r1 : ∀ q ∈ lw_privs_1, lw_okq q := List.forall_mem_cons.mpr ⟨lw_p0, List.forall_mem_cons.mpr ⟨lw_p1, List.forall_mem_cons.mpr ⟨lw_p2, List.forall_mem_cons.mpr ⟨lw_p3, List.forall_mem_cons.mpr ⟨lw_p4, List.forall_mem_cons.mpr ⟨lw_p5, List.forall_mem_cons.mpr ⟨lw_p6, List.forall_mem_cons.mpr ⟨lw_p7, List.forall_mem_cons.mpr ⟨lw_p8, List.forall_mem_cons.mpr ⟨lw_p9, List.forall_mem_cons.mpr ⟨lw_p10, List.forall_mem_cons.mpr ⟨lw_p11, List.forall_mem_cons.mpr ⟨lw_p12, List.forall_mem_cons.mpr ⟨lw_p13, List.forall_mem_cons.mpr ⟨lw_p14, List.forall_mem_cons.mpr ⟨lw_p15, fun _ h => absurd h List.not_mem_nil⟩⟩⟩⟩⟩⟩⟩⟩⟩⟩⟩⟩⟩⟩⟩⟩
theorem lw_p16 : lw_okq (⟨"SameHeads$Reader", "mayTell", "(Ljava/lang/String;[IIII)Z"⟩, 7) := ⟨⟨by decide +kernel, by decide +kernel⟩, List.mem_of_getElem? (i := 158) (by decide +kernel), List.mem_of_getElem? (i := 774) (by decide +kernel), List.mem_of_getElem? (i := 775) (by decide +kernel)⟩
theorem lw_p17 : lw_okq (⟨"SameHeads$Reader", "tells", "([IIII)Z"⟩, 7) := ⟨⟨by decide +kernel, by decide +kernel⟩, List.mem_of_getElem? (i := 158) (by decide +kernel), List.mem_of_getElem? (i := 778) (by decide +kernel), List.mem_of_getElem? (i := 779) (by decide +kernel)⟩
theorem lw_p18 : lw_okq (⟨"SameHeads$Reader", "takeNumber", "(II)I"⟩, 7) := ⟨⟨by decide +kernel, by decide +kernel⟩, List.mem_of_getElem? (i := 158) (by decide +kernel), List.mem_of_getElem? (i := 782) (by decide +kernel), List.mem_of_getElem? (i := 783) (by decide +kernel)⟩
theorem lw_p19 : lw_okq (⟨"SameHeads$Reader", "readFace", "()Z"⟩, 7) := ⟨⟨by decide +kernel, by decide +kernel⟩, List.mem_of_getElem? (i := 158) (by decide +kernel), List.mem_of_getElem? (i := 789) (by decide +kernel), List.mem_of_getElem? (i := 790) (by decide +kernel)⟩
theorem lw_p20 : lw_okq (⟨"SameHeads$Reader", "readShow", "()Z"⟩, 7) := ⟨⟨by decide +kernel, by decide +kernel⟩, List.mem_of_getElem? (i := 158) (by decide +kernel), List.mem_of_getElem? (i := 796) (by decide +kernel), List.mem_of_getElem? (i := 797) (by decide +kernel)⟩
theorem lw_p21 : lw_okq (⟨"SameHeads$Reader", "readPace", "()Z"⟩, 7) := ⟨⟨by decide +kernel, by decide +kernel⟩, List.mem_of_getElem? (i := 158) (by decide +kernel), List.mem_of_getElem? (i := 802) (by decide +kernel), List.mem_of_getElem? (i := 803) (by decide +kernel)⟩
theorem lw_p22 : lw_okq (⟨"SameHeadsModel", "finding", "(I)I"⟩, 24) := ⟨⟨by decide +kernel, by decide +kernel⟩, List.mem_of_getElem? (i := 883) (by decide +kernel), List.mem_of_getElem? (i := 982) (by decide +kernel), List.mem_of_getElem? (i := 983) (by decide +kernel)⟩
theorem lw_p23 : lw_okq (⟨"SameHeadsModel", "comes", "(IIII)I"⟩, 24) := ⟨⟨by decide +kernel, by decide +kernel⟩, List.mem_of_getElem? (i := 883) (by decide +kernel), List.mem_of_getElem? (i := 987) (by decide +kernel), List.mem_of_getElem? (i := 988) (by decide +kernel)⟩
theorem lw_p24 : lw_okq (⟨"SameHeadsModel", "isPart", "(I)Z"⟩, 24) := ⟨⟨by decide +kernel, by decide +kernel⟩, List.mem_of_getElem? (i := 883) (by decide +kernel), List.mem_of_getElem? (i := 998) (by decide +kernel), List.mem_of_getElem? (i := 999) (by decide +kernel)⟩
theorem lw_p25 : lw_okq (⟨"SameHeadsModel", "partIs", "(II)I"⟩, 24) := ⟨⟨by decide +kernel, by decide +kernel⟩, List.mem_of_getElem? (i := 883) (by decide +kernel), List.mem_of_getElem? (i := 1002) (by decide +kernel), List.mem_of_getElem? (i := 1003) (by decide +kernel)⟩
theorem lw_p26 : lw_okq (⟨"SameHeadsModel", "become", "(II)I"⟩, 24) := ⟨⟨by decide +kernel, by decide +kernel⟩, List.mem_of_getElem? (i := 883) (by decide +kernel), List.mem_of_getElem? (i := 1016) (by decide +kernel), List.mem_of_getElem? (i := 1017) (by decide +kernel)⟩
theorem lw_p27 : lw_okq (⟨"SameHeadsModel", "partsAt", "(I)I"⟩, 24) := ⟨⟨by decide +kernel, by decide +kernel⟩, List.mem_of_getElem? (i := 883) (by decide +kernel), List.mem_of_getElem? (i := 1042) (by decide +kernel), List.mem_of_getElem? (i := 1043) (by decide +kernel)⟩
theorem lw_p28 : lw_okq (⟨"SameHeadsModel", "likeness", "(I)I"⟩, 24) := ⟨⟨by decide +kernel, by decide +kernel⟩, List.mem_of_getElem? (i := 883) (by decide +kernel), List.mem_of_getElem? (i := 1046) (by decide +kernel), List.mem_of_getElem? (i := 1047) (by decide +kernel)⟩
theorem lw_p29 : lw_okq (⟨"SameHeadsModel", "likeTo", "(II)I"⟩, 24) := ⟨⟨by decide +kernel, by decide +kernel⟩, List.mem_of_getElem? (i := 883) (by decide +kernel), List.mem_of_getElem? (i := 1050) (by decide +kernel), List.mem_of_getElem? (i := 1051) (by decide +kernel)⟩
theorem lw_p30 : lw_okq (⟨"SameHeadsModel", "visitorsIn", "(I)I"⟩, 24) := ⟨⟨by decide +kernel, by decide +kernel⟩, List.mem_of_getElem? (i := 883) (by decide +kernel), List.mem_of_getElem? (i := 1064) (by decide +kernel), List.mem_of_getElem? (i := 1065) (by decide +kernel)⟩
theorem lw_p31 : lw_okq (⟨"SameHeadsModel", "roomOf", "(I)I"⟩, 24) := ⟨⟨by decide +kernel, by decide +kernel⟩, List.mem_of_getElem? (i := 883) (by decide +kernel), List.mem_of_getElem? (i := 1068) (by decide +kernel), List.mem_of_getElem? (i := 1069) (by decide +kernel)⟩
def lw_privs_2 : List (MethodName × Nat) := [(⟨"SameHeads$Reader", "mayTell", "(Ljava/lang/String;[IIII)Z"⟩, 7), (⟨"SameHeads$Reader", "tells", "([IIII)Z"⟩, 7), (⟨"SameHeads$Reader", "takeNumber", "(II)I"⟩, 7), (⟨"SameHeads$Reader", "readFace", "()Z"⟩, 7), (⟨"SameHeads$Reader", "readShow", "()Z"⟩, 7), (⟨"SameHeads$Reader", "readPace", "()Z"⟩, 7), (⟨"SameHeadsModel", "finding", "(I)I"⟩, 24), (⟨"SameHeadsModel", "comes", "(IIII)I"⟩, 24), (⟨"SameHeadsModel", "isPart", "(I)Z"⟩, 24), (⟨"SameHeadsModel", "partIs", "(II)I"⟩, 24), (⟨"SameHeadsModel", "become", "(II)I"⟩, 24), (⟨"SameHeadsModel", "partsAt", "(I)I"⟩, 24), (⟨"SameHeadsModel", "likeness", "(I)I"⟩, 24), (⟨"SameHeadsModel", "likeTo", "(II)I"⟩, 24), (⟨"SameHeadsModel", "visitorsIn", "(I)I"⟩, 24), (⟨"SameHeadsModel", "roomOf", "(I)I"⟩, 24)]
theorem lw_r2 : ∀ q ∈ lw_privs_2, lw_okq q := List.forall_mem_cons.mpr ⟨lw_p16, List.forall_mem_cons.mpr ⟨lw_p17, List.forall_mem_cons.mpr ⟨lw_p18, List.forall_mem_cons.mpr ⟨lw_p19, List.forall_mem_cons.mpr ⟨lw_p20, List.forall_mem_cons.mpr ⟨lw_p21, List.forall_mem_cons.mpr ⟨lw_p22, List.forall_mem_cons.mpr ⟨lw_p23, List.forall_mem_cons.mpr ⟨lw_p24, List.forall_mem_cons.mpr ⟨lw_p25, List.forall_mem_cons.mpr ⟨lw_p26, List.forall_mem_cons.mpr ⟨lw_p27, List.forall_mem_cons.mpr ⟨lw_p28, List.forall_mem_cons.mpr ⟨lw_p29, List.forall_mem_cons.mpr ⟨lw_p30, List.forall_mem_cons.mpr ⟨lw_p31, fun _ h => absurd h List.not_mem_nil⟩⟩⟩⟩⟩⟩⟩⟩⟩⟩⟩⟩⟩⟩⟩⟩
theorem lw_p32 : lw_okq (⟨"SameHeadsModel", "carryOf", "(II)I"⟩, 24) := ⟨⟨by decide +kernel, by decide +kernel⟩, List.mem_of_getElem? (i := 883) (by decide +kernel), List.mem_of_getElem? (i := 1081) (by decide +kernel), List.mem_of_getElem? (i := 1082) (by decide +kernel)⟩
theorem lw_p33 : lw_okq (⟨"SameHeadsModel", "comesIn", "()I"⟩, 24) := ⟨⟨by decide +kernel, by decide +kernel⟩, List.mem_of_getElem? (i := 883) (by decide +kernel), List.mem_of_getElem? (i := 1090) (by decide +kernel), List.mem_of_getElem? (i := 1091) (by decide +kernel)⟩
theorem lw_p34 : lw_okq (⟨"SameHeadsModel", "seenIn", "(II)I"⟩, 24) := ⟨⟨by decide +kernel, by decide +kernel⟩, List.mem_of_getElem? (i := 883) (by decide +kernel), List.mem_of_getElem? (i := 1098) (by decide +kernel), List.mem_of_getElem? (i := 1099) (by decide +kernel)⟩
theorem lw_p35 : lw_okq (⟨"SameHeadsModel", "moves", "(II)V"⟩, 24) := ⟨⟨by decide +kernel, by decide +kernel⟩, List.mem_of_getElem? (i := 883) (by decide +kernel), List.mem_of_getElem? (i := 1106) (by decide +kernel), List.mem_of_getElem? (i := 1107) (by decide +kernel)⟩
theorem lw_p36 : lw_okq (⟨"SameHeadsModel", "minutes", "(I)V"⟩, 24) := ⟨⟨by decide +kernel, by decide +kernel⟩, List.mem_of_getElem? (i := 883) (by decide +kernel), List.mem_of_getElem? (i := 1110) (by decide +kernel), List.mem_of_getElem? (i := 1111) (by decide +kernel)⟩
theorem lw_p37 : lw_okq (⟨"SameHeadsModel", "minute", "()V"⟩, 24) := ⟨⟨by decide +kernel, by decide +kernel⟩, List.mem_of_getElem? (i := 883) (by decide +kernel), List.mem_of_getElem? (i := 1114) (by decide +kernel), List.mem_of_getElem? (i := 1115) (by decide +kernel)⟩
theorem lw_p38 : lw_okq (⟨"SameHeadsModel", "seenTwice", "()I"⟩, 24) := ⟨⟨by decide +kernel, by decide +kernel⟩, List.mem_of_getElem? (i := 883) (by decide +kernel), List.mem_of_getElem? (i := 1122) (by decide +kernel), List.mem_of_getElem? (i := 1123) (by decide +kernel)⟩
theorem lw_p39 : lw_okq (⟨"SameHeadsModel", "allThere", "()I"⟩, 24) := ⟨⟨by decide +kernel, by decide +kernel⟩, List.mem_of_getElem? (i := 883) (by decide +kernel), List.mem_of_getElem? (i := 1130) (by decide +kernel), List.mem_of_getElem? (i := 1131) (by decide +kernel)⟩
theorem lw_p40 : lw_okq (⟨"SameHeadsModel", "findMost", "(I)I"⟩, 24) := ⟨⟨by decide +kernel, by decide +kernel⟩, List.mem_of_getElem? (i := 883) (by decide +kernel), List.mem_of_getElem? (i := 1138) (by decide +kernel), List.mem_of_getElem? (i := 1139) (by decide +kernel)⟩
theorem lw_p41 : lw_okq (⟨"SameHeadsModel", "noHeads", "()I"⟩, 24) := ⟨⟨by decide +kernel, by decide +kernel⟩, List.mem_of_getElem? (i := 883) (by decide +kernel), List.mem_of_getElem? (i := 1142) (by decide +kernel), List.mem_of_getElem? (i := 1143) (by decide +kernel)⟩
theorem lw_p42 : lw_okq (⟨"SameHeadsModel", "isHead", "(I)Z"⟩, 24) := ⟨⟨by decide +kernel, by decide +kernel⟩, List.mem_of_getElem? (i := 883) (by decide +kernel), List.mem_of_getElem? (i := 1146) (by decide +kernel), List.mem_of_getElem? (i := 1147) (by decide +kernel)⟩
theorem lw_p43 : lw_okq (⟨"SameHeadsModel", "worthAt", "(II)I"⟩, 24) := ⟨⟨by decide +kernel, by decide +kernel⟩, List.mem_of_getElem? (i := 883) (by decide +kernel), List.mem_of_getElem? (i := 1156) (by decide +kernel), List.mem_of_getElem? (i := 1157) (by decide +kernel)⟩
theorem lw_p44 : lw_okq (⟨"SameHeadsModel", "mayGive", "(III)Z"⟩, 24) := ⟨⟨by decide +kernel, by decide +kernel⟩, List.mem_of_getElem? (i := 883) (by decide +kernel), List.mem_of_getElem? (i := 1164) (by decide +kernel), List.mem_of_getElem? (i := 1165) (by decide +kernel)⟩
theorem lw_p45 : lw_okq (⟨"SameHeadsModel", "bestWith", "(II)I"⟩, 24) := ⟨⟨by decide +kernel, by decide +kernel⟩, List.mem_of_getElem? (i := 883) (by decide +kernel), List.mem_of_getElem? (i := 1185) (by decide +kernel), List.mem_of_getElem? (i := 1186) (by decide +kernel)⟩
theorem lw_p46 : lw_okq (⟨"SameHeadsModel", "whoCount", "(I)I"⟩, 24) := ⟨⟨by decide +kernel, by decide +kernel⟩, List.mem_of_getElem? (i := 883) (by decide +kernel), List.mem_of_getElem? (i := 1198) (by decide +kernel), List.mem_of_getElem? (i := 1199) (by decide +kernel)⟩
theorem lw_p47 : lw_okq (⟨"SameHeadsModel", "isUnseen", "(IIII)Z"⟩, 24) := ⟨⟨by decide +kernel, by decide +kernel⟩, List.mem_of_getElem? (i := 883) (by decide +kernel), List.mem_of_getElem? (i := 1202) (by decide +kernel), List.mem_of_getElem? (i := 1203) (by decide +kernel)⟩
def lw_privs_3 : List (MethodName × Nat) := [(⟨"SameHeadsModel", "carryOf", "(II)I"⟩, 24), (⟨"SameHeadsModel", "comesIn", "()I"⟩, 24), (⟨"SameHeadsModel", "seenIn", "(II)I"⟩, 24), (⟨"SameHeadsModel", "moves", "(II)V"⟩, 24), (⟨"SameHeadsModel", "minutes", "(I)V"⟩, 24), (⟨"SameHeadsModel", "minute", "()V"⟩, 24), (⟨"SameHeadsModel", "seenTwice", "()I"⟩, 24), (⟨"SameHeadsModel", "allThere", "()I"⟩, 24), (⟨"SameHeadsModel", "findMost", "(I)I"⟩, 24), (⟨"SameHeadsModel", "noHeads", "()I"⟩, 24), (⟨"SameHeadsModel", "isHead", "(I)Z"⟩, 24), (⟨"SameHeadsModel", "worthAt", "(II)I"⟩, 24), (⟨"SameHeadsModel", "mayGive", "(III)Z"⟩, 24), (⟨"SameHeadsModel", "bestWith", "(II)I"⟩, 24), (⟨"SameHeadsModel", "whoCount", "(I)I"⟩, 24), (⟨"SameHeadsModel", "isUnseen", "(IIII)Z"⟩, 24)]
theorem lw_r3 : ∀ q ∈ lw_privs_3, lw_okq q := List.forall_mem_cons.mpr ⟨lw_p32, List.forall_mem_cons.mpr ⟨lw_p33, List.forall_mem_cons.mpr ⟨lw_p34, List.forall_mem_cons.mpr ⟨lw_p35, List.forall_mem_cons.mpr ⟨lw_p36, List.forall_mem_cons.mpr ⟨lw_p37, List.forall_mem_cons.mpr ⟨lw_p38, List.forall_mem_cons.mpr ⟨lw_p39, List.forall_mem_cons.mpr ⟨lw_p40, List.forall_mem_cons.mpr ⟨lw_p41, List.forall_mem_cons.mpr ⟨lw_p42, List.forall_mem_cons.mpr ⟨lw_p43, List.forall_mem_cons.mpr ⟨lw_p44, List.forall_mem_cons.mpr ⟨lw_p45, List.forall_mem_cons.mpr ⟨lw_p46, List.forall_mem_cons.mpr ⟨lw_p47, fun _ h => absurd h List.not_mem_nil⟩⟩⟩⟩⟩⟩⟩⟩⟩⟩⟩⟩⟩⟩⟩⟩
theorem lw_p48 : lw_okq (⟨"SameHeadsModel", "chances", "()I"⟩, 24) := ⟨⟨by decide +kernel, by decide +kernel⟩, List.mem_of_getElem? (i := 883) (by decide +kernel), List.mem_of_getElem? (i := 1221) (by decide +kernel), List.mem_of_getElem? (i := 1222) (by decide +kernel)⟩
theorem lw_p49 : lw_okq (⟨"SameHeadsModel", "onTheWhole", "(I)I"⟩, 24) := ⟨⟨by decide +kernel, by decide +kernel⟩, List.mem_of_getElem? (i := 883) (by decide +kernel), List.mem_of_getElem? (i := 1225) (by decide +kernel), List.mem_of_getElem? (i := 1226) (by decide +kernel)⟩
theorem lw_p50 : lw_okq (⟨"SameHeadsModel", "mouldOf", "(IZ)I"⟩, 24) := ⟨⟨by decide +kernel, by decide +kernel⟩, List.mem_of_getElem? (i := 883) (by decide +kernel), List.mem_of_getElem? (i := 1240) (by decide +kernel), List.mem_of_getElem? (i := 1241) (by decide +kernel)⟩
theorem lw_p51 : lw_okq (⟨"SameHeadsModel", "cutOf", "(II)I"⟩, 24) := ⟨⟨by decide +kernel, by decide +kernel⟩, List.mem_of_getElem? (i := 883) (by decide +kernel), List.mem_of_getElem? (i := 1244) (by decide +kernel), List.mem_of_getElem? (i := 1245) (by decide +kernel)⟩
theorem lw_p52 : lw_okq (⟨"SameHeadsModel", "waysOf", "(II)I"⟩, 24) := ⟨⟨by decide +kernel, by decide +kernel⟩, List.mem_of_getElem? (i := 883) (by decide +kernel), List.mem_of_getElem? (i := 1260) (by decide +kernel), List.mem_of_getElem? (i := 1261) (by decide +kernel)⟩
theorem lw_p53 : lw_okq (⟨"SameHeadsModel", "waysFrom", "(IIII)I"⟩, 24) := ⟨⟨by decide +kernel, by decide +kernel⟩, List.mem_of_getElem? (i := 883) (by decide +kernel), List.mem_of_getElem? (i := 1265) (by decide +kernel), List.mem_of_getElem? (i := 1266) (by decide +kernel)⟩
theorem lw_p54 : lw_okq (⟨"SameHeadsModel", "headsLike", "(II)I"⟩, 24) := ⟨⟨by decide +kernel, by decide +kernel⟩, List.mem_of_getElem? (i := 883) (by decide +kernel), List.mem_of_getElem? (i := 1277) (by decide +kernel), List.mem_of_getElem? (i := 1278) (by decide +kernel)⟩
theorem lw_p55 : lw_okq (⟨"SameHeadsModel", "drawn", "(I)I"⟩, 24) := ⟨⟨by decide +kernel, by decide +kernel⟩, List.mem_of_getElem? (i := 883) (by decide +kernel), List.mem_of_getElem? (i := 1289) (by decide +kernel), List.mem_of_getElem? (i := 1290) (by decide +kernel)⟩
theorem lw_p56 : lw_okq (⟨"SameHeadsModel", "next0", "()V"⟩, 24) := ⟨⟨by decide +kernel, by decide +kernel⟩, List.mem_of_getElem? (i := 883) (by decide +kernel), List.mem_of_getElem? (i := 1310) (by decide +kernel), List.mem_of_getElem? (i := 1311) (by decide +kernel)⟩
theorem lw_p57 : lw_okq (⟨"SameHeadsModel", "byteAt", "(I)I"⟩, 24) := ⟨⟨by decide +kernel, by decide +kernel⟩, List.mem_of_getElem? (i := 883) (by decide +kernel), List.mem_of_getElem? (i := 1314) (by decide +kernel), List.mem_of_getElem? (i := 1315) (by decide +kernel)⟩
theorem lw_p58 : lw_okq (⟨"SameHeadsModel", "readItem", "()V"⟩, 24) := ⟨⟨by decide +kernel, by decide +kernel⟩, List.mem_of_getElem? (i := 883) (by decide +kernel), List.mem_of_getElem? (i := 1318) (by decide +kernel), List.mem_of_getElem? (i := 1319) (by decide +kernel)⟩
theorem lw_p59 : lw_okq (⟨"SameHeadsModel", "kindTold", "()I"⟩, 24) := ⟨⟨by decide +kernel, by decide +kernel⟩, List.mem_of_getElem? (i := 883) (by decide +kernel), List.mem_of_getElem? (i := 1322) (by decide +kernel), List.mem_of_getElem? (i := 1323) (by decide +kernel)⟩
theorem lw_p60 : lw_okq (⟨"SameHeadsModel", "isWord", "(Ljava/lang/String;)Z"⟩, 24) := ⟨⟨by decide +kernel, by decide +kernel⟩, List.mem_of_getElem? (i := 883) (by decide +kernel), List.mem_of_getElem? (i := 1326) (by decide +kernel), List.mem_of_getElem? (i := 1327) (by decide +kernel)⟩
theorem lw_p61 : lw_okq (⟨"SameHeadsModel", "must", "(Z)V"⟩, 24) := ⟨⟨by decide +kernel, by decide +kernel⟩, List.mem_of_getElem? (i := 883) (by decide +kernel), List.mem_of_getElem? (i := 1332) (by decide +kernel), List.mem_of_getElem? (i := 1333) (by decide +kernel)⟩
theorem lw_p62 : lw_okq (⟨"SameHeadsModel", "isNext", "(Ljava/lang/String;)Z"⟩, 24) := ⟨⟨by decide +kernel, by decide +kernel⟩, List.mem_of_getElem? (i := 883) (by decide +kernel), List.mem_of_getElem? (i := 1337) (by decide +kernel), List.mem_of_getElem? (i := 1338) (by decide +kernel)⟩
theorem lw_p63 : lw_okq (⟨"SameHeadsModel", "number", "(II)I"⟩, 24) := ⟨⟨by decide +kernel, by decide +kernel⟩, List.mem_of_getElem? (i := 883) (by decide +kernel), List.mem_of_getElem? (i := 1341) (by decide +kernel), List.mem_of_getElem? (i := 1342) (by decide +kernel)⟩
def lw_privs_4 : List (MethodName × Nat) := [(⟨"SameHeadsModel", "chances", "()I"⟩, 24), (⟨"SameHeadsModel", "onTheWhole", "(I)I"⟩, 24), (⟨"SameHeadsModel", "mouldOf", "(IZ)I"⟩, 24), (⟨"SameHeadsModel", "cutOf", "(II)I"⟩, 24), (⟨"SameHeadsModel", "waysOf", "(II)I"⟩, 24), (⟨"SameHeadsModel", "waysFrom", "(IIII)I"⟩, 24), (⟨"SameHeadsModel", "headsLike", "(II)I"⟩, 24), (⟨"SameHeadsModel", "drawn", "(I)I"⟩, 24), (⟨"SameHeadsModel", "next0", "()V"⟩, 24), (⟨"SameHeadsModel", "byteAt", "(I)I"⟩, 24), (⟨"SameHeadsModel", "readItem", "()V"⟩, 24), (⟨"SameHeadsModel", "kindTold", "()I"⟩, 24), (⟨"SameHeadsModel", "isWord", "(Ljava/lang/String;)Z"⟩, 24), (⟨"SameHeadsModel", "must", "(Z)V"⟩, 24), (⟨"SameHeadsModel", "isNext", "(Ljava/lang/String;)Z"⟩, 24), (⟨"SameHeadsModel", "number", "(II)I"⟩, 24)]
theorem lw_r4 : ∀ q ∈ lw_privs_4, lw_okq q := List.forall_mem_cons.mpr ⟨lw_p48, List.forall_mem_cons.mpr ⟨lw_p49, List.forall_mem_cons.mpr ⟨lw_p50, List.forall_mem_cons.mpr ⟨lw_p51, List.forall_mem_cons.mpr ⟨lw_p52, List.forall_mem_cons.mpr ⟨lw_p53, List.forall_mem_cons.mpr ⟨lw_p54, List.forall_mem_cons.mpr ⟨lw_p55, List.forall_mem_cons.mpr ⟨lw_p56, List.forall_mem_cons.mpr ⟨lw_p57, List.forall_mem_cons.mpr ⟨lw_p58, List.forall_mem_cons.mpr ⟨lw_p59, List.forall_mem_cons.mpr ⟨lw_p60, List.forall_mem_cons.mpr ⟨lw_p61, List.forall_mem_cons.mpr ⟨lw_p62, List.forall_mem_cons.mpr ⟨lw_p63, fun _ h => absurd h List.not_mem_nil⟩⟩⟩⟩⟩⟩⟩⟩⟩⟩⟩⟩⟩⟩⟩⟩
theorem lw_p64 : lw_okq (⟨"SameHeadsModel", "item", "(IIII)V"⟩, 24) := ⟨⟨by decide +kernel, by decide +kernel⟩, List.mem_of_getElem? (i := 883) (by decide +kernel), List.mem_of_getElem? (i := 1347) (by decide +kernel), List.mem_of_getElem? (i := 1348) (by decide +kernel)⟩
theorem lw_p65 : lw_okq (⟨"SameHeadsModel", "isSo", "(I)I"⟩, 24) := ⟨⟨by decide +kernel, by decide +kernel⟩, List.mem_of_getElem? (i := 883) (by decide +kernel), List.mem_of_getElem? (i := 1355) (by decide +kernel), List.mem_of_getElem? (i := 1356) (by decide +kernel)⟩
def lw_privs_5 : List (MethodName × Nat) := [(⟨"SameHeadsModel", "item", "(IIII)V"⟩, 24), (⟨"SameHeadsModel", "isSo", "(I)I"⟩, 24)]
theorem lw_r5 : ∀ q ∈ lw_privs_5, lw_okq q := List.forall_mem_cons.mpr ⟨lw_p64, List.forall_mem_cons.mpr ⟨lw_p65, fun _ h => absurd h List.not_mem_nil⟩⟩
def lw_privs : List (MethodName × Nat) := lw_privs_1 ++ (lw_privs_2 ++ (lw_privs_3 ++ (lw_privs_4 ++ (lw_privs_5))))
def lw_tbl : List Cond := k2_sels lw_privs ++ tables_1
theorem lw_privs_ok : ∀ q ∈ lw_privs, lw_okq q := by
  show ∀ q ∈ lw_privs_1 ++ (lw_privs_2 ++ (lw_privs_3 ++ (lw_privs_4 ++ (lw_privs_5)))), lw_okq q
  exact List.forall_mem_append.mpr ⟨lw_r1, List.forall_mem_append.mpr ⟨lw_r2, List.forall_mem_append.mpr ⟨lw_r3, List.forall_mem_append.mpr ⟨lw_r4, lw_r5⟩⟩⟩⟩
end
section
def RX0 : String := "SameHeads$Givings"
def TX0 : u_T := fun k => match k with
  | 0 => ("SameHeads$Givings", "rate", "[I", true)
  | 1 => ("SameHeads$Givings", "best", "[I", true)
  | 2 => ("SameHeads$Givings", "heads", "I", false)
  | _ => ("SameHeads$Givings", "rooms", "I", false)
def tyX0 : Nat → FieldType := fun k => match k with
  | 0 => .array .int
  | 1 => .array .int
  | 2 => .int
  | _ => .int
abbrev wsX00 : List Cond := u_ws RX0 TX0 4
theorem nmX0 : ∀ a, a < 4 → ∀ b, b < 4 → a ≠ b → (TX0 a).2.1 ≠ (TX0 b).2.1 := by decide +kernel
theorem tyX0_ok : ∀ k, k < 4 → parseFieldDescriptor (TX0 k).2.2.1 = some (tyX0 k) := by decide +kernel
abbrev cX0_init : ByteArray := prog_2_method_1_code
def yX0_init : MethodName := ⟨RX0, "<init>", "()V"⟩
abbrev cX0_bestWorth : ByteArray := prog_2_method_2_code
def yX0_bestWorth : MethodName := ⟨RX0, "bestWorth", "(LSameHeads$House;)I"⟩
abbrev cX0_lossOf : ByteArray := prog_2_method_3_code
def yX0_lossOf : MethodName := ⟨RX0, "lossOf", "(LSameHeads$House;I)I"⟩
abbrev cX0_headIn : ByteArray := prog_2_method_4_code
def yX0_headIn : MethodName := ⟨RX0, "headIn", "(LSameHeads$House;I)I"⟩
abbrev cX0_bestLooks : ByteArray := prog_2_method_5_code
def yX0_bestLooks : MethodName := ⟨RX0, "bestLooks", "(LSameHeads$House;I)I"⟩
abbrev cX0_bestKind : ByteArray := prog_2_method_6_code
def yX0_bestKind : MethodName := ⟨RX0, "bestKind", "(LSameHeads$House;I)I"⟩
abbrev cX0_survey : ByteArray := prog_2_method_7_code
def yX0_survey : MethodName := ⟨RX0, "survey", "(LSameHeads$House;)V"⟩
abbrev cX0_fill : ByteArray := prog_2_method_8_code
def yX0_fill : MethodName := ⟨RX0, "fill", "(II)I"⟩
abbrev cX0_offer : ByteArray := prog_2_method_9_code
def yX0_offer : MethodName := ⟨RX0, "offer", "(II)V"⟩
abbrev cX0_worthIn : ByteArray := prog_2_method_10_code
def yX0_worthIn : MethodName := ⟨RX0, "worthIn", "(II)I"⟩
abbrev cX0_firstHead : ByteArray := prog_2_method_11_code
def yX0_firstHead : MethodName := ⟨RX0, "firstHead", "(II)I"⟩
abbrev cX0_worthWith : ByteArray := prog_2_method_12_code
def yX0_worthWith : MethodName := ⟨RX0, "worthWith", "(LSameHeads$House;II)I"⟩
def RX1 : String := "SameHeads$House"
def TX1 : u_T := fun k => match k with
  | 0 => ("SameHeads$House", "kind", "[I", true)
  | 1 => ("SameHeads$House", "looks", "[I", true)
  | 2 => ("SameHeads$House", "wax", "[I", true)
  | 3 => ("SameHeads$House", "place", "[I", true)
  | 4 => ("SameHeads$House", "faceLooks", "[I", true)
  | 5 => ("SameHeads$House", "chance", "[I", true)
  | 6 => ("SameHeads$House", "shown", "[I", true)
  | 7 => ("SameHeads$House", "came", "[I", true)
  | 8 => ("SameHeads$House", "sights", "[I", true)
  | 9 => ("SameHeads$House", "held", "[I", true)
  | 10 => ("SameHeads$House", "parts", "I", false)
  | 11 => ("SameHeads$House", "visitors", "I", false)
  | 12 => ("SameHeads$House", "clock", "I", false)
  | 13 => ("SameHeads$House", "pace", "I", false)
  | _ => ("SameHeads$House", "z", "I", false)
def tyX1 : Nat → FieldType := fun k => match k with
  | 0 => .array .int
  | 1 => .array .int
  | 2 => .array .int
  | 3 => .array .int
  | 4 => .array .int
  | 5 => .array .int
  | 6 => .array .int
  | 7 => .array .int
  | 8 => .array .int
  | 9 => .array .int
  | 10 => .int
  | 11 => .int
  | 12 => .int
  | 13 => .int
  | _ => .int
abbrev wsX10 : List Cond := u_ws RX1 TX1 15
theorem nmX1 : ∀ a, a < 15 → ∀ b, b < 15 → a ≠ b → (TX1 a).2.1 ≠ (TX1 b).2.1 := by decide +kernel
theorem tyX1_ok : ∀ k, k < 15 → parseFieldDescriptor (TX1 k).2.2.1 = some (tyX1 k) := by decide +kernel
abbrev cX1_init : ByteArray := prog_3_method_1_code
def yX1_init : MethodName := ⟨RX1, "<init>", "()V"⟩
abbrev cX1_become : ByteArray := prog_3_method_2_code
def yX1_become : MethodName := ⟨RX1, "become", "(LSameHeads$House;)V"⟩
abbrev cX1_hasPart : ByteArray := prog_3_method_3_code
def yX1_hasPart : MethodName := ⟨RX1, "hasPart", "(I)Z"⟩
abbrev cX1_hasVisitor : ByteArray := prog_3_method_4_code
def yX1_hasVisitor : MethodName := ⟨RX1, "hasVisitor", "(I)Z"⟩
abbrev cX1_isHead : ByteArray := prog_3_method_5_code
def yX1_isHead : MethodName := ⟨RX1, "isHead", "(I)Z"⟩
abbrev cX1_traits : ByteArray := prog_3_method_6_code
def yX1_traits : MethodName := ⟨RX1, "traits", "(I)[I"⟩
abbrev cX1_addPart : ByteArray := prog_3_method_7_code
def yX1_addPart : MethodName := ⟨RX1, "addPart", "(IIII)I"⟩
abbrev cX1_addVisitor : ByteArray := prog_3_method_8_code
def yX1_addVisitor : MethodName := ⟨RX1, "addVisitor", "()I"⟩
abbrev cX1_likeTo : ByteArray := prog_3_method_9_code
def yX1_likeTo : MethodName := ⟨RX1, "likeTo", "(II)I"⟩
abbrev cX1_minutesTo : ByteArray := prog_3_method_10_code
def yX1_minutesTo : MethodName := ⟨RX1, "minutesTo", "(II)I"⟩
abbrev cX1_partsAt : ByteArray := prog_3_method_11_code
def yX1_partsAt : MethodName := ⟨RX1, "partsAt", "(I)I"⟩
abbrev cX1_likeness : ByteArray := prog_3_method_12_code
def yX1_likeness : MethodName := ⟨RX1, "likeness", "(I)I"⟩
abbrev cX1_allLikeness : ByteArray := prog_3_method_13_code
def yX1_allLikeness : MethodName := ⟨RX1, "allLikeness", "()I"⟩
abbrev cX1_roomsShown : ByteArray := prog_3_method_14_code
def yX1_roomsShown : MethodName := ⟨RX1, "roomsShown", "()I"⟩
abbrev cX1_roomOf : ByteArray := prog_3_method_15_code
def yX1_roomOf : MethodName := ⟨RX1, "roomOf", "(I)I"⟩
abbrev cX1_visitorsIn : ByteArray := prog_3_method_16_code
def yX1_visitorsIn : MethodName := ⟨RX1, "visitorsIn", "(I)I"⟩
abbrev cX1_visitorsThere : ByteArray := prog_3_method_17_code
def yX1_visitorsThere : MethodName := ⟨RX1, "visitorsThere", "()I"⟩
abbrev cX1_minutesTillEmpty : ByteArray := prog_3_method_18_code
def yX1_minutesTillEmpty : MethodName := ⟨RX1, "minutesTillEmpty", "()I"⟩
abbrev cX1_passes : ByteArray := prog_3_method_19_code
def yX1_passes : MethodName := ⟨RX1, "passes", "(IIII)Z"⟩
abbrev cX1_spend : ByteArray := prog_3_method_20_code
def yX1_spend : MethodName := ⟨RX1, "spend", "(I)V"⟩
abbrev cX1_carry : ByteArray := prog_3_method_21_code
def yX1_carry : MethodName := ⟨RX1, "carry", "(II)V"⟩
abbrev cX1_sighted : ByteArray := prog_3_method_22_code
def yX1_sighted : MethodName := ⟨RX1, "sighted", "(II)I"⟩
abbrev cX1_sightedTwice : ByteArray := prog_3_method_23_code
def yX1_sightedTwice : MethodName := ⟨RX1, "sightedTwice", "()I"⟩
abbrev cX1_staysUnseen : ByteArray := prog_3_method_24_code
def yX1_staysUnseen : MethodName := ⟨RX1, "staysUnseen", "(III)Z"⟩
abbrev cX1_likestTo : ByteArray := prog_3_method_25_code
def yX1_likestTo : MethodName := ⟨RX1, "likestTo", "(I)I"⟩
abbrev cX1_likestOf : ByteArray := prog_3_method_26_code
def yX1_likestOf : MethodName := ⟨RX1, "likestOf", "(I)I"⟩
abbrev cX1_allChances : ByteArray := prog_3_method_27_code
def yX1_allChances : MethodName := ⟨RX1, "allChances", "()I"⟩
abbrev cX1_favour : ByteArray := prog_3_method_28_code
def yX1_favour : MethodName := ⟨RX1, "favour", "(I)I"⟩
abbrev cX1_cutCost : ByteArray := prog_3_method_29_code
def yX1_cutCost : MethodName := ⟨RX1, "cutCost", "(II)I"⟩
abbrev cX1_nearestMould : ByteArray := prog_3_method_30_code
def yX1_nearestMould : MethodName := ⟨RX1, "nearestMould", "(I)I"⟩
abbrev cX1_headsLike : ByteArray := prog_3_method_31_code
def yX1_headsLike : MethodName := ⟨RX1, "headsLike", "(II)I"⟩
abbrev cX1_draw : ByteArray := prog_3_method_32_code
def yX1_draw : MethodName := ⟨RX1, "draw", "()I"⟩
abbrev cX1_allWax : ByteArray := prog_3_method_33_code
def yX1_allWax : MethodName := ⟨RX1, "allWax", "()I"⟩
abbrev cX1_spotsHeld : ByteArray := prog_3_method_34_code
def yX1_spotsHeld : MethodName := ⟨RX1, "spotsHeld", "()I"⟩
def RX2 : String := "SameHeads$Kinds"
def TX2 : u_T := fun k => match k with
  | _ => ("", "", "", false)
def tyX2 : Nat → FieldType := fun k => match k with
  | _ => .int
abbrev wsX20 : List Cond := u_ws RX2 TX2 0
theorem nmX2 : ∀ a, a < 0 → ∀ b, b < 0 → a ≠ b → (TX2 a).2.1 ≠ (TX2 b).2.1 := by decide +kernel
theorem tyX2_ok : ∀ k, k < 0 → parseFieldDescriptor (TX2 k).2.2.1 = some (tyX2 k) := by decide +kernel
abbrev cX2_isUnder : ByteArray := prog_4_method_2_code
def yX2_isUnder : MethodName := ⟨RX2, "isUnder", "(II)Z"⟩
abbrev cX2_unlike : ByteArray := prog_4_method_3_code
def yX2_unlike : MethodName := ⟨RX2, "unlike", "(II)I"⟩
abbrev cX2_likeness : ByteArray := prog_4_method_4_code
def yX2_likeness : MethodName := ⟨RX2, "likeness", "(III)I"⟩
abbrev cX2_minutes : ByteArray := prog_4_method_5_code
def yX2_minutes : MethodName := ⟨RX2, "minutes", "(III)I"⟩
def RX3 : String := "SameHeads$Reader"
def TX3 : u_T := fun k => match k with
  | 0 => ("SameHeads$Reader", "tape", "LSameHeads$Tape;", true)
  | 1 => ("SameHeads$Reader", "house", "LSameHeads$House;", true)
  | 2 => ("SameHeads$Reader", "sort", "[I", true)
  | 3 => ("SameHeads$Reader", "start", "[I", true)
  | 4 => ("SameHeads$Reader", "value", "[I", true)
  | 5 => ("SameHeads$Reader", "tokens", "I", false)
  | _ => ("SameHeads$Reader", "at", "I", false)
def tyX3 : Nat → FieldType := fun k => match k with
  | 0 => .object "SameHeads$Tape"
  | 1 => .object "SameHeads$House"
  | 2 => .array .int
  | 3 => .array .int
  | 4 => .array .int
  | 5 => .int
  | _ => .int
abbrev wsX30 : List Cond := u_ws RX3 TX3 7
theorem nmX3 : ∀ a, a < 7 → ∀ b, b < 7 → a ≠ b → (TX3 a).2.1 ≠ (TX3 b).2.1 := by decide +kernel
theorem tyX3_ok : ∀ k, k < 7 → parseFieldDescriptor (TX3 k).2.2.1 = some (tyX3 k) := by decide +kernel
abbrev cX3_init : ByteArray := prog_5_method_1_code
def yX3_init : MethodName := ⟨RX3, "<init>", "(LSameHeads$Tape;LSameHeads$House;)V"⟩
abbrev cX3_read : ByteArray := prog_5_method_2_code
def yX3_read : MethodName := ⟨RX3, "read", "()I"⟩
abbrev cX3_cut : ByteArray := prog_5_method_3_code
def yX3_cut : MethodName := ⟨RX3, "cut", "()V"⟩
abbrev cX3_sortOf : ByteArray := prog_5_method_4_code
def yX3_sortOf : MethodName := ⟨RX3, "sortOf", "(I)I"⟩
abbrev cX3_begin : ByteArray := prog_5_method_5_code
def yX3_begin : MethodName := ⟨RX3, "begin", "(II)V"⟩
abbrev cX3_lengthen : ByteArray := prog_5_method_6_code
def yX3_lengthen : MethodName := ⟨RX3, "lengthen", "(II)V"⟩
abbrev cX3_readItem : ByteArray := prog_5_method_7_code
def yX3_readItem : MethodName := ⟨RX3, "readItem", "()Z"⟩
abbrev cX3_wordOf : ByteArray := prog_5_method_8_code
def yX3_wordOf : MethodName := ⟨RX3, "wordOf", "(I)Ljava/lang/String;"⟩
abbrev cX3_readPart : ByteArray := prog_5_method_9_code
def yX3_readPart : MethodName := ⟨RX3, "readPart", "(I)Z"⟩
abbrev cX3_readFace : ByteArray := prog_5_method_10_code
def yX3_readFace : MethodName := ⟨RX3, "readFace", "()Z"⟩
abbrev cX3_readShow : ByteArray := prog_5_method_11_code
def yX3_readShow : MethodName := ⟨RX3, "readShow", "()Z"⟩
abbrev cX3_readPace : ByteArray := prog_5_method_12_code
def yX3_readPace : MethodName := ⟨RX3, "readPace", "()Z"⟩
abbrev cX3_mayTell : ByteArray := prog_5_method_13_code
def yX3_mayTell : MethodName := ⟨RX3, "mayTell", "(Ljava/lang/String;[IIII)Z"⟩
abbrev cX3_tells : ByteArray := prog_5_method_14_code
def yX3_tells : MethodName := ⟨RX3, "tells", "([IIII)Z"⟩
abbrev cX3_takeNumber : ByteArray := prog_5_method_15_code
def yX3_takeNumber : MethodName := ⟨RX3, "takeNumber", "(II)I"⟩
abbrev cX3_takes : ByteArray := prog_5_method_16_code
def yX3_takes : MethodName := ⟨RX3, "takes", "(Ljava/lang/String;)Z"⟩
def RX4 : String := "SameHeads$Sheet"
def TX4 : u_T := fun k => match k with
  | 0 => ("SameHeads$Sheet", "numbers", "[I", true)
  | 1 => ("SameHeads$Sheet", "bits", "I", false)
  | _ => ("SameHeads$Sheet", "size", "I", false)
def tyX4 : Nat → FieldType := fun k => match k with
  | 0 => .array .int
  | 1 => .int
  | _ => .int
abbrev wsX40 : List Cond := u_ws RX4 TX4 3
theorem nmX4 : ∀ a, a < 3 → ∀ b, b < 3 → a ≠ b → (TX4 a).2.1 ≠ (TX4 b).2.1 := by decide +kernel
theorem tyX4_ok : ∀ k, k < 3 → parseFieldDescriptor (TX4 k).2.2.1 = some (tyX4 k) := by decide +kernel
abbrev cX4_init : ByteArray := prog_6_method_1_code
def yX4_init : MethodName := ⟨RX4, "<init>", "()V"⟩
abbrev cX4_isMissing : ByteArray := prog_6_method_2_code
def yX4_isMissing : MethodName := ⟨RX4, "isMissing", "()Z"⟩
abbrev cX4_begin : ByteArray := prog_6_method_3_code
def yX4_begin : MethodName := ⟨RX4, "begin", "(II)V"⟩
abbrev cX4_put : ByteArray := prog_6_method_4_code
def yX4_put : MethodName := ⟨RX4, "put", "(II)V"⟩
abbrev cX4_hasRun : ByteArray := prog_6_method_5_code
def yX4_hasRun : MethodName := ⟨RX4, "hasRun", "(II)Z"⟩
def RX5 : String := "SameHeads$Tape"
def TX5 : u_T := fun k => match k with
  | 0 => ("SameHeads$Tape", "bytes", "[B", true)
  | _ => ("SameHeads$Tape", "length", "I", false)
def tyX5 : Nat → FieldType := fun k => match k with
  | 0 => .array .byte
  | _ => .int
abbrev wsX50 : List Cond := u_ws RX5 TX5 2
theorem nmX5 : ∀ a, a < 2 → ∀ b, b < 2 → a ≠ b → (TX5 a).2.1 ≠ (TX5 b).2.1 := by decide +kernel
theorem tyX5_ok : ∀ k, k < 2 → parseFieldDescriptor (TX5 k).2.2.1 = some (tyX5 k) := by decide +kernel
abbrev cX5_init : ByteArray := prog_7_method_1_code
def yX5_init : MethodName := ⟨RX5, "<init>", "()V"⟩
abbrev cX5_append : ByteArray := prog_7_method_2_code
def yX5_append : MethodName := ⟨RX5, "append", "(B)V"⟩
def RX6 : String := "SameHeads$Tellings"
def TX6 : u_T := fun k => match k with
  | 0 => ("SameHeads$Tellings", "told", "[I", true)
  | _ => ("SameHeads$Tellings", "ways", "[I", true)
def tyX6 : Nat → FieldType := fun k => match k with
  | 0 => .array .int
  | _ => .array .int
abbrev wsX60 : List Cond := u_ws RX6 TX6 2
theorem nmX6 : ∀ a, a < 2 → ∀ b, b < 2 → a ≠ b → (TX6 a).2.1 ≠ (TX6 b).2.1 := by decide +kernel
theorem tyX6_ok : ∀ k, k < 2 → parseFieldDescriptor (TX6 k).2.2.1 = some (tyX6 k) := by decide +kernel
abbrev cX6_init : ByteArray := prog_8_method_1_code
def yX6_init : MethodName := ⟨RX6, "<init>", "()V"⟩
abbrev cX6_allWays : ByteArray := prog_8_method_2_code
def yX6_allWays : MethodName := ⟨RX6, "allWays", "(LSameHeads$House;LSameHeads$Sheet;)I"⟩
abbrev cX6_headsFor : ByteArray := prog_8_method_3_code
def yX6_headsFor : MethodName := ⟨RX6, "headsFor", "(LSameHeads$House;LSameHeads$Sheet;I)I"⟩
abbrev cX6_facesOf : ByteArray := prog_8_method_4_code
def yX6_facesOf : MethodName := ⟨RX6, "facesOf", "(LSameHeads$Sheet;)I"⟩
abbrev cX6_survey : ByteArray := prog_8_method_5_code
def yX6_survey : MethodName := ⟨RX6, "survey", "(LSameHeads$House;LSameHeads$Sheet;)V"⟩
abbrev cX6_waysFor : ByteArray := prog_8_method_6_code
def yX6_waysFor : MethodName := ⟨RX6, "waysFor", "(II)I"⟩
abbrev cX6_offer : ByteArray := prog_8_method_7_code
def yX6_offer : MethodName := ⟨RX6, "offer", "(II)V"⟩
def RX7 : String := "SameHeads"
def TX7 : u_T := fun k => match k with
  | 0 => ("SameHeads", "house", "LSameHeads$House;", true)
  | 1 => ("SameHeads", "kept", "LSameHeads$House;", true)
  | 2 => ("SameHeads", "draft", "LSameHeads$House;", true)
  | 3 => ("SameHeads", "givings", "LSameHeads$Givings;", true)
  | 4 => ("SameHeads", "tellings", "LSameHeads$Tellings;", true)
  | 5 => ("SameHeads", "tape", "LSameHeads$Tape;", true)
  | 6 => ("SameHeads", "reader", "LSameHeads$Reader;", true)
  | 7 => ("SameHeads", "sheets", "[LSameHeads$Sheet;", true)
  | 8 => ("SameHeads", "tally", "[I", true)
  | _ => ("SameHeads", "keeps", "Z", false)
def tyX7 : Nat → FieldType := fun k => match k with
  | 0 => .object "SameHeads$House"
  | 1 => .object "SameHeads$House"
  | 2 => .object "SameHeads$House"
  | 3 => .object "SameHeads$Givings"
  | 4 => .object "SameHeads$Tellings"
  | 5 => .object "SameHeads$Tape"
  | 6 => .object "SameHeads$Reader"
  | 7 => .array (.object "SameHeads$Sheet")
  | 8 => .array .int
  | _ => .boolean
abbrev wsX70 : List Cond := u_ws RX7 TX7 10
theorem nmX7 : ∀ a, a < 10 → ∀ b, b < 10 → a ≠ b → (TX7 a).2.1 ≠ (TX7 b).2.1 := by decide +kernel
theorem tyX7_ok : ∀ k, k < 10 → parseFieldDescriptor (TX7 k).2.2.1 = some (tyX7 k) := by decide +kernel
abbrev cX7_init : ByteArray := prog_1_method_1_code
def yX7_init : MethodName := ⟨RX7, "<init>", "()V"⟩
abbrev cX7_part : ByteArray := prog_1_method_2_code
def yX7_part : MethodName := ⟨RX7, "part", "(I)I"⟩
abbrev cX7_of : ByteArray := prog_1_method_3_code
def yX7_of : MethodName := ⟨RX7, "of", "(II)I"⟩
abbrev cX7_change : ByteArray := prog_1_method_4_code
def yX7_change : MethodName := ⟨RX7, "change", "(III)I"⟩
abbrev cX7_face : ByteArray := prog_1_method_5_code
def yX7_face : MethodName := ⟨RX7, "face", "(III)I"⟩
abbrev cX7_show : ByteArray := prog_1_method_6_code
def yX7_show : MethodName := ⟨RX7, "show", "(II)I"⟩
abbrev cX7_pace : ByteArray := prog_1_method_7_code
def yX7_pace : MethodName := ⟨RX7, "pace", "(I)I"⟩
abbrev cX7_room : ByteArray := prog_1_method_8_code
def yX7_room : MethodName := ⟨RX7, "room", "(II)I"⟩
abbrev cX7_like : ByteArray := prog_1_method_9_code
def yX7_like : MethodName := ⟨RX7, "like", "(II)I"⟩
abbrev cX7_carries : ByteArray := prog_1_method_10_code
def yX7_carries : MethodName := ⟨RX7, "carries", "(II)I"⟩
abbrev cX7_visitor : ByteArray := prog_1_method_11_code
def yX7_visitor : MethodName := ⟨RX7, "visitor", "()I"⟩
abbrev cX7_seen : ByteArray := prog_1_method_12_code
def yX7_seen : MethodName := ⟨RX7, "seen", "(II)I"⟩
abbrev cX7_move : ByteArray := prog_1_method_13_code
def yX7_move : MethodName := ⟨RX7, "move", "(II)I"⟩
abbrev cX7_waits : ByteArray := prog_1_method_14_code
def yX7_waits : MethodName := ⟨RX7, "waits", "(I)I"⟩
abbrev cX7_now : ByteArray := prog_1_method_15_code
def yX7_now : MethodName := ⟨RX7, "now", "(I)I"⟩
abbrev cX7_most : ByteArray := prog_1_method_16_code
def yX7_most : MethodName := ⟨RX7, "most", "()I"⟩
abbrev cX7_given : ByteArray := prog_1_method_17_code
def yX7_given : MethodName := ⟨RX7, "given", "(I)I"⟩
abbrev cX7_likest : ByteArray := prog_1_method_18_code
def yX7_likest : MethodName := ⟨RX7, "likest", "(I)I"⟩
abbrev cX7_whom : ByteArray := prog_1_method_19_code
def yX7_whom : MethodName := ⟨RX7, "whom", "(I)I"⟩
abbrev cX7_missed : ByteArray := prog_1_method_20_code
def yX7_missed : MethodName := ⟨RX7, "missed", "(I)I"⟩
abbrev cX7_recast : ByteArray := prog_1_method_21_code
def yX7_recast : MethodName := ⟨RX7, "recast", "(I)I"⟩
abbrev cX7_kindFor : ByteArray := prog_1_method_22_code
def yX7_kindFor : MethodName := ⟨RX7, "kindFor", "(I)I"⟩
abbrev cX7_unseen : ByteArray := prog_1_method_23_code
def yX7_unseen : MethodName := ⟨RX7, "unseen", "(II)I"⟩
abbrev cX7_hidden : ByteArray := prog_1_method_24_code
def yX7_hidden : MethodName := ⟨RX7, "hidden", "(I)I"⟩
abbrev cX7_empty : ByteArray := prog_1_method_25_code
def yX7_empty : MethodName := ⟨RX7, "empty", "()I"⟩
abbrev cX7_worth : ByteArray := prog_1_method_26_code
def yX7_worth : MethodName := ⟨RX7, "worth", "(II)I"⟩
abbrev cX7_next : ByteArray := prog_1_method_27_code
def yX7_next : MethodName := ⟨RX7, "next", "()I"⟩
abbrev cX7_mould : ByteArray := prog_1_method_28_code
def yX7_mould : MethodName := ⟨RX7, "mould", "(I)I"⟩
abbrev cX7_cuts : ByteArray := prog_1_method_29_code
def yX7_cuts : MethodName := ⟨RX7, "cuts", "(I)I"⟩
abbrev cX7_fits : ByteArray := prog_1_method_30_code
def yX7_fits : MethodName := ⟨RX7, "fits", "(I)I"⟩
abbrev cX7_maybe : ByteArray := prog_1_method_31_code
def yX7_maybe : MethodName := ⟨RX7, "maybe", "(II)I"⟩
abbrev cX7_stand : ByteArray := prog_1_method_32_code
def yX7_stand : MethodName := ⟨RX7, "stand", "(II)I"⟩
abbrev cX7_fire : ByteArray := prog_1_method_33_code
def yX7_fire : MethodName := ⟨RX7, "fire", "(II)I"⟩
abbrev cX7_papers : ByteArray := prog_1_method_34_code
def yX7_papers : MethodName := ⟨RX7, "papers", "(I)I"⟩
abbrev cX7_seed : ByteArray := prog_1_method_35_code
def yX7_seed : MethodName := ⟨RX7, "seed", "(I)I"⟩
abbrev cX7_feed : ByteArray := prog_1_method_36_code
def yX7_feed : MethodName := ⟨RX7, "feed", "(II)I"⟩
abbrev cX7_wipe : ByteArray := prog_1_method_37_code
def yX7_wipe : MethodName := ⟨RX7, "wipe", "()I"⟩
abbrev cX7_text : ByteArray := prog_1_method_38_code
def yX7_text : MethodName := ⟨RX7, "text", "()I"⟩
abbrev cX7_hold : ByteArray := prog_1_method_39_code
def yX7_hold : MethodName := ⟨RX7, "hold", "(II)I"⟩
abbrev cX7_as : ByteArray := prog_1_method_40_code
def yX7_as : MethodName := ⟨RX7, "as", "(II)I"⟩
abbrev cX7_sheet : ByteArray := prog_1_method_41_code
def yX7_sheet : MethodName := ⟨RX7, "sheet", "(III)I"⟩
abbrev cX7_write : ByteArray := prog_1_method_42_code
def yX7_write : MethodName := ⟨RX7, "write", "(III)I"⟩
abbrev cX7_copy : ByteArray := prog_1_method_43_code
def yX7_copy : MethodName := ⟨RX7, "copy", "(IIIII)I"⟩
abbrev cX7_load : ByteArray := prog_1_method_44_code
def yX7_load : MethodName := ⟨RX7, "load", "(I)I"⟩
abbrev cX7_judge : ByteArray := prog_1_method_45_code
def yX7_judge : MethodName := ⟨RX7, "judge", "(I)I"⟩
abbrev cX7_image : ByteArray := prog_1_method_46_code
def yX7_image : MethodName := ⟨RX7, "image", "()I"⟩
abbrev cX7_undo : ByteArray := prog_1_method_47_code
def yX7_undo : MethodName := ⟨RX7, "undo", "()I"⟩
abbrev cX7_tear : ByteArray := prog_1_method_48_code
def yX7_tear : MethodName := ⟨RX7, "tear", "()I"⟩
abbrev cX7_count : ByteArray := prog_1_method_49_code
def yX7_count : MethodName := ⟨RX7, "count", "(I)I"⟩
abbrev cX7_status : ByteArray := prog_1_method_50_code
def yX7_status : MethodName := ⟨RX7, "status", "(I)I"⟩
abbrev cX7_finding : ByteArray := prog_1_method_51_code
def yX7_finding : MethodName := ⟨RX7, "finding", "(I)I"⟩
abbrev cX7_within : ByteArray := prog_1_method_52_code
def yX7_within : MethodName := ⟨RX7, "within", "(III)Z"⟩
abbrev cX7_isKind : ByteArray := prog_1_method_53_code
def yX7_isKind : MethodName := ⟨RX7, "isKind", "(I)Z"⟩
abbrev cX7_isFace : ByteArray := prog_1_method_54_code
def yX7_isFace : MethodName := ⟨RX7, "isFace", "(I)Z"⟩
abbrev cX7_isRoom : ByteArray := prog_1_method_55_code
def yX7_isRoom : MethodName := ⟨RX7, "isRoom", "(I)Z"⟩
abbrev cX7_isPlace : ByteArray := prog_1_method_56_code
def yX7_isPlace : MethodName := ⟨RX7, "isPlace", "(I)Z"⟩
abbrev cX7_isSpot : ByteArray := prog_1_method_57_code
def yX7_isSpot : MethodName := ⟨RX7, "isSpot", "(I)Z"⟩
abbrev cX7_isSheet : ByteArray := prog_1_method_58_code
def yX7_isSheet : MethodName := ⟨RX7, "isSheet", "(I)Z"⟩
abbrev cX7_commonDivisor : ByteArray := prog_1_method_59_code
def yX7_commonDivisor : MethodName := ⟨RX7, "commonDivisor", "(II)I"⟩
def RX8 : String := "SameHeadsModel"
def TX8 : u_T := fun k => match k with
  | 0 => ("SameHeadsModel", "now", "[I", true)
  | 1 => ("SameHeadsModel", "kept", "[I", true)
  | 2 => ("SameHeadsModel", "aside", "[I", true)
  | 3 => ("SameHeadsModel", "isKept", "Z", false)
  | 4 => ("SameHeadsModel", "found", "[I", true)
  | 5 => ("SameHeadsModel", "worths", "[I", true)
  | 6 => ("SameHeadsModel", "lost", "I", false)
  | 7 => ("SameHeadsModel", "askedFace", "I", false)
  | 8 => ("SameHeadsModel", "standing", "I", false)
  | 9 => ("SameHeadsModel", "tape", "[I", true)
  | 10 => ("SameHeadsModel", "taped", "I", false)
  | 11 => ("SameHeadsModel", "begins", "I", false)
  | 12 => ("SameHeadsModel", "ends", "I", false)
  | 13 => ("SameHeadsModel", "sort", "I", false)
  | 14 => ("SameHeadsModel", "value", "I", false)
  | 15 => ("SameHeadsModel", "isWrong", "Z", false)
  | 16 => ("SameHeadsModel", "kinds", "[Ljava/lang/String;", true)
  | 17 => ("SameHeadsModel", "items", "[I", true)
  | 18 => ("SameHeadsModel", "itemMany", "I", false)
  | 19 => ("SameHeadsModel", "partThen", "I", false)
  | 20 => ("SameHeadsModel", "widths", "[I", true)
  | 21 => ("SameHeadsModel", "sizes", "[I", true)
  | 22 => ("SameHeadsModel", "numbers", "[I", true)
  | _ => ("SameHeadsModel", "moved", "[I", true)
def tyX8 : Nat → FieldType := fun k => match k with
  | 0 => .array .int
  | 1 => .array .int
  | 2 => .array .int
  | 3 => .boolean
  | 4 => .array .int
  | 5 => .array .int
  | 6 => .int
  | 7 => .int
  | 8 => .int
  | 9 => .array .int
  | 10 => .int
  | 11 => .int
  | 12 => .int
  | 13 => .int
  | 14 => .int
  | 15 => .boolean
  | 16 => .array (.object "java/lang/String")
  | 17 => .array .int
  | 18 => .int
  | 19 => .int
  | 20 => .array .int
  | 21 => .array .int
  | 22 => .array .int
  | _ => .array .int
abbrev wsX80 : List Cond := u_ws RX8 TX8 24
theorem nmX8 : ∀ a, a < 24 → ∀ b, b < 24 → a ≠ b → (TX8 a).2.1 ≠ (TX8 b).2.1 := by decide +kernel
theorem tyX8_ok : ∀ k, k < 24 → parseFieldDescriptor (TX8 k).2.2.1 = some (tyX8 k) := by decide +kernel
abbrev cX8_init : ByteArray := prog_10_method_1_code
def yX8_init : MethodName := ⟨RX8, "<init>", "()V"⟩
abbrev cX8_finding : ByteArray := prog_10_method_2_code
def yX8_finding : MethodName := ⟨RX8, "finding", "(I)I"⟩
abbrev cX8_within : ByteArray := prog_10_method_3_code
def yX8_within : MethodName := ⟨RX8, "within", "(III)Z"⟩
abbrev cX8_become : ByteArray := prog_10_method_4_code
def yX8_become : MethodName := ⟨RX8, "become", "(II)I"⟩
abbrev cX8_copyRow : ByteArray := prog_10_method_5_code
def yX8_copyRow : MethodName := ⟨RX8, "copyRow", "([I[I)V"⟩
abbrev cX8_has : ByteArray := prog_10_method_7_code
def yX8_has : MethodName := ⟨RX8, "has", "(II)Z"⟩
abbrev cX8_bits : ByteArray := prog_10_method_8_code
def yX8_bits : MethodName := ⟨RX8, "bits", "(I)I"⟩
abbrev cX8_isFace : ByteArray := prog_10_method_9_code
def yX8_isFace : MethodName := ⟨RX8, "isFace", "(I)Z"⟩
abbrev cX8_isRoom : ByteArray := prog_10_method_10_code
def yX8_isRoom : MethodName := ⟨RX8, "isRoom", "(I)Z"⟩
abbrev cX8_isPlace : ByteArray := prog_10_method_11_code
def yX8_isPlace : MethodName := ⟨RX8, "isPlace", "(I)Z"⟩
abbrev cX8_isLooks : ByteArray := prog_10_method_12_code
def yX8_isLooks : MethodName := ⟨RX8, "isLooks", "(I)Z"⟩
abbrev cX8_isKind : ByteArray := prog_10_method_13_code
def yX8_isKind : MethodName := ⟨RX8, "isKind", "(I)Z"⟩
abbrev cX8_isPart : ByteArray := prog_10_method_14_code
def yX8_isPart : MethodName := ⟨RX8, "isPart", "(I)Z"⟩
abbrev cX8_at : ByteArray := prog_10_method_15_code
def yX8_at : MethodName := ⟨RX8, "at", "(II)I"⟩
abbrev cX8_partIs : ByteArray := prog_10_method_16_code
def yX8_partIs : MethodName := ⟨RX8, "partIs", "(II)I"⟩
abbrev cX8_comes : ByteArray := prog_10_method_17_code
def yX8_comes : MethodName := ⟨RX8, "comes", "(IIII)I"⟩
abbrev cX8_part : ByteArray := prog_10_method_18_code
def yX8_part : MethodName := ⟨RX8, "part", "(I)I"⟩
abbrev cX8_above : ByteArray := prog_10_method_19_code
def yX8_above : MethodName := ⟨RX8, "above", "(I)I"⟩
abbrev cX8_isUnder : ByteArray := prog_10_method_20_code
def yX8_isUnder : MethodName := ⟨RX8, "isUnder", "(II)Z"⟩
abbrev cX8_isHead : ByteArray := prog_10_method_21_code
def yX8_isHead : MethodName := ⟨RX8, "isHead", "(I)Z"⟩
abbrev cX8_of : ByteArray := prog_10_method_22_code
def yX8_of : MethodName := ⟨RX8, "of", "(II)I"⟩
abbrev cX8_change : ByteArray := prog_10_method_23_code
def yX8_change : MethodName := ⟨RX8, "change", "(III)I"⟩
abbrev cX8_face : ByteArray := prog_10_method_24_code
def yX8_face : MethodName := ⟨RX8, "face", "(III)I"⟩
abbrev cX8_show : ByteArray := prog_10_method_25_code
def yX8_show : MethodName := ⟨RX8, "show", "(II)I"⟩
abbrev cX8_pace : ByteArray := prog_10_method_26_code
def yX8_pace : MethodName := ⟨RX8, "pace", "(I)I"⟩
abbrev cX8_likeBy : ByteArray := prog_10_method_27_code
def yX8_likeBy : MethodName := ⟨RX8, "likeBy", "(III)I"⟩
abbrev cX8_likeTo : ByteArray := prog_10_method_28_code
def yX8_likeTo : MethodName := ⟨RX8, "likeTo", "(II)I"⟩
abbrev cX8_likeness : ByteArray := prog_10_method_29_code
def yX8_likeness : MethodName := ⟨RX8, "likeness", "(I)I"⟩
abbrev cX8_partsAt : ByteArray := prog_10_method_30_code
def yX8_partsAt : MethodName := ⟨RX8, "partsAt", "(I)I"⟩
abbrev cX8_roomOf : ByteArray := prog_10_method_31_code
def yX8_roomOf : MethodName := ⟨RX8, "roomOf", "(I)I"⟩
abbrev cX8_visitorsIn : ByteArray := prog_10_method_32_code
def yX8_visitorsIn : MethodName := ⟨RX8, "visitorsIn", "(I)I"⟩
abbrev cX8_room : ByteArray := prog_10_method_33_code
def yX8_room : MethodName := ⟨RX8, "room", "(II)I"⟩
abbrev cX8_like : ByteArray := prog_10_method_34_code
def yX8_like : MethodName := ⟨RX8, "like", "(II)I"⟩
abbrev cX8_carryOf : ByteArray := prog_10_method_35_code
def yX8_carryOf : MethodName := ⟨RX8, "carryOf", "(II)I"⟩
abbrev cX8_carries : ByteArray := prog_10_method_36_code
def yX8_carries : MethodName := ⟨RX8, "carries", "(II)I"⟩
abbrev cX8_comesIn : ByteArray := prog_10_method_37_code
def yX8_comesIn : MethodName := ⟨RX8, "comesIn", "()I"⟩
abbrev cX8_visitor : ByteArray := prog_10_method_38_code
def yX8_visitor : MethodName := ⟨RX8, "visitor", "()I"⟩
abbrev cX8_seenIn : ByteArray := prog_10_method_39_code
def yX8_seenIn : MethodName := ⟨RX8, "seenIn", "(II)I"⟩
abbrev cX8_seen : ByteArray := prog_10_method_40_code
def yX8_seen : MethodName := ⟨RX8, "seen", "(II)I"⟩
abbrev cX8_minute : ByteArray := prog_10_method_41_code
def yX8_minute : MethodName := ⟨RX8, "minute", "()V"⟩
abbrev cX8_minutes : ByteArray := prog_10_method_42_code
def yX8_minutes : MethodName := ⟨RX8, "minutes", "(I)V"⟩
abbrev cX8_moves : ByteArray := prog_10_method_43_code
def yX8_moves : MethodName := ⟨RX8, "moves", "(II)V"⟩
abbrev cX8_move : ByteArray := prog_10_method_44_code
def yX8_move : MethodName := ⟨RX8, "move", "(II)I"⟩
abbrev cX8_seenTwice : ByteArray := prog_10_method_45_code
def yX8_seenTwice : MethodName := ⟨RX8, "seenTwice", "()I"⟩
abbrev cX8_waits : ByteArray := prog_10_method_46_code
def yX8_waits : MethodName := ⟨RX8, "waits", "(I)I"⟩
abbrev cX8_allThere : ByteArray := prog_10_method_47_code
def yX8_allThere : MethodName := ⟨RX8, "allThere", "()I"⟩
abbrev cX8_now : ByteArray := prog_10_method_48_code
def yX8_now : MethodName := ⟨RX8, "now", "(I)I"⟩
abbrev cX8_mayGive : ByteArray := prog_10_method_49_code
def yX8_mayGive : MethodName := ⟨RX8, "mayGive", "(III)Z"⟩
abbrev cX8_worthAt : ByteArray := prog_10_method_50_code
def yX8_worthAt : MethodName := ⟨RX8, "worthAt", "(II)I"⟩
abbrev cX8_noHeads : ByteArray := prog_10_method_51_code
def yX8_noHeads : MethodName := ⟨RX8, "noHeads", "()I"⟩
abbrev cX8_findMost : ByteArray := prog_10_method_52_code
def yX8_findMost : MethodName := ⟨RX8, "findMost", "(I)I"⟩
abbrev cX8_most : ByteArray := prog_10_method_53_code
def yX8_most : MethodName := ⟨RX8, "most", "()I"⟩
abbrev cX8_given : ByteArray := prog_10_method_54_code
def yX8_given : MethodName := ⟨RX8, "given", "(I)I"⟩
abbrev cX8_likest : ByteArray := prog_10_method_55_code
def yX8_likest : MethodName := ⟨RX8, "likest", "(I)I"⟩
abbrev cX8_whom : ByteArray := prog_10_method_56_code
def yX8_whom : MethodName := ⟨RX8, "whom", "(I)I"⟩
abbrev cX8_missed : ByteArray := prog_10_method_57_code
def yX8_missed : MethodName := ⟨RX8, "missed", "(I)I"⟩
abbrev cX8_bestWith : ByteArray := prog_10_method_58_code
def yX8_bestWith : MethodName := ⟨RX8, "bestWith", "(II)I"⟩
abbrev cX8_recast : ByteArray := prog_10_method_59_code
def yX8_recast : MethodName := ⟨RX8, "recast", "(I)I"⟩
abbrev cX8_kindFor : ByteArray := prog_10_method_60_code
def yX8_kindFor : MethodName := ⟨RX8, "kindFor", "(I)I"⟩
abbrev cX8_isUnseen : ByteArray := prog_10_method_61_code
def yX8_isUnseen : MethodName := ⟨RX8, "isUnseen", "(IIII)Z"⟩
abbrev cX8_whoCount : ByteArray := prog_10_method_62_code
def yX8_whoCount : MethodName := ⟨RX8, "whoCount", "(I)I"⟩
abbrev cX8_unseen : ByteArray := prog_10_method_63_code
def yX8_unseen : MethodName := ⟨RX8, "unseen", "(II)I"⟩
abbrev cX8_hidden : ByteArray := prog_10_method_64_code
def yX8_hidden : MethodName := ⟨RX8, "hidden", "(I)I"⟩
abbrev cX8_empty : ByteArray := prog_10_method_65_code
def yX8_empty : MethodName := ⟨RX8, "empty", "()I"⟩
abbrev cX8_chances : ByteArray := prog_10_method_66_code
def yX8_chances : MethodName := ⟨RX8, "chances", "()I"⟩
abbrev cX8_onTheWhole : ByteArray := prog_10_method_67_code
def yX8_onTheWhole : MethodName := ⟨RX8, "onTheWhole", "(I)I"⟩
abbrev cX8_common : ByteArray := prog_10_method_68_code
def yX8_common : MethodName := ⟨RX8, "common", "(II)I"⟩
abbrev cX8_worth : ByteArray := prog_10_method_69_code
def yX8_worth : MethodName := ⟨RX8, "worth", "(II)I"⟩
abbrev cX8_next : ByteArray := prog_10_method_70_code
def yX8_next : MethodName := ⟨RX8, "next", "()I"⟩
abbrev cX8_cutOf : ByteArray := prog_10_method_71_code
def yX8_cutOf : MethodName := ⟨RX8, "cutOf", "(II)I"⟩
abbrev cX8_mouldOf : ByteArray := prog_10_method_72_code
def yX8_mouldOf : MethodName := ⟨RX8, "mouldOf", "(IZ)I"⟩
abbrev cX8_mould : ByteArray := prog_10_method_73_code
def yX8_mould : MethodName := ⟨RX8, "mould", "(I)I"⟩
abbrev cX8_cuts : ByteArray := prog_10_method_74_code
def yX8_cuts : MethodName := ⟨RX8, "cuts", "(I)I"⟩
abbrev cX8_waysFrom : ByteArray := prog_10_method_75_code
def yX8_waysFrom : MethodName := ⟨RX8, "waysFrom", "(IIII)I"⟩
abbrev cX8_waysOf : ByteArray := prog_10_method_76_code
def yX8_waysOf : MethodName := ⟨RX8, "waysOf", "(II)I"⟩
abbrev cX8_fits : ByteArray := prog_10_method_77_code
def yX8_fits : MethodName := ⟨RX8, "fits", "(I)I"⟩
abbrev cX8_maybe : ByteArray := prog_10_method_78_code
def yX8_maybe : MethodName := ⟨RX8, "maybe", "(II)I"⟩
abbrev cX8_headsLike : ByteArray := prog_10_method_79_code
def yX8_headsLike : MethodName := ⟨RX8, "headsLike", "(II)I"⟩
abbrev cX8_stand : ByteArray := prog_10_method_80_code
def yX8_stand : MethodName := ⟨RX8, "stand", "(II)I"⟩
abbrev cX8_fire : ByteArray := prog_10_method_81_code
def yX8_fire : MethodName := ⟨RX8, "fire", "(II)I"⟩
abbrev cX8_drawn : ByteArray := prog_10_method_82_code
def yX8_drawn : MethodName := ⟨RX8, "drawn", "(I)I"⟩
abbrev cX8_papers : ByteArray := prog_10_method_83_code
def yX8_papers : MethodName := ⟨RX8, "papers", "(I)I"⟩
abbrev cX8_seed : ByteArray := prog_10_method_84_code
def yX8_seed : MethodName := ⟨RX8, "seed", "(I)I"⟩
abbrev cX8_feed : ByteArray := prog_10_method_85_code
def yX8_feed : MethodName := ⟨RX8, "feed", "(II)I"⟩
abbrev cX8_wipe : ByteArray := prog_10_method_86_code
def yX8_wipe : MethodName := ⟨RX8, "wipe", "()I"⟩
abbrev cX8_byteAt : ByteArray := prog_10_method_87_code
def yX8_byteAt : MethodName := ⟨RX8, "byteAt", "(I)I"⟩
abbrev cX8_next0 : ByteArray := prog_10_method_88_code
def yX8_next0 : MethodName := ⟨RX8, "next0", "()V"⟩
abbrev cX8_isWord : ByteArray := prog_10_method_89_code
def yX8_isWord : MethodName := ⟨RX8, "isWord", "(Ljava/lang/String;)Z"⟩
abbrev cX8_must : ByteArray := prog_10_method_90_code
def yX8_must : MethodName := ⟨RX8, "must", "(Z)V"⟩
abbrev cX8_number : ByteArray := prog_10_method_91_code
def yX8_number : MethodName := ⟨RX8, "number", "(II)I"⟩
abbrev cX8_item : ByteArray := prog_10_method_92_code
def yX8_item : MethodName := ⟨RX8, "item", "(IIII)V"⟩
abbrev cX8_kindTold : ByteArray := prog_10_method_93_code
def yX8_kindTold : MethodName := ⟨RX8, "kindTold", "()I"⟩
abbrev cX8_isNext : ByteArray := prog_10_method_94_code
def yX8_isNext : MethodName := ⟨RX8, "isNext", "(Ljava/lang/String;)Z"⟩
abbrev cX8_readItem : ByteArray := prog_10_method_95_code
def yX8_readItem : MethodName := ⟨RX8, "readItem", "()V"⟩
abbrev cX8_isSo : ByteArray := prog_10_method_96_code
def yX8_isSo : MethodName := ⟨RX8, "isSo", "(I)I"⟩
abbrev cX8_text : ByteArray := prog_10_method_97_code
def yX8_text : MethodName := ⟨RX8, "text", "()I"⟩
abbrev cX8_isSpot : ByteArray := prog_10_method_98_code
def yX8_isSpot : MethodName := ⟨RX8, "isSpot", "(I)Z"⟩
abbrev cX8_hold : ByteArray := prog_10_method_99_code
def yX8_hold : MethodName := ⟨RX8, "hold", "(II)I"⟩
abbrev cX8_as : ByteArray := prog_10_method_100_code
def yX8_as : MethodName := ⟨RX8, "as", "(II)I"⟩
abbrev cX8_isSheet : ByteArray := prog_10_method_101_code
def yX8_isSheet : MethodName := ⟨RX8, "isSheet", "(I)Z"⟩
abbrev cX8_cutTo : ByteArray := prog_10_method_102_code
def yX8_cutTo : MethodName := ⟨RX8, "cutTo", "(II)I"⟩
abbrev cX8_sheet : ByteArray := prog_10_method_103_code
def yX8_sheet : MethodName := ⟨RX8, "sheet", "(III)I"⟩
abbrev cX8_write : ByteArray := prog_10_method_104_code
def yX8_write : MethodName := ⟨RX8, "write", "(III)I"⟩
abbrev cX8_copy : ByteArray := prog_10_method_105_code
def yX8_copy : MethodName := ⟨RX8, "copy", "(IIIII)I"⟩
abbrev cX8_load : ByteArray := prog_10_method_106_code
def yX8_load : MethodName := ⟨RX8, "load", "(I)I"⟩
abbrev cX8_judge : ByteArray := prog_10_method_107_code
def yX8_judge : MethodName := ⟨RX8, "judge", "(I)I"⟩
abbrev cX8_image : ByteArray := prog_10_method_108_code
def yX8_image : MethodName := ⟨RX8, "image", "()I"⟩
abbrev cX8_undo : ByteArray := prog_10_method_109_code
def yX8_undo : MethodName := ⟨RX8, "undo", "()I"⟩
abbrev cX8_tear : ByteArray := prog_10_method_110_code
def yX8_tear : MethodName := ⟨RX8, "tear", "()I"⟩
abbrev cX8_count : ByteArray := prog_10_method_111_code
def yX8_count : MethodName := ⟨RX8, "count", "(I)I"⟩
abbrev cX8_status : ByteArray := prog_10_method_112_code
def yX8_status : MethodName := ⟨RX8, "status", "(I)I"⟩
def RJx145de : String := "java/io/Serializable"
def TJx145de : u_T := fun k => match k with
  | _ => ("", "", "", false)
def tyJx145de : Nat → FieldType := fun k => match k with
  | _ => .int
theorem nmJx145de : ∀ a, a < 0 → ∀ b, b < 0 → a ≠ b → (TJx145de a).2.1 ≠ (TJx145de b).2.1 := by decide +kernel
theorem tyJx145de_ok : ∀ k, k < 0 → parseFieldDescriptor (TJx145de k).2.2.1 = some (tyJx145de k) := by decide +kernel
def RJx9f9b0 : String := "java/lang/CharSequence"
def TJx9f9b0 : u_T := fun k => match k with
  | _ => ("", "", "", false)
def tyJx9f9b0 : Nat → FieldType := fun k => match k with
  | _ => .int
theorem nmJx9f9b0 : ∀ a, a < 0 → ∀ b, b < 0 → a ≠ b → (TJx9f9b0 a).2.1 ≠ (TJx9f9b0 b).2.1 := by decide +kernel
theorem tyJx9f9b0_ok : ∀ k, k < 0 → parseFieldDescriptor (TJx9f9b0 k).2.2.1 = some (tyJx9f9b0 k) := by decide +kernel
def RJxb160c : String := "java/lang/Comparable"
def TJxb160c : u_T := fun k => match k with
  | _ => ("", "", "", false)
def tyJxb160c : Nat → FieldType := fun k => match k with
  | _ => .int
theorem nmJxb160c : ∀ a, a < 0 → ∀ b, b < 0 → a ≠ b → (TJxb160c a).2.1 ≠ (TJxb160c b).2.1 := by decide +kernel
theorem tyJxb160c_ok : ∀ k, k < 0 → parseFieldDescriptor (TJxb160c k).2.2.1 = some (tyJxb160c k) := by decide +kernel
def RJ6 : String := "java/lang/Integer"
def TJ6 : u_T := fun k => match k with
  | _ => ("", "", "", false)
def tyJ6 : Nat → FieldType := fun k => match k with
  | _ => .int
theorem nmJ6 : ∀ a, a < 0 → ∀ b, b < 0 → a ≠ b → (TJ6 a).2.1 ≠ (TJ6 b).2.1 := by decide +kernel
theorem tyJ6_ok : ∀ k, k < 0 → parseFieldDescriptor (TJ6 k).2.2.1 = some (tyJ6 k) := by decide +kernel
abbrev cJ6_bitCount_0f7a4 : ByteArray := prog_11_method_49_code
def yJ6_bitCount_0f7a4 : MethodName := ⟨RJ6, "bitCount", "(I)I"⟩
def RJ9 : String := "java/lang/Math"
def TJ9 : u_T := fun k => match k with
  | _ => ("", "", "", false)
def tyJ9 : Nat → FieldType := fun k => match k with
  | _ => .int
theorem nmJ9 : ∀ a, a < 0 → ∀ b, b < 0 → a ≠ b → (TJ9 a).2.1 ≠ (TJ9 b).2.1 := by decide +kernel
theorem tyJ9_ok : ∀ k, k < 0 → parseFieldDescriptor (TJ9 k).2.2.1 = some (tyJ9 k) := by decide +kernel
abbrev cJ9_abs_0f7a4 : ByteArray := prog_12_method_59_code
def yJ9_abs_0f7a4 : MethodName := ⟨RJ9, "abs", "(I)I"⟩
abbrev cJ9_max_7cf53 : ByteArray := prog_12_method_65_code
def yJ9_max_7cf53 : MethodName := ⟨RJ9, "max", "(II)I"⟩
abbrev cJ9_min_7cf53 : ByteArray := prog_12_method_69_code
def yJ9_min_7cf53 : MethodName := ⟨RJ9, "min", "(II)I"⟩
def RJ0 : String := "java/lang/String"
def TJ0 : u_T := fun k => match k with
  | _ => ("", "", "", false)
def tyJ0 : Nat → FieldType := fun k => match k with
  | _ => .int
theorem nmJ0 : ∀ a, a < 0 → ∀ b, b < 0 → a ≠ b → (TJ0 a).2.1 ≠ (TJ0 b).2.1 := by decide +kernel
theorem tyJ0_ok : ∀ k, k < 0 → parseFieldDescriptor (TJ0 k).2.2.1 = some (tyJ0 k) := by decide +kernel
abbrev cJ0_length_8abf5 : ByteArray := prog_13_method_54_code
def yJ0_length_8abf5 : MethodName := ⟨RJ0, "length", "()I"⟩
abbrev cJ0_charAt_5068e : ByteArray := prog_13_method_56_code
def yJ0_charAt_5068e : MethodName := ⟨RJ0, "charAt", "(I)C"⟩
abbrev cJ0_coder_7d493 : ByteArray := prog_13_method_152_code
def yJ0_coder_7d493 : MethodName := ⟨RJ0, "coder", "()B"⟩
abbrev cJ0_isLatin1_aae02 : ByteArray := prog_13_method_154_code
def yJ0_isLatin1_aae02 : MethodName := ⟨RJ0, "isLatin1", "()Z"⟩
abbrev cJ0_checkIndex_df160 : ByteArray := prog_13_method_155_code
def yJ0_checkIndex_df160 : MethodName := ⟨RJ0, "checkIndex", "(II)V"⟩
def RJ1 : String := "java/lang/StringLatin1"
def TJ1 : u_T := fun k => match k with
  | _ => ("", "", "", false)
def tyJ1 : Nat → FieldType := fun k => match k with
  | _ => .int
theorem nmJ1 : ∀ a, a < 0 → ∀ b, b < 0 → a ≠ b → (TJ1 a).2.1 ≠ (TJ1 b).2.1 := by decide +kernel
theorem tyJ1_ok : ∀ k, k < 0 → parseFieldDescriptor (TJ1 k).2.2.1 = some (tyJ1 k) := by decide +kernel
abbrev cJ1_charAt_3b067 : ByteArray := prog_14_method_2_code
def yJ1_charAt_3b067 : MethodName := ⟨RJ1, "charAt", "([BI)C"⟩
def RJ2 : String := "java/lang/StringUTF16"
def TJ2 : u_T := fun k => match k with
  | _ => ("", "", "", false)
def tyJ2 : Nat → FieldType := fun k => match k with
  | _ => .int
theorem nmJ2 : ∀ a, a < 0 → ∀ b, b < 0 → a ≠ b → (TJ2 a).2.1 ≠ (TJ2 b).2.1 := by decide +kernel
theorem tyJ2_ok : ∀ k, k < 0 → parseFieldDescriptor (TJ2 k).2.2.1 = some (tyJ2 k) := by decide +kernel
abbrev cJ2_getChar_3b067 : ByteArray := prog_15_method_5_code
def yJ2_getChar_3b067 : MethodName := ⟨RJ2, "getChar", "([BI)C"⟩
abbrev cJ2_length_9d52b : ByteArray := prog_15_method_6_code
def yJ2_length_9d52b : MethodName := ⟨RJ2, "length", "([B)I"⟩
abbrev cJ2_charAt_3b067 : ByteArray := prog_15_method_83_code
def yJ2_charAt_3b067 : MethodName := ⟨RJ2, "charAt", "([BI)C"⟩
abbrev cJ2_checkIndex_2214a : ByteArray := prog_15_method_91_code
def yJ2_checkIndex_2214a : MethodName := ⟨RJ2, "checkIndex", "(I[B)V"⟩
def RJ10 : String := "java/lang/System"
def TJ10 : u_T := fun k => match k with
  | _ => ("", "", "", false)
def tyJ10 : Nat → FieldType := fun k => match k with
  | _ => .int
theorem nmJ10 : ∀ a, a < 0 → ∀ b, b < 0 → a ≠ b → (TJ10 a).2.1 ≠ (TJ10 b).2.1 := by decide +kernel
theorem tyJ10_ok : ∀ k, k < 0 → parseFieldDescriptor (TJ10 k).2.2.1 = some (tyJ10 k) := by decide +kernel
def RJxfd54e : String := "java/lang/constant/Constable"
def TJxfd54e : u_T := fun k => match k with
  | _ => ("", "", "", false)
def tyJxfd54e : Nat → FieldType := fun k => match k with
  | _ => .int
theorem nmJxfd54e : ∀ a, a < 0 → ∀ b, b < 0 → a ≠ b → (TJxfd54e a).2.1 ≠ (TJxfd54e b).2.1 := by decide +kernel
theorem tyJxfd54e_ok : ∀ k, k < 0 → parseFieldDescriptor (TJxfd54e k).2.2.1 = some (tyJxfd54e k) := by decide +kernel
def RJx3cf43 : String := "java/lang/constant/ConstantDesc"
def TJx3cf43 : u_T := fun k => match k with
  | _ => ("", "", "", false)
def tyJx3cf43 : Nat → FieldType := fun k => match k with
  | _ => .int
theorem nmJx3cf43 : ∀ a, a < 0 → ∀ b, b < 0 → a ≠ b → (TJx3cf43 a).2.1 ≠ (TJx3cf43 b).2.1 := by decide +kernel
theorem tyJx3cf43_ok : ∀ k, k < 0 → parseFieldDescriptor (TJx3cf43 k).2.2.1 = some (tyJx3cf43 k) := by decide +kernel
def RJ7 : String := "java/util/Arrays"
def TJ7 : u_T := fun k => match k with
  | _ => ("", "", "", false)
def tyJ7 : Nat → FieldType := fun k => match k with
  | _ => .int
theorem nmJ7 : ∀ a, a < 0 → ∀ b, b < 0 → a ≠ b → (TJ7 a).2.1 ≠ (TJ7 b).2.1 := by decide +kernel
theorem tyJ7_ok : ∀ k, k < 0 → parseFieldDescriptor (TJ7 k).2.2.1 = some (tyJ7 k) := by decide +kernel
abbrev cJ7_fill_53178 : ByteArray := prog_17_method_103_code
def yJ7_fill_53178 : MethodName := ⟨RJ7, "fill", "([II)V"⟩
def RJ3 : String := "jdk/internal/util/Preconditions"
def TJ3 : u_T := fun k => match k with
  | _ => ("", "", "", false)
def tyJ3 : Nat → FieldType := fun k => match k with
  | _ => .int
theorem nmJ3 : ∀ a, a < 0 → ∀ b, b < 0 → a ≠ b → (TJ3 a).2.1 ≠ (TJ3 b).2.1 := by decide +kernel
theorem tyJ3_ok : ∀ k, k < 0 → parseFieldDescriptor (TJ3 k).2.2.1 = some (tyJ3 k) := by decide +kernel
abbrev cJ3_checkIndex_8e157 : ByteArray := prog_18_method_11_code
def yJ3_checkIndex_8e157 : MethodName := ⟨RJ3, "checkIndex", "(IILjava/util/function/BiFunction;)I"⟩
def RL : String := "SameHeadsLaw"
abbrev cL_law : ByteArray := code
def yL_law : MethodName := ⟨RL, "law", "([I)Z"⟩
abbrev vwCl : List vw_C := [(RX0, TX0, 4), (RX1, TX1, 15), (RX3, TX3, 7), (RX4, TX4, 3), (RX5, TX5, 2), (RX6, TX6, 2), (RX7, TX7, 10), (RX8, TX8, 24)]
end
section
theorem dX0_init_0 : decode cX0_init 0 = .ok (.aload_n 0, 1) := by decide +kernel
theorem dX0_init_1 : decode cX0_init 1 = .ok (.invokespecial 3, 3) := by decide +kernel
theorem dX0_init_4 : decode cX0_init 4 = .ok (.aload_n 0, 1) := by decide +kernel
theorem dX0_init_5 : decode cX0_init 5 = .ok (.bipush 60, 2) := by decide +kernel
theorem dX0_init_7 : decode cX0_init 7 = .ok (.newarray .int, 2) := by decide +kernel
theorem dX0_init_9 : decode cX0_init 9 = .ok (.putfield 9, 3) := by decide +kernel
theorem dX0_init_12 : decode cX0_init 12 = .ok (.aload_n 0, 1) := by decide +kernel
theorem dX0_init_13 : decode cX0_init 13 = .ok (.bipush 64, 2) := by decide +kernel
theorem dX0_init_15 : decode cX0_init 15 = .ok (.newarray .int, 2) := by decide +kernel
theorem dX0_init_17 : decode cX0_init 17 = .ok (.putfield 15, 3) := by decide +kernel
theorem dX0_init_20 : decode cX0_init 20 = .ok (.return_, 1) := by decide +kernel
theorem dX0_bestWorth_0 : decode cX0_bestWorth 0 = .ok (.aload_n 0, 1) := by decide +kernel
theorem dX0_bestWorth_1 : decode cX0_bestWorth 1 = .ok (.aload_n 1, 1) := by decide +kernel
theorem dX0_bestWorth_2 : decode cX0_bestWorth 2 = .ok (.invokevirtual 18, 3) := by decide +kernel
theorem dX0_bestWorth_5 : decode cX0_bestWorth 5 = .ok (.aload_n 0, 1) := by decide +kernel
theorem dX0_bestWorth_6 : decode cX0_bestWorth 6 = .ok (.aload_n 0, 1) := by decide +kernel
theorem dX0_bestWorth_7 : decode cX0_bestWorth 7 = .ok (.getfield 22, 3) := by decide +kernel
theorem dX0_bestWorth_10 : decode cX0_bestWorth 10 = .ok (.aload_n 0, 1) := by decide +kernel
theorem dX0_bestWorth_11 : decode cX0_bestWorth 11 = .ok (.getfield 26, 3) := by decide +kernel
theorem dX0_bestWorth_14 : decode cX0_bestWorth 14 = .ok (.invokevirtual 29, 3) := by decide +kernel
theorem dX0_bestWorth_17 : decode cX0_bestWorth 17 = .ok (.ireturn, 1) := by decide +kernel
theorem dX0_lossOf_0 : decode cX0_lossOf 0 = .ok (.aload_n 0, 1) := by decide +kernel
theorem dX0_lossOf_1 : decode cX0_lossOf 1 = .ok (.aload_n 1, 1) := by decide +kernel
theorem dX0_lossOf_2 : decode cX0_lossOf 2 = .ok (.invokevirtual 18, 3) := by decide +kernel
theorem dX0_lossOf_5 : decode cX0_lossOf 5 = .ok (.aload_n 0, 1) := by decide +kernel
theorem dX0_lossOf_6 : decode cX0_lossOf 6 = .ok (.aload_n 0, 1) := by decide +kernel
theorem dX0_lossOf_7 : decode cX0_lossOf 7 = .ok (.getfield 22, 3) := by decide +kernel
theorem dX0_lossOf_10 : decode cX0_lossOf 10 = .ok (.aload_n 0, 1) := by decide +kernel
theorem dX0_lossOf_11 : decode cX0_lossOf 11 = .ok (.getfield 26, 3) := by decide +kernel
theorem dX0_lossOf_14 : decode cX0_lossOf 14 = .ok (.invokevirtual 29, 3) := by decide +kernel
theorem dX0_lossOf_17 : decode cX0_lossOf 17 = .ok (.aload_n 0, 1) := by decide +kernel
theorem dX0_lossOf_18 : decode cX0_lossOf 18 = .ok (.aload_n 0, 1) := by decide +kernel
theorem dX0_lossOf_19 : decode cX0_lossOf 19 = .ok (.getfield 22, 3) := by decide +kernel
theorem dX0_lossOf_22 : decode cX0_lossOf 22 = .ok (.aload_n 0, 1) := by decide +kernel
theorem dX0_lossOf_23 : decode cX0_lossOf 23 = .ok (.getfield 26, 3) := by decide +kernel
theorem dX0_lossOf_26 : decode cX0_lossOf 26 = .ok (.iconst 1, 1) := by decide +kernel
theorem dX0_lossOf_27 : decode cX0_lossOf 27 = .ok (.iload_n 2, 1) := by decide +kernel
theorem dX0_lossOf_28 : decode cX0_lossOf 28 = .ok (.ishl, 1) := by decide +kernel
theorem dX0_lossOf_29 : decode cX0_lossOf 29 = .ok (.iconst (-1), 1) := by decide +kernel
theorem dX0_lossOf_30 : decode cX0_lossOf 30 = .ok (.ixor, 1) := by decide +kernel
theorem dX0_lossOf_31 : decode cX0_lossOf 31 = .ok (.iand, 1) := by decide +kernel
theorem dX0_lossOf_32 : decode cX0_lossOf 32 = .ok (.invokevirtual 29, 3) := by decide +kernel
theorem dX0_lossOf_35 : decode cX0_lossOf 35 = .ok (.isub, 1) := by decide +kernel
theorem dX0_lossOf_36 : decode cX0_lossOf 36 = .ok (.ireturn, 1) := by decide +kernel
theorem dX0_headIn_0 : decode cX0_headIn 0 = .ok (.aload_n 0, 1) := by decide +kernel
theorem dX0_headIn_1 : decode cX0_headIn 1 = .ok (.aload_n 1, 1) := by decide +kernel
theorem dX0_headIn_2 : decode cX0_headIn 2 = .ok (.invokevirtual 18, 3) := by decide +kernel
theorem dX0_headIn_5 : decode cX0_headIn 5 = .ok (.aload_n 0, 1) := by decide +kernel
theorem dX0_headIn_6 : decode cX0_headIn 6 = .ok (.aload_n 0, 1) := by decide +kernel
theorem dX0_headIn_7 : decode cX0_headIn 7 = .ok (.getfield 22, 3) := by decide +kernel
theorem dX0_headIn_10 : decode cX0_headIn 10 = .ok (.aload_n 0, 1) := by decide +kernel
theorem dX0_headIn_11 : decode cX0_headIn 11 = .ok (.getfield 26, 3) := by decide +kernel
theorem dX0_headIn_14 : decode cX0_headIn 14 = .ok (.invokevirtual 29, 3) := by decide +kernel
theorem dX0_headIn_17 : decode cX0_headIn 17 = .ok (.istore_n 3, 1) := by decide +kernel
theorem dX0_headIn_18 : decode cX0_headIn 18 = .ok (.iconst (-1), 1) := by decide +kernel
theorem dX0_headIn_19 : decode cX0_headIn 19 = .ok (.istore 4, 2) := by decide +kernel
theorem dX0_headIn_21 : decode cX0_headIn 21 = .ok (.iconst 0, 1) := by decide +kernel
theorem dX0_headIn_22 : decode cX0_headIn 22 = .ok (.istore 5, 2) := by decide +kernel
theorem dX0_headIn_24 : decode cX0_headIn 24 = .ok (.iload 5, 2) := by decide +kernel
theorem dX0_headIn_26 : decode cX0_headIn 26 = .ok (.iload_n 2, 1) := by decide +kernel
theorem dX0_headIn_27 : decode cX0_headIn 27 = .ok (.if_icmp .gt 85, 3) := by decide +kernel
theorem dX0_headIn_30 : decode cX0_headIn 30 = .ok (.iconst (-1), 1) := by decide +kernel
theorem dX0_headIn_31 : decode cX0_headIn 31 = .ok (.istore 4, 2) := by decide +kernel
theorem dX0_headIn_33 : decode cX0_headIn 33 = .ok (.aload_n 0, 1) := by decide +kernel
theorem dX0_headIn_34 : decode cX0_headIn 34 = .ok (.getfield 22, 3) := by decide +kernel
theorem dX0_headIn_37 : decode cX0_headIn 37 = .ok (.iconst 1, 1) := by decide +kernel
theorem dX0_headIn_38 : decode cX0_headIn 38 = .ok (.iload 5, 2) := by decide +kernel
theorem dX0_headIn_40 : decode cX0_headIn 40 = .ok (.ishl, 1) := by decide +kernel
theorem dX0_headIn_41 : decode cX0_headIn 41 = .ok (.iand, 1) := by decide +kernel
theorem dX0_headIn_42 : decode cX0_headIn 42 = .ok (.ifCond .eq 27, 3) := by decide +kernel
theorem dX0_headIn_45 : decode cX0_headIn 45 = .ok (.aload_n 0, 1) := by decide +kernel
theorem dX0_headIn_46 : decode cX0_headIn 46 = .ok (.dup, 1) := by decide +kernel
theorem dX0_headIn_47 : decode cX0_headIn 47 = .ok (.getfield 22, 3) := by decide +kernel
theorem dX0_headIn_50 : decode cX0_headIn 50 = .ok (.iconst 1, 1) := by decide +kernel
theorem dX0_headIn_51 : decode cX0_headIn 51 = .ok (.iload 5, 2) := by decide +kernel
theorem dX0_headIn_53 : decode cX0_headIn 53 = .ok (.ishl, 1) := by decide +kernel
theorem dX0_headIn_54 : decode cX0_headIn 54 = .ok (.iconst (-1), 1) := by decide +kernel
theorem dX0_headIn_55 : decode cX0_headIn 55 = .ok (.ixor, 1) := by decide +kernel
theorem dX0_headIn_56 : decode cX0_headIn 56 = .ok (.iand, 1) := by decide +kernel
theorem dX0_headIn_57 : decode cX0_headIn 57 = .ok (.putfield 22, 3) := by decide +kernel
theorem dX0_headIn_60 : decode cX0_headIn 60 = .ok (.aload_n 0, 1) := by decide +kernel
theorem dX0_headIn_61 : decode cX0_headIn 61 = .ok (.iload 5, 2) := by decide +kernel
theorem dX0_headIn_63 : decode cX0_headIn 63 = .ok (.iload_n 3, 1) := by decide +kernel
theorem dX0_headIn_64 : decode cX0_headIn 64 = .ok (.invokevirtual 33, 3) := by decide +kernel
theorem dX0_headIn_67 : decode cX0_headIn 67 = .ok (.istore 4, 2) := by decide +kernel
theorem dX0_headIn_69 : decode cX0_headIn 69 = .ok (.iload 4, 2) := by decide +kernel
theorem dX0_headIn_71 : decode cX0_headIn 71 = .ok (.iconst (-1), 1) := by decide +kernel
theorem dX0_headIn_72 : decode cX0_headIn 72 = .ok (.if_icmp .eq 34, 3) := by decide +kernel
theorem dX0_headIn_75 : decode cX0_headIn 75 = .ok (.aload_n 0, 1) := by decide +kernel
theorem dX0_headIn_76 : decode cX0_headIn 76 = .ok (.dup, 1) := by decide +kernel
theorem dX0_headIn_77 : decode cX0_headIn 77 = .ok (.getfield 26, 3) := by decide +kernel
theorem dX0_headIn_80 : decode cX0_headIn 80 = .ok (.iconst 1, 1) := by decide +kernel
theorem dX0_headIn_81 : decode cX0_headIn 81 = .ok (.iload 4, 2) := by decide +kernel
theorem dX0_headIn_83 : decode cX0_headIn 83 = .ok (.ishl, 1) := by decide +kernel
theorem dX0_headIn_84 : decode cX0_headIn 84 = .ok (.iconst (-1), 1) := by decide +kernel
theorem dX0_headIn_85 : decode cX0_headIn 85 = .ok (.ixor, 1) := by decide +kernel
theorem dX0_headIn_86 : decode cX0_headIn 86 = .ok (.iand, 1) := by decide +kernel
theorem dX0_headIn_87 : decode cX0_headIn 87 = .ok (.putfield 26, 3) := by decide +kernel
theorem dX0_headIn_90 : decode cX0_headIn 90 = .ok (.iload_n 3, 1) := by decide +kernel
theorem dX0_headIn_91 : decode cX0_headIn 91 = .ok (.aload_n 0, 1) := by decide +kernel
theorem dX0_headIn_92 : decode cX0_headIn 92 = .ok (.getfield 9, 3) := by decide +kernel
theorem dX0_headIn_95 : decode cX0_headIn 95 = .ok (.iload 4, 2) := by decide +kernel
theorem dX0_headIn_97 : decode cX0_headIn 97 = .ok (.bipush 6, 2) := by decide +kernel
theorem dX0_headIn_99 : decode cX0_headIn 99 = .ok (.imul, 1) := by decide +kernel
theorem dX0_headIn_100 : decode cX0_headIn 100 = .ok (.iload 5, 2) := by decide +kernel
theorem dX0_headIn_102 : decode cX0_headIn 102 = .ok (.iadd, 1) := by decide +kernel
theorem dX0_headIn_103 : decode cX0_headIn 103 = .ok (.iaload, 1) := by decide +kernel
theorem dX0_headIn_104 : decode cX0_headIn 104 = .ok (.isub, 1) := by decide +kernel
theorem dX0_headIn_105 : decode cX0_headIn 105 = .ok (.istore_n 3, 1) := by decide +kernel
theorem dX0_headIn_106 : decode cX0_headIn 106 = .ok (.iinc 5 1, 3) := by decide +kernel
theorem dX0_headIn_109 : decode cX0_headIn 109 = .ok (.goto (-85), 3) := by decide +kernel
theorem dX0_headIn_112 : decode cX0_headIn 112 = .ok (.iload 4, 2) := by decide +kernel
theorem dX0_headIn_114 : decode cX0_headIn 114 = .ok (.ireturn, 1) := by decide +kernel
theorem dX0_bestLooks_0 : decode cX0_bestLooks 0 = .ok (.aload_n 0, 1) := by decide +kernel
theorem dX0_bestLooks_1 : decode cX0_bestLooks 1 = .ok (.aload_n 1, 1) := by decide +kernel
theorem dX0_bestLooks_2 : decode cX0_bestLooks 2 = .ok (.invokevirtual 18, 3) := by decide +kernel
theorem dX0_bestLooks_5 : decode cX0_bestLooks 5 = .ok (.aload_n 0, 1) := by decide +kernel
theorem dX0_bestLooks_6 : decode cX0_bestLooks 6 = .ok (.aload_n 0, 1) := by decide +kernel
theorem dX0_bestLooks_7 : decode cX0_bestLooks 7 = .ok (.getfield 22, 3) := by decide +kernel
theorem dX0_bestLooks_10 : decode cX0_bestLooks 10 = .ok (.aload_n 0, 1) := by decide +kernel
theorem dX0_bestLooks_11 : decode cX0_bestLooks 11 = .ok (.getfield 26, 3) := by decide +kernel
theorem dX0_bestLooks_14 : decode cX0_bestLooks 14 = .ok (.iconst 1, 1) := by decide +kernel
theorem dX0_bestLooks_15 : decode cX0_bestLooks 15 = .ok (.iload_n 2, 1) := by decide +kernel
theorem dX0_bestLooks_16 : decode cX0_bestLooks 16 = .ok (.ishl, 1) := by decide +kernel
theorem dX0_bestLooks_17 : decode cX0_bestLooks 17 = .ok (.iconst (-1), 1) := by decide +kernel
theorem dX0_bestLooks_18 : decode cX0_bestLooks 18 = .ok (.ixor, 1) := by decide +kernel
theorem dX0_bestLooks_19 : decode cX0_bestLooks 19 = .ok (.iand, 1) := by decide +kernel
theorem dX0_bestLooks_20 : decode cX0_bestLooks 20 = .ok (.invokevirtual 29, 3) := by decide +kernel
theorem dX0_bestLooks_23 : decode cX0_bestLooks 23 = .ok (.pop, 1) := by decide +kernel
theorem dX0_bestLooks_24 : decode cX0_bestLooks 24 = .ok (.iconst 0, 1) := by decide +kernel
theorem dX0_bestLooks_25 : decode cX0_bestLooks 25 = .ok (.istore_n 3, 1) := by decide +kernel
theorem dX0_bestLooks_26 : decode cX0_bestLooks 26 = .ok (.iconst (-1), 1) := by decide +kernel
theorem dX0_bestLooks_27 : decode cX0_bestLooks 27 = .ok (.istore 4, 2) := by decide +kernel
theorem dX0_bestLooks_29 : decode cX0_bestLooks 29 = .ok (.iconst 0, 1) := by decide +kernel
theorem dX0_bestLooks_30 : decode cX0_bestLooks 30 = .ok (.istore 5, 2) := by decide +kernel
theorem dX0_bestLooks_32 : decode cX0_bestLooks 32 = .ok (.iload 5, 2) := by decide +kernel
theorem dX0_bestLooks_34 : decode cX0_bestLooks 34 = .ok (.sipush 255, 3) := by decide +kernel
theorem dX0_bestLooks_37 : decode cX0_bestLooks 37 = .ok (.if_icmp .gt 38, 3) := by decide +kernel
theorem dX0_bestLooks_40 : decode cX0_bestLooks 40 = .ok (.aload_n 0, 1) := by decide +kernel
theorem dX0_bestLooks_41 : decode cX0_bestLooks 41 = .ok (.aload_n 1, 1) := by decide +kernel
theorem dX0_bestLooks_42 : decode cX0_bestLooks 42 = .ok (.aload_n 1, 1) := by decide +kernel
theorem dX0_bestLooks_43 : decode cX0_bestLooks 43 = .ok (.getfield 36, 3) := by decide +kernel
theorem dX0_bestLooks_46 : decode cX0_bestLooks 46 = .ok (.iload_n 2, 1) := by decide +kernel
theorem dX0_bestLooks_47 : decode cX0_bestLooks 47 = .ok (.iaload, 1) := by decide +kernel
theorem dX0_bestLooks_48 : decode cX0_bestLooks 48 = .ok (.iload 5, 2) := by decide +kernel
theorem dX0_bestLooks_50 : decode cX0_bestLooks 50 = .ok (.invokevirtual 41, 3) := by decide +kernel
theorem dX0_bestLooks_53 : decode cX0_bestLooks 53 = .ok (.istore 6, 2) := by decide +kernel
theorem dX0_bestLooks_55 : decode cX0_bestLooks 55 = .ok (.iload 6, 2) := by decide +kernel
theorem dX0_bestLooks_57 : decode cX0_bestLooks 57 = .ok (.iload 4, 2) := by decide +kernel
theorem dX0_bestLooks_59 : decode cX0_bestLooks 59 = .ok (.if_icmp .le 10, 3) := by decide +kernel
theorem dX0_bestLooks_62 : decode cX0_bestLooks 62 = .ok (.iload 6, 2) := by decide +kernel
theorem dX0_bestLooks_64 : decode cX0_bestLooks 64 = .ok (.istore 4, 2) := by decide +kernel
theorem dX0_bestLooks_66 : decode cX0_bestLooks 66 = .ok (.iload 5, 2) := by decide +kernel
theorem dX0_bestLooks_68 : decode cX0_bestLooks 68 = .ok (.istore_n 3, 1) := by decide +kernel
theorem dX0_bestLooks_69 : decode cX0_bestLooks 69 = .ok (.iinc 5 1, 3) := by decide +kernel
theorem dX0_bestLooks_72 : decode cX0_bestLooks 72 = .ok (.goto (-40), 3) := by decide +kernel
theorem dX0_bestLooks_75 : decode cX0_bestLooks 75 = .ok (.iload_n 3, 1) := by decide +kernel
theorem dX0_bestLooks_76 : decode cX0_bestLooks 76 = .ok (.ireturn, 1) := by decide +kernel
theorem dX0_bestKind_0 : decode cX0_bestKind 0 = .ok (.aload_n 0, 1) := by decide +kernel
theorem dX0_bestKind_1 : decode cX0_bestKind 1 = .ok (.aload_n 1, 1) := by decide +kernel
theorem dX0_bestKind_2 : decode cX0_bestKind 2 = .ok (.invokevirtual 18, 3) := by decide +kernel
theorem dX0_bestKind_5 : decode cX0_bestKind 5 = .ok (.aload_n 0, 1) := by decide +kernel
theorem dX0_bestKind_6 : decode cX0_bestKind 6 = .ok (.aload_n 0, 1) := by decide +kernel
theorem dX0_bestKind_7 : decode cX0_bestKind 7 = .ok (.getfield 22, 3) := by decide +kernel
theorem dX0_bestKind_10 : decode cX0_bestKind 10 = .ok (.aload_n 0, 1) := by decide +kernel
theorem dX0_bestKind_11 : decode cX0_bestKind 11 = .ok (.getfield 26, 3) := by decide +kernel
theorem dX0_bestKind_14 : decode cX0_bestKind 14 = .ok (.iconst 1, 1) := by decide +kernel
theorem dX0_bestKind_15 : decode cX0_bestKind 15 = .ok (.iload_n 2, 1) := by decide +kernel
theorem dX0_bestKind_16 : decode cX0_bestKind 16 = .ok (.ishl, 1) := by decide +kernel
theorem dX0_bestKind_17 : decode cX0_bestKind 17 = .ok (.iconst (-1), 1) := by decide +kernel
theorem dX0_bestKind_18 : decode cX0_bestKind 18 = .ok (.ixor, 1) := by decide +kernel
theorem dX0_bestKind_19 : decode cX0_bestKind 19 = .ok (.iand, 1) := by decide +kernel
theorem dX0_bestKind_20 : decode cX0_bestKind 20 = .ok (.invokevirtual 29, 3) := by decide +kernel
theorem dX0_bestKind_23 : decode cX0_bestKind 23 = .ok (.pop, 1) := by decide +kernel
theorem dX0_bestKind_24 : decode cX0_bestKind 24 = .ok (.iconst 0, 1) := by decide +kernel
theorem dX0_bestKind_25 : decode cX0_bestKind 25 = .ok (.istore_n 3, 1) := by decide +kernel
theorem dX0_bestKind_26 : decode cX0_bestKind 26 = .ok (.iconst (-1), 1) := by decide +kernel
theorem dX0_bestKind_27 : decode cX0_bestKind 27 = .ok (.istore 4, 2) := by decide +kernel
theorem dX0_bestKind_29 : decode cX0_bestKind 29 = .ok (.iconst 0, 1) := by decide +kernel
theorem dX0_bestKind_30 : decode cX0_bestKind 30 = .ok (.istore 5, 2) := by decide +kernel
theorem dX0_bestKind_32 : decode cX0_bestKind 32 = .ok (.iload 5, 2) := by decide +kernel
theorem dX0_bestKind_34 : decode cX0_bestKind 34 = .ok (.bipush 6, 2) := by decide +kernel
theorem dX0_bestKind_36 : decode cX0_bestKind 36 = .ok (.if_icmp .gt 38, 3) := by decide +kernel
theorem dX0_bestKind_39 : decode cX0_bestKind 39 = .ok (.aload_n 0, 1) := by decide +kernel
theorem dX0_bestKind_40 : decode cX0_bestKind 40 = .ok (.aload_n 1, 1) := by decide +kernel
theorem dX0_bestKind_41 : decode cX0_bestKind 41 = .ok (.iload 5, 2) := by decide +kernel
theorem dX0_bestKind_43 : decode cX0_bestKind 43 = .ok (.aload_n 1, 1) := by decide +kernel
theorem dX0_bestKind_44 : decode cX0_bestKind 44 = .ok (.getfield 47, 3) := by decide +kernel
theorem dX0_bestKind_47 : decode cX0_bestKind 47 = .ok (.iload_n 2, 1) := by decide +kernel
theorem dX0_bestKind_48 : decode cX0_bestKind 48 = .ok (.iaload, 1) := by decide +kernel
theorem dX0_bestKind_49 : decode cX0_bestKind 49 = .ok (.invokevirtual 41, 3) := by decide +kernel
theorem dX0_bestKind_52 : decode cX0_bestKind 52 = .ok (.istore 6, 2) := by decide +kernel
theorem dX0_bestKind_54 : decode cX0_bestKind 54 = .ok (.iload 6, 2) := by decide +kernel
theorem dX0_bestKind_56 : decode cX0_bestKind 56 = .ok (.iload 4, 2) := by decide +kernel
theorem dX0_bestKind_58 : decode cX0_bestKind 58 = .ok (.if_icmp .le 10, 3) := by decide +kernel
theorem dX0_bestKind_61 : decode cX0_bestKind 61 = .ok (.iload 6, 2) := by decide +kernel
theorem dX0_bestKind_63 : decode cX0_bestKind 63 = .ok (.istore 4, 2) := by decide +kernel
theorem dX0_bestKind_65 : decode cX0_bestKind 65 = .ok (.iload 5, 2) := by decide +kernel
theorem dX0_bestKind_67 : decode cX0_bestKind 67 = .ok (.istore_n 3, 1) := by decide +kernel
theorem dX0_bestKind_68 : decode cX0_bestKind 68 = .ok (.iinc 5 1, 3) := by decide +kernel
theorem dX0_bestKind_71 : decode cX0_bestKind 71 = .ok (.goto (-39), 3) := by decide +kernel
theorem dX0_bestKind_74 : decode cX0_bestKind 74 = .ok (.iload_n 3, 1) := by decide +kernel
theorem dX0_bestKind_75 : decode cX0_bestKind 75 = .ok (.ireturn, 1) := by decide +kernel
theorem dX0_survey_0 : decode cX0_survey 0 = .ok (.aload_n 0, 1) := by decide +kernel
theorem dX0_survey_1 : decode cX0_survey 1 = .ok (.aload_n 1, 1) := by decide +kernel
theorem dX0_survey_2 : decode cX0_survey 2 = .ok (.invokevirtual 50, 3) := by decide +kernel
theorem dX0_survey_5 : decode cX0_survey 5 = .ok (.putfield 22, 3) := by decide +kernel
theorem dX0_survey_8 : decode cX0_survey 8 = .ok (.aload_n 0, 1) := by decide +kernel
theorem dX0_survey_9 : decode cX0_survey 9 = .ok (.iconst 0, 1) := by decide +kernel
theorem dX0_survey_10 : decode cX0_survey 10 = .ok (.putfield 26, 3) := by decide +kernel
theorem dX0_survey_13 : decode cX0_survey 13 = .ok (.iconst 0, 1) := by decide +kernel
theorem dX0_survey_14 : decode cX0_survey 14 = .ok (.istore_n 2, 1) := by decide +kernel
theorem dX0_survey_15 : decode cX0_survey 15 = .ok (.iload_n 2, 1) := by decide +kernel
theorem dX0_survey_16 : decode cX0_survey 16 = .ok (.aload_n 1, 1) := by decide +kernel
theorem dX0_survey_17 : decode cX0_survey 17 = .ok (.getfield 54, 3) := by decide +kernel
theorem dX0_survey_20 : decode cX0_survey 20 = .ok (.if_icmp .ge 81, 3) := by decide +kernel
theorem dX0_survey_23 : decode cX0_survey 23 = .ok (.aload_n 1, 1) := by decide +kernel
theorem dX0_survey_24 : decode cX0_survey 24 = .ok (.iload_n 2, 1) := by decide +kernel
theorem dX0_survey_25 : decode cX0_survey 25 = .ok (.invokevirtual 57, 3) := by decide +kernel
theorem dX0_survey_28 : decode cX0_survey 28 = .ok (.ifCond .eq 67, 3) := by decide +kernel
theorem dX0_survey_31 : decode cX0_survey 31 = .ok (.aload_n 0, 1) := by decide +kernel
theorem dX0_survey_32 : decode cX0_survey 32 = .ok (.dup, 1) := by decide +kernel
theorem dX0_survey_33 : decode cX0_survey 33 = .ok (.getfield 26, 3) := by decide +kernel
theorem dX0_survey_36 : decode cX0_survey 36 = .ok (.iconst 1, 1) := by decide +kernel
theorem dX0_survey_37 : decode cX0_survey 37 = .ok (.iload_n 2, 1) := by decide +kernel
theorem dX0_survey_38 : decode cX0_survey 38 = .ok (.ishl, 1) := by decide +kernel
theorem dX0_survey_39 : decode cX0_survey 39 = .ok (.ior, 1) := by decide +kernel
theorem dX0_survey_40 : decode cX0_survey 40 = .ok (.putfield 26, 3) := by decide +kernel
theorem dX0_survey_43 : decode cX0_survey 43 = .ok (.iconst 0, 1) := by decide +kernel
theorem dX0_survey_44 : decode cX0_survey 44 = .ok (.istore_n 3, 1) := by decide +kernel
theorem dX0_survey_45 : decode cX0_survey 45 = .ok (.iload_n 3, 1) := by decide +kernel
theorem dX0_survey_46 : decode cX0_survey 46 = .ok (.bipush 6, 2) := by decide +kernel
theorem dX0_survey_48 : decode cX0_survey 48 = .ok (.if_icmp .ge 47, 3) := by decide +kernel
theorem dX0_survey_51 : decode cX0_survey 51 = .ok (.aload_n 1, 1) := by decide +kernel
theorem dX0_survey_52 : decode cX0_survey 52 = .ok (.getfield 61, 3) := by decide +kernel
theorem dX0_survey_55 : decode cX0_survey 55 = .ok (.iload_n 3, 1) := by decide +kernel
theorem dX0_survey_56 : decode cX0_survey 56 = .ok (.iaload, 1) := by decide +kernel
theorem dX0_survey_57 : decode cX0_survey 57 = .ok (.istore 4, 2) := by decide +kernel
theorem dX0_survey_59 : decode cX0_survey 59 = .ok (.aload_n 0, 1) := by decide +kernel
theorem dX0_survey_60 : decode cX0_survey 60 = .ok (.getfield 9, 3) := by decide +kernel
theorem dX0_survey_63 : decode cX0_survey 63 = .ok (.iload_n 2, 1) := by decide +kernel
theorem dX0_survey_64 : decode cX0_survey 64 = .ok (.bipush 6, 2) := by decide +kernel
theorem dX0_survey_66 : decode cX0_survey 66 = .ok (.imul, 1) := by decide +kernel
theorem dX0_survey_67 : decode cX0_survey 67 = .ok (.iload_n 3, 1) := by decide +kernel
theorem dX0_survey_68 : decode cX0_survey 68 = .ok (.iadd, 1) := by decide +kernel
theorem dX0_survey_69 : decode cX0_survey 69 = .ok (.iload 4, 2) := by decide +kernel
theorem dX0_survey_71 : decode cX0_survey 71 = .ok (.invokestatic 64, 3) := by decide +kernel
theorem dX0_survey_74 : decode cX0_survey 74 = .ok (.ifCond .eq 13, 3) := by decide +kernel
theorem dX0_survey_77 : decode cX0_survey 77 = .ok (.aload_n 1, 1) := by decide +kernel
theorem dX0_survey_78 : decode cX0_survey 78 = .ok (.iload_n 2, 1) := by decide +kernel
theorem dX0_survey_79 : decode cX0_survey 79 = .ok (.iload 4, 2) := by decide +kernel
theorem dX0_survey_81 : decode cX0_survey 81 = .ok (.invokevirtual 67, 3) := by decide +kernel
theorem dX0_survey_84 : decode cX0_survey 84 = .ok (.goto 4, 3) := by decide +kernel
theorem dX0_survey_87 : decode cX0_survey 87 = .ok (.iconst 0, 1) := by decide +kernel
theorem dX0_survey_88 : decode cX0_survey 88 = .ok (.iastore, 1) := by decide +kernel
theorem dX0_survey_89 : decode cX0_survey 89 = .ok (.iinc 3 1, 3) := by decide +kernel
theorem dX0_survey_92 : decode cX0_survey 92 = .ok (.goto (-47), 3) := by decide +kernel
theorem dX0_survey_95 : decode cX0_survey 95 = .ok (.iinc 2 1, 3) := by decide +kernel
theorem dX0_survey_98 : decode cX0_survey 98 = .ok (.goto (-83), 3) := by decide +kernel
theorem dX0_survey_101 : decode cX0_survey 101 = .ok (.return_, 1) := by decide +kernel
theorem dX0_fill_0 : decode cX0_fill 0 = .ok (.aload_n 0, 1) := by decide +kernel
theorem dX0_fill_1 : decode cX0_fill 1 = .ok (.getfield 15, 3) := by decide +kernel
theorem dX0_fill_4 : decode cX0_fill 4 = .ok (.iconst 0, 1) := by decide +kernel
theorem dX0_fill_5 : decode cX0_fill 5 = .ok (.invokestatic 70, 3) := by decide +kernel
theorem dX0_fill_8 : decode cX0_fill 8 = .ok (.iconst 0, 1) := by decide +kernel
theorem dX0_fill_9 : decode cX0_fill 9 = .ok (.istore_n 3, 1) := by decide +kernel
theorem dX0_fill_10 : decode cX0_fill 10 = .ok (.iload_n 3, 1) := by decide +kernel
theorem dX0_fill_11 : decode cX0_fill 11 = .ok (.bipush 10, 2) := by decide +kernel
theorem dX0_fill_13 : decode cX0_fill 13 = .ok (.if_icmp .ge 23, 3) := by decide +kernel
theorem dX0_fill_16 : decode cX0_fill 16 = .ok (.iload_n 2, 1) := by decide +kernel
theorem dX0_fill_17 : decode cX0_fill 17 = .ok (.iconst 1, 1) := by decide +kernel
theorem dX0_fill_18 : decode cX0_fill 18 = .ok (.iload_n 3, 1) := by decide +kernel
theorem dX0_fill_19 : decode cX0_fill 19 = .ok (.ishl, 1) := by decide +kernel
theorem dX0_fill_20 : decode cX0_fill 20 = .ok (.iand, 1) := by decide +kernel
theorem dX0_fill_21 : decode cX0_fill 21 = .ok (.ifCond .eq 9, 3) := by decide +kernel
theorem dX0_fill_24 : decode cX0_fill 24 = .ok (.aload_n 0, 1) := by decide +kernel
theorem dX0_fill_25 : decode cX0_fill 25 = .ok (.iload_n 1, 1) := by decide +kernel
theorem dX0_fill_26 : decode cX0_fill 26 = .ok (.iload_n 3, 1) := by decide +kernel
theorem dX0_fill_27 : decode cX0_fill 27 = .ok (.invokevirtual 75, 3) := by decide +kernel
theorem dX0_fill_30 : decode cX0_fill 30 = .ok (.iinc 3 1, 3) := by decide +kernel
theorem dX0_fill_33 : decode cX0_fill 33 = .ok (.goto (-23), 3) := by decide +kernel
theorem dX0_fill_36 : decode cX0_fill 36 = .ok (.aload_n 0, 1) := by decide +kernel
theorem dX0_fill_37 : decode cX0_fill 37 = .ok (.getfield 15, 3) := by decide +kernel
theorem dX0_fill_40 : decode cX0_fill 40 = .ok (.iload_n 1, 1) := by decide +kernel
theorem dX0_fill_41 : decode cX0_fill 41 = .ok (.iaload, 1) := by decide +kernel
theorem dX0_fill_42 : decode cX0_fill 42 = .ok (.ireturn, 1) := by decide +kernel
theorem dX0_offer_0 : decode cX0_offer 0 = .ok (.iload_n 1, 1) := by decide +kernel
theorem dX0_offer_1 : decode cX0_offer 1 = .ok (.istore_n 3, 1) := by decide +kernel
theorem dX0_offer_2 : decode cX0_offer 2 = .ok (.iload_n 3, 1) := by decide +kernel
theorem dX0_offer_3 : decode cX0_offer 3 = .ok (.ifCond .le 29, 3) := by decide +kernel
theorem dX0_offer_6 : decode cX0_offer 6 = .ok (.iload_n 3, 1) := by decide +kernel
theorem dX0_offer_7 : decode cX0_offer 7 = .ok (.iload_n 1, 1) := by decide +kernel
theorem dX0_offer_8 : decode cX0_offer 8 = .ok (.iconst (-1), 1) := by decide +kernel
theorem dX0_offer_9 : decode cX0_offer 9 = .ok (.ixor, 1) := by decide +kernel
theorem dX0_offer_10 : decode cX0_offer 10 = .ok (.iand, 1) := by decide +kernel
theorem dX0_offer_11 : decode cX0_offer 11 = .ok (.ifCond .ne 15, 3) := by decide +kernel
theorem dX0_offer_14 : decode cX0_offer 14 = .ok (.aload_n 0, 1) := by decide +kernel
theorem dX0_offer_15 : decode cX0_offer 15 = .ok (.getfield 15, 3) := by decide +kernel
theorem dX0_offer_18 : decode cX0_offer 18 = .ok (.iload_n 3, 1) := by decide +kernel
theorem dX0_offer_19 : decode cX0_offer 19 = .ok (.aload_n 0, 1) := by decide +kernel
theorem dX0_offer_20 : decode cX0_offer 20 = .ok (.iload_n 3, 1) := by decide +kernel
theorem dX0_offer_21 : decode cX0_offer 21 = .ok (.iload_n 2, 1) := by decide +kernel
theorem dX0_offer_22 : decode cX0_offer 22 = .ok (.invokevirtual 79, 3) := by decide +kernel
theorem dX0_offer_25 : decode cX0_offer 25 = .ok (.iastore, 1) := by decide +kernel
theorem dX0_offer_26 : decode cX0_offer 26 = .ok (.iinc 3 (-1), 3) := by decide +kernel
theorem dX0_offer_29 : decode cX0_offer 29 = .ok (.goto (-27), 3) := by decide +kernel
theorem dX0_offer_32 : decode cX0_offer 32 = .ok (.return_, 1) := by decide +kernel
theorem dX0_worthIn_0 : decode cX0_worthIn 0 = .ok (.aload_n 0, 1) := by decide +kernel
theorem dX0_worthIn_1 : decode cX0_worthIn 1 = .ok (.getfield 15, 3) := by decide +kernel
theorem dX0_worthIn_4 : decode cX0_worthIn 4 = .ok (.iload_n 1, 1) := by decide +kernel
theorem dX0_worthIn_5 : decode cX0_worthIn 5 = .ok (.iaload, 1) := by decide +kernel
theorem dX0_worthIn_6 : decode cX0_worthIn 6 = .ok (.istore_n 3, 1) := by decide +kernel
theorem dX0_worthIn_7 : decode cX0_worthIn 7 = .ok (.iconst 0, 1) := by decide +kernel
theorem dX0_worthIn_8 : decode cX0_worthIn 8 = .ok (.istore 4, 2) := by decide +kernel
theorem dX0_worthIn_10 : decode cX0_worthIn 10 = .ok (.iload 4, 2) := by decide +kernel
theorem dX0_worthIn_12 : decode cX0_worthIn 12 = .ok (.bipush 6, 2) := by decide +kernel
theorem dX0_worthIn_14 : decode cX0_worthIn 14 = .ok (.if_icmp .ge 49, 3) := by decide +kernel
theorem dX0_worthIn_17 : decode cX0_worthIn 17 = .ok (.iload_n 1, 1) := by decide +kernel
theorem dX0_worthIn_18 : decode cX0_worthIn 18 = .ok (.iconst 1, 1) := by decide +kernel
theorem dX0_worthIn_19 : decode cX0_worthIn 19 = .ok (.iload 4, 2) := by decide +kernel
theorem dX0_worthIn_21 : decode cX0_worthIn 21 = .ok (.ishl, 1) := by decide +kernel
theorem dX0_worthIn_22 : decode cX0_worthIn 22 = .ok (.iand, 1) := by decide +kernel
theorem dX0_worthIn_23 : decode cX0_worthIn 23 = .ok (.ifCond .eq 34, 3) := by decide +kernel
theorem dX0_worthIn_26 : decode cX0_worthIn 26 = .ok (.iload_n 3, 1) := by decide +kernel
theorem dX0_worthIn_27 : decode cX0_worthIn 27 = .ok (.aload_n 0, 1) := by decide +kernel
theorem dX0_worthIn_28 : decode cX0_worthIn 28 = .ok (.getfield 15, 3) := by decide +kernel
theorem dX0_worthIn_31 : decode cX0_worthIn 31 = .ok (.iload_n 1, 1) := by decide +kernel
theorem dX0_worthIn_32 : decode cX0_worthIn 32 = .ok (.iconst 1, 1) := by decide +kernel
theorem dX0_worthIn_33 : decode cX0_worthIn 33 = .ok (.iload 4, 2) := by decide +kernel
theorem dX0_worthIn_35 : decode cX0_worthIn 35 = .ok (.ishl, 1) := by decide +kernel
theorem dX0_worthIn_36 : decode cX0_worthIn 36 = .ok (.iconst (-1), 1) := by decide +kernel
theorem dX0_worthIn_37 : decode cX0_worthIn 37 = .ok (.ixor, 1) := by decide +kernel
theorem dX0_worthIn_38 : decode cX0_worthIn 38 = .ok (.iand, 1) := by decide +kernel
theorem dX0_worthIn_39 : decode cX0_worthIn 39 = .ok (.iaload, 1) := by decide +kernel
theorem dX0_worthIn_40 : decode cX0_worthIn 40 = .ok (.aload_n 0, 1) := by decide +kernel
theorem dX0_worthIn_41 : decode cX0_worthIn 41 = .ok (.getfield 9, 3) := by decide +kernel
theorem dX0_worthIn_44 : decode cX0_worthIn 44 = .ok (.iload_n 2, 1) := by decide +kernel
theorem dX0_worthIn_45 : decode cX0_worthIn 45 = .ok (.bipush 6, 2) := by decide +kernel
theorem dX0_worthIn_47 : decode cX0_worthIn 47 = .ok (.imul, 1) := by decide +kernel
theorem dX0_worthIn_48 : decode cX0_worthIn 48 = .ok (.iload 4, 2) := by decide +kernel
theorem dX0_worthIn_50 : decode cX0_worthIn 50 = .ok (.iadd, 1) := by decide +kernel
theorem dX0_worthIn_51 : decode cX0_worthIn 51 = .ok (.iaload, 1) := by decide +kernel
theorem dX0_worthIn_52 : decode cX0_worthIn 52 = .ok (.iadd, 1) := by decide +kernel
theorem dX0_worthIn_53 : decode cX0_worthIn 53 = .ok (.invokestatic 82, 3) := by decide +kernel
theorem dX0_worthIn_56 : decode cX0_worthIn 56 = .ok (.istore_n 3, 1) := by decide +kernel
theorem dX0_worthIn_57 : decode cX0_worthIn 57 = .ok (.iinc 4 1, 3) := by decide +kernel
theorem dX0_worthIn_60 : decode cX0_worthIn 60 = .ok (.goto (-50), 3) := by decide +kernel
theorem dX0_worthIn_63 : decode cX0_worthIn 63 = .ok (.iload_n 3, 1) := by decide +kernel
theorem dX0_worthIn_64 : decode cX0_worthIn 64 = .ok (.ireturn, 1) := by decide +kernel
theorem dX0_firstHead_0 : decode cX0_firstHead 0 = .ok (.iconst 0, 1) := by decide +kernel
theorem dX0_firstHead_1 : decode cX0_firstHead 1 = .ok (.istore_n 3, 1) := by decide +kernel
theorem dX0_firstHead_2 : decode cX0_firstHead 2 = .ok (.iload_n 3, 1) := by decide +kernel
theorem dX0_firstHead_3 : decode cX0_firstHead 3 = .ok (.bipush 10, 2) := by decide +kernel
theorem dX0_firstHead_5 : decode cX0_firstHead 5 = .ok (.if_icmp .ge 58, 3) := by decide +kernel
theorem dX0_firstHead_8 : decode cX0_firstHead 8 = .ok (.aload_n 0, 1) := by decide +kernel
theorem dX0_firstHead_9 : decode cX0_firstHead 9 = .ok (.getfield 26, 3) := by decide +kernel
theorem dX0_firstHead_12 : decode cX0_firstHead 12 = .ok (.iconst 1, 1) := by decide +kernel
theorem dX0_firstHead_13 : decode cX0_firstHead 13 = .ok (.iload_n 3, 1) := by decide +kernel
theorem dX0_firstHead_14 : decode cX0_firstHead 14 = .ok (.ishl, 1) := by decide +kernel
theorem dX0_firstHead_15 : decode cX0_firstHead 15 = .ok (.iconst (-1), 1) := by decide +kernel
theorem dX0_firstHead_16 : decode cX0_firstHead 16 = .ok (.ixor, 1) := by decide +kernel
theorem dX0_firstHead_17 : decode cX0_firstHead 17 = .ok (.iand, 1) := by decide +kernel
theorem dX0_firstHead_18 : decode cX0_firstHead 18 = .ok (.istore 4, 2) := by decide +kernel
theorem dX0_firstHead_20 : decode cX0_firstHead 20 = .ok (.iload 4, 2) := by decide +kernel
theorem dX0_firstHead_22 : decode cX0_firstHead 22 = .ok (.aload_n 0, 1) := by decide +kernel
theorem dX0_firstHead_23 : decode cX0_firstHead 23 = .ok (.getfield 26, 3) := by decide +kernel
theorem dX0_firstHead_26 : decode cX0_firstHead 26 = .ok (.if_icmp .eq 31, 3) := by decide +kernel
theorem dX0_firstHead_29 : decode cX0_firstHead 29 = .ok (.aload_n 0, 1) := by decide +kernel
theorem dX0_firstHead_30 : decode cX0_firstHead 30 = .ok (.getfield 9, 3) := by decide +kernel
theorem dX0_firstHead_33 : decode cX0_firstHead 33 = .ok (.iload_n 3, 1) := by decide +kernel
theorem dX0_firstHead_34 : decode cX0_firstHead 34 = .ok (.bipush 6, 2) := by decide +kernel
theorem dX0_firstHead_36 : decode cX0_firstHead 36 = .ok (.imul, 1) := by decide +kernel
theorem dX0_firstHead_37 : decode cX0_firstHead 37 = .ok (.iload_n 1, 1) := by decide +kernel
theorem dX0_firstHead_38 : decode cX0_firstHead 38 = .ok (.iadd, 1) := by decide +kernel
theorem dX0_firstHead_39 : decode cX0_firstHead 39 = .ok (.iaload, 1) := by decide +kernel
theorem dX0_firstHead_40 : decode cX0_firstHead 40 = .ok (.aload_n 0, 1) := by decide +kernel
theorem dX0_firstHead_41 : decode cX0_firstHead 41 = .ok (.aload_n 0, 1) := by decide +kernel
theorem dX0_firstHead_42 : decode cX0_firstHead 42 = .ok (.getfield 22, 3) := by decide +kernel
theorem dX0_firstHead_45 : decode cX0_firstHead 45 = .ok (.iload 4, 2) := by decide +kernel
theorem dX0_firstHead_47 : decode cX0_firstHead 47 = .ok (.invokevirtual 29, 3) := by decide +kernel
theorem dX0_firstHead_50 : decode cX0_firstHead 50 = .ok (.iadd, 1) := by decide +kernel
theorem dX0_firstHead_51 : decode cX0_firstHead 51 = .ok (.iload_n 2, 1) := by decide +kernel
theorem dX0_firstHead_52 : decode cX0_firstHead 52 = .ok (.if_icmp .ne 5, 3) := by decide +kernel
theorem dX0_firstHead_55 : decode cX0_firstHead 55 = .ok (.iload_n 3, 1) := by decide +kernel
theorem dX0_firstHead_56 : decode cX0_firstHead 56 = .ok (.ireturn, 1) := by decide +kernel
theorem dX0_firstHead_57 : decode cX0_firstHead 57 = .ok (.iinc 3 1, 3) := by decide +kernel
theorem dX0_firstHead_60 : decode cX0_firstHead 60 = .ok (.goto (-58), 3) := by decide +kernel
theorem dX0_firstHead_63 : decode cX0_firstHead 63 = .ok (.iconst (-1), 1) := by decide +kernel
theorem dX0_firstHead_64 : decode cX0_firstHead 64 = .ok (.ireturn, 1) := by decide +kernel
theorem dX0_worthWith_0 : decode cX0_worthWith 0 = .ok (.aload_n 0, 1) := by decide +kernel
theorem dX0_worthWith_1 : decode cX0_worthWith 1 = .ok (.getfield 15, 3) := by decide +kernel
theorem dX0_worthWith_4 : decode cX0_worthWith 4 = .ok (.aload_n 0, 1) := by decide +kernel
theorem dX0_worthWith_5 : decode cX0_worthWith 5 = .ok (.getfield 22, 3) := by decide +kernel
theorem dX0_worthWith_8 : decode cX0_worthWith 8 = .ok (.iaload, 1) := by decide +kernel
theorem dX0_worthWith_9 : decode cX0_worthWith 9 = .ok (.istore 4, 2) := by decide +kernel
theorem dX0_worthWith_11 : decode cX0_worthWith 11 = .ok (.iconst 0, 1) := by decide +kernel
theorem dX0_worthWith_12 : decode cX0_worthWith 12 = .ok (.istore 5, 2) := by decide +kernel
theorem dX0_worthWith_14 : decode cX0_worthWith 14 = .ok (.iload 5, 2) := by decide +kernel
theorem dX0_worthWith_16 : decode cX0_worthWith 16 = .ok (.bipush 6, 2) := by decide +kernel
theorem dX0_worthWith_18 : decode cX0_worthWith 18 = .ok (.if_icmp .ge 74, 3) := by decide +kernel
theorem dX0_worthWith_21 : decode cX0_worthWith 21 = .ok (.iload_n 2, 1) := by decide +kernel
theorem dX0_worthWith_22 : decode cX0_worthWith 22 = .ok (.iconst 1, 1) := by decide +kernel
theorem dX0_worthWith_23 : decode cX0_worthWith 23 = .ok (.invokestatic 87, 3) := by decide +kernel
theorem dX0_worthWith_26 : decode cX0_worthWith 26 = .ok (.ifCond .eq 66, 3) := by decide +kernel
theorem dX0_worthWith_29 : decode cX0_worthWith 29 = .ok (.aload_n 1, 1) := by decide +kernel
theorem dX0_worthWith_30 : decode cX0_worthWith 30 = .ok (.getfield 61, 3) := by decide +kernel
theorem dX0_worthWith_33 : decode cX0_worthWith 33 = .ok (.iload 5, 2) := by decide +kernel
theorem dX0_worthWith_35 : decode cX0_worthWith 35 = .ok (.iaload, 1) := by decide +kernel
theorem dX0_worthWith_36 : decode cX0_worthWith 36 = .ok (.istore 6, 2) := by decide +kernel
theorem dX0_worthWith_38 : decode cX0_worthWith 38 = .ok (.iload 6, 2) := by decide +kernel
theorem dX0_worthWith_40 : decode cX0_worthWith 40 = .ok (.invokestatic 64, 3) := by decide +kernel
theorem dX0_worthWith_43 : decode cX0_worthWith 43 = .ok (.ifCond .eq 43, 3) := by decide +kernel
theorem dX0_worthWith_46 : decode cX0_worthWith 46 = .ok (.iload_n 2, 1) := by decide +kernel
theorem dX0_worthWith_47 : decode cX0_worthWith 47 = .ok (.iload_n 3, 1) := by decide +kernel
theorem dX0_worthWith_48 : decode cX0_worthWith 48 = .ok (.aload_n 1, 1) := by decide +kernel
theorem dX0_worthWith_49 : decode cX0_worthWith 49 = .ok (.getfield 91, 3) := by decide +kernel
theorem dX0_worthWith_52 : decode cX0_worthWith 52 = .ok (.iload 6, 2) := by decide +kernel
theorem dX0_worthWith_54 : decode cX0_worthWith 54 = .ok (.iaload, 1) := by decide +kernel
theorem dX0_worthWith_55 : decode cX0_worthWith 55 = .ok (.invokestatic 94, 3) := by decide +kernel
theorem dX0_worthWith_58 : decode cX0_worthWith 58 = .ok (.istore 7, 2) := by decide +kernel
theorem dX0_worthWith_60 : decode cX0_worthWith 60 = .ok (.iload 4, 2) := by decide +kernel
theorem dX0_worthWith_62 : decode cX0_worthWith 62 = .ok (.aload_n 0, 1) := by decide +kernel
theorem dX0_worthWith_63 : decode cX0_worthWith 63 = .ok (.getfield 15, 3) := by decide +kernel
theorem dX0_worthWith_66 : decode cX0_worthWith 66 = .ok (.aload_n 0, 1) := by decide +kernel
theorem dX0_worthWith_67 : decode cX0_worthWith 67 = .ok (.getfield 22, 3) := by decide +kernel
theorem dX0_worthWith_70 : decode cX0_worthWith 70 = .ok (.iconst 1, 1) := by decide +kernel
theorem dX0_worthWith_71 : decode cX0_worthWith 71 = .ok (.iload 5, 2) := by decide +kernel
theorem dX0_worthWith_73 : decode cX0_worthWith 73 = .ok (.ishl, 1) := by decide +kernel
theorem dX0_worthWith_74 : decode cX0_worthWith 74 = .ok (.iconst (-1), 1) := by decide +kernel
theorem dX0_worthWith_75 : decode cX0_worthWith 75 = .ok (.ixor, 1) := by decide +kernel
theorem dX0_worthWith_76 : decode cX0_worthWith 76 = .ok (.iand, 1) := by decide +kernel
theorem dX0_worthWith_77 : decode cX0_worthWith 77 = .ok (.iaload, 1) := by decide +kernel
theorem dX0_worthWith_78 : decode cX0_worthWith 78 = .ok (.iload 7, 2) := by decide +kernel
theorem dX0_worthWith_80 : decode cX0_worthWith 80 = .ok (.iadd, 1) := by decide +kernel
theorem dX0_worthWith_81 : decode cX0_worthWith 81 = .ok (.invokestatic 82, 3) := by decide +kernel
theorem dX0_worthWith_84 : decode cX0_worthWith 84 = .ok (.istore 4, 2) := by decide +kernel
theorem dX0_worthWith_86 : decode cX0_worthWith 86 = .ok (.iinc 5 1, 3) := by decide +kernel
theorem dX0_worthWith_89 : decode cX0_worthWith 89 = .ok (.goto (-75), 3) := by decide +kernel
theorem dX0_worthWith_92 : decode cX0_worthWith 92 = .ok (.iload 4, 2) := by decide +kernel
theorem dX0_worthWith_94 : decode cX0_worthWith 94 = .ok (.ireturn, 1) := by decide +kernel
theorem dX1_init_0 : decode cX1_init 0 = .ok (.aload_n 0, 1) := by decide +kernel
theorem dX1_init_1 : decode cX1_init 1 = .ok (.invokespecial 3, 3) := by decide +kernel
theorem dX1_init_4 : decode cX1_init 4 = .ok (.aload_n 0, 1) := by decide +kernel
theorem dX1_init_5 : decode cX1_init 5 = .ok (.bipush 10, 2) := by decide +kernel
theorem dX1_init_7 : decode cX1_init 7 = .ok (.newarray .int, 2) := by decide +kernel
theorem dX1_init_9 : decode cX1_init 9 = .ok (.putfield 9, 3) := by decide +kernel
theorem dX1_init_12 : decode cX1_init 12 = .ok (.aload_n 0, 1) := by decide +kernel
theorem dX1_init_13 : decode cX1_init 13 = .ok (.bipush 10, 2) := by decide +kernel
theorem dX1_init_15 : decode cX1_init 15 = .ok (.newarray .int, 2) := by decide +kernel
theorem dX1_init_17 : decode cX1_init 17 = .ok (.putfield 15, 3) := by decide +kernel
theorem dX1_init_20 : decode cX1_init 20 = .ok (.aload_n 0, 1) := by decide +kernel
theorem dX1_init_21 : decode cX1_init 21 = .ok (.bipush 10, 2) := by decide +kernel
theorem dX1_init_23 : decode cX1_init 23 = .ok (.newarray .int, 2) := by decide +kernel
theorem dX1_init_25 : decode cX1_init 25 = .ok (.putfield 18, 3) := by decide +kernel
theorem dX1_init_28 : decode cX1_init 28 = .ok (.aload_n 0, 1) := by decide +kernel
theorem dX1_init_29 : decode cX1_init 29 = .ok (.bipush 10, 2) := by decide +kernel
theorem dX1_init_31 : decode cX1_init 31 = .ok (.newarray .int, 2) := by decide +kernel
theorem dX1_init_33 : decode cX1_init 33 = .ok (.putfield 21, 3) := by decide +kernel
theorem dX1_init_36 : decode cX1_init 36 = .ok (.aload_n 0, 1) := by decide +kernel
theorem dX1_init_37 : decode cX1_init 37 = .ok (.bipush 6, 2) := by decide +kernel
theorem dX1_init_39 : decode cX1_init 39 = .ok (.newarray .int, 2) := by decide +kernel
theorem dX1_init_41 : decode cX1_init 41 = .ok (.putfield 24, 3) := by decide +kernel
theorem dX1_init_44 : decode cX1_init 44 = .ok (.aload_n 0, 1) := by decide +kernel
theorem dX1_init_45 : decode cX1_init 45 = .ok (.bipush 6, 2) := by decide +kernel
theorem dX1_init_47 : decode cX1_init 47 = .ok (.newarray .int, 2) := by decide +kernel
theorem dX1_init_49 : decode cX1_init 49 = .ok (.putfield 27, 3) := by decide +kernel
theorem dX1_init_52 : decode cX1_init 52 = .ok (.aload_n 0, 1) := by decide +kernel
theorem dX1_init_53 : decode cX1_init 53 = .ok (.bipush 6, 2) := by decide +kernel
theorem dX1_init_55 : decode cX1_init 55 = .ok (.newarray .int, 2) := by decide +kernel
theorem dX1_init_57 : decode cX1_init 57 = .ok (.putfield 30, 3) := by decide +kernel
theorem dX1_init_60 : decode cX1_init 60 = .ok (.aload_n 0, 1) := by decide +kernel
theorem dX1_init_61 : decode cX1_init 61 = .ok (.iconst 4, 1) := by decide +kernel
theorem dX1_init_62 : decode cX1_init 62 = .ok (.newarray .int, 2) := by decide +kernel
theorem dX1_init_64 : decode cX1_init 64 = .ok (.putfield 33, 3) := by decide +kernel
theorem dX1_init_67 : decode cX1_init 67 = .ok (.aload_n 0, 1) := by decide +kernel
theorem dX1_init_68 : decode cX1_init 68 = .ok (.bipush 40, 2) := by decide +kernel
theorem dX1_init_70 : decode cX1_init 70 = .ok (.newarray .int, 2) := by decide +kernel
theorem dX1_init_72 : decode cX1_init 72 = .ok (.putfield 36, 3) := by decide +kernel
theorem dX1_init_75 : decode cX1_init 75 = .ok (.aload_n 0, 1) := by decide +kernel
theorem dX1_init_76 : decode cX1_init 76 = .ok (.bipush 10, 2) := by decide +kernel
theorem dX1_init_78 : decode cX1_init 78 = .ok (.newarray .int, 2) := by decide +kernel
theorem dX1_init_80 : decode cX1_init 80 = .ok (.putfield 39, 3) := by decide +kernel
theorem dX1_init_83 : decode cX1_init 83 = .ok (.aload_n 0, 1) := by decide +kernel
theorem dX1_init_84 : decode cX1_init 84 = .ok (.iconst 5, 1) := by decide +kernel
theorem dX1_init_85 : decode cX1_init 85 = .ok (.putfield 42, 3) := by decide +kernel
theorem dX1_init_88 : decode cX1_init 88 = .ok (.aload_n 0, 1) := by decide +kernel
theorem dX1_init_89 : decode cX1_init 89 = .ok (.iconst 1, 1) := by decide +kernel
theorem dX1_init_90 : decode cX1_init 90 = .ok (.putfield 46, 3) := by decide +kernel
theorem dX1_init_93 : decode cX1_init 93 = .ok (.aload_n 0, 1) := by decide +kernel
theorem dX1_init_94 : decode cX1_init 94 = .ok (.getfield 27, 3) := by decide +kernel
theorem dX1_init_97 : decode cX1_init 97 = .ok (.iconst 1, 1) := by decide +kernel
theorem dX1_init_98 : decode cX1_init 98 = .ok (.invokestatic 49, 3) := by decide +kernel
theorem dX1_init_101 : decode cX1_init 101 = .ok (.aload_n 0, 1) := by decide +kernel
theorem dX1_init_102 : decode cX1_init 102 = .ok (.getfield 30, 3) := by decide +kernel
theorem dX1_init_105 : decode cX1_init 105 = .ok (.iconst (-1), 1) := by decide +kernel
theorem dX1_init_106 : decode cX1_init 106 = .ok (.invokestatic 49, 3) := by decide +kernel
theorem dX1_init_109 : decode cX1_init 109 = .ok (.aload_n 0, 1) := by decide +kernel
theorem dX1_init_110 : decode cX1_init 110 = .ok (.getfield 39, 3) := by decide +kernel
theorem dX1_init_113 : decode cX1_init 113 = .ok (.iconst (-1), 1) := by decide +kernel
theorem dX1_init_114 : decode cX1_init 114 = .ok (.invokestatic 49, 3) := by decide +kernel
theorem dX1_init_117 : decode cX1_init 117 = .ok (.return_, 1) := by decide +kernel
theorem dX1_become_0 : decode cX1_become 0 = .ok (.aload_n 1, 1) := by decide +kernel
theorem dX1_become_1 : decode cX1_become 1 = .ok (.getfield 9, 3) := by decide +kernel
theorem dX1_become_4 : decode cX1_become 4 = .ok (.iconst 0, 1) := by decide +kernel
theorem dX1_become_5 : decode cX1_become 5 = .ok (.aload_n 0, 1) := by decide +kernel
theorem dX1_become_6 : decode cX1_become 6 = .ok (.getfield 9, 3) := by decide +kernel
theorem dX1_become_9 : decode cX1_become 9 = .ok (.iconst 0, 1) := by decide +kernel
theorem dX1_become_10 : decode cX1_become 10 = .ok (.bipush 10, 2) := by decide +kernel
theorem dX1_become_12 : decode cX1_become 12 = .ok (.invokestatic 55, 3) := by decide +kernel
theorem dX1_become_15 : decode cX1_become 15 = .ok (.aload_n 1, 1) := by decide +kernel
theorem dX1_become_16 : decode cX1_become 16 = .ok (.getfield 15, 3) := by decide +kernel
theorem dX1_become_19 : decode cX1_become 19 = .ok (.iconst 0, 1) := by decide +kernel
theorem dX1_become_20 : decode cX1_become 20 = .ok (.aload_n 0, 1) := by decide +kernel
theorem dX1_become_21 : decode cX1_become 21 = .ok (.getfield 15, 3) := by decide +kernel
theorem dX1_become_24 : decode cX1_become 24 = .ok (.iconst 0, 1) := by decide +kernel
theorem dX1_become_25 : decode cX1_become 25 = .ok (.bipush 10, 2) := by decide +kernel
theorem dX1_become_27 : decode cX1_become 27 = .ok (.invokestatic 55, 3) := by decide +kernel
theorem dX1_become_30 : decode cX1_become 30 = .ok (.aload_n 1, 1) := by decide +kernel
theorem dX1_become_31 : decode cX1_become 31 = .ok (.getfield 18, 3) := by decide +kernel
theorem dX1_become_34 : decode cX1_become 34 = .ok (.iconst 0, 1) := by decide +kernel
theorem dX1_become_35 : decode cX1_become 35 = .ok (.aload_n 0, 1) := by decide +kernel
theorem dX1_become_36 : decode cX1_become 36 = .ok (.getfield 18, 3) := by decide +kernel
theorem dX1_become_39 : decode cX1_become 39 = .ok (.iconst 0, 1) := by decide +kernel
theorem dX1_become_40 : decode cX1_become 40 = .ok (.bipush 10, 2) := by decide +kernel
theorem dX1_become_42 : decode cX1_become 42 = .ok (.invokestatic 55, 3) := by decide +kernel
theorem dX1_become_45 : decode cX1_become 45 = .ok (.aload_n 1, 1) := by decide +kernel
theorem dX1_become_46 : decode cX1_become 46 = .ok (.getfield 21, 3) := by decide +kernel
theorem dX1_become_49 : decode cX1_become 49 = .ok (.iconst 0, 1) := by decide +kernel
theorem dX1_become_50 : decode cX1_become 50 = .ok (.aload_n 0, 1) := by decide +kernel
theorem dX1_become_51 : decode cX1_become 51 = .ok (.getfield 21, 3) := by decide +kernel
theorem dX1_become_54 : decode cX1_become 54 = .ok (.iconst 0, 1) := by decide +kernel
theorem dX1_become_55 : decode cX1_become 55 = .ok (.bipush 10, 2) := by decide +kernel
theorem dX1_become_57 : decode cX1_become 57 = .ok (.invokestatic 55, 3) := by decide +kernel
theorem dX1_become_60 : decode cX1_become 60 = .ok (.aload_n 1, 1) := by decide +kernel
theorem dX1_become_61 : decode cX1_become 61 = .ok (.getfield 24, 3) := by decide +kernel
theorem dX1_become_64 : decode cX1_become 64 = .ok (.iconst 0, 1) := by decide +kernel
theorem dX1_become_65 : decode cX1_become 65 = .ok (.aload_n 0, 1) := by decide +kernel
theorem dX1_become_66 : decode cX1_become 66 = .ok (.getfield 24, 3) := by decide +kernel
theorem dX1_become_69 : decode cX1_become 69 = .ok (.iconst 0, 1) := by decide +kernel
theorem dX1_become_70 : decode cX1_become 70 = .ok (.bipush 6, 2) := by decide +kernel
theorem dX1_become_72 : decode cX1_become 72 = .ok (.invokestatic 55, 3) := by decide +kernel
theorem dX1_become_75 : decode cX1_become 75 = .ok (.aload_n 1, 1) := by decide +kernel
theorem dX1_become_76 : decode cX1_become 76 = .ok (.getfield 27, 3) := by decide +kernel
theorem dX1_become_79 : decode cX1_become 79 = .ok (.iconst 0, 1) := by decide +kernel
theorem dX1_become_80 : decode cX1_become 80 = .ok (.aload_n 0, 1) := by decide +kernel
theorem dX1_become_81 : decode cX1_become 81 = .ok (.getfield 27, 3) := by decide +kernel
theorem dX1_become_84 : decode cX1_become 84 = .ok (.iconst 0, 1) := by decide +kernel
theorem dX1_become_85 : decode cX1_become 85 = .ok (.bipush 6, 2) := by decide +kernel
theorem dX1_become_87 : decode cX1_become 87 = .ok (.invokestatic 55, 3) := by decide +kernel
theorem dX1_become_90 : decode cX1_become 90 = .ok (.aload_n 1, 1) := by decide +kernel
theorem dX1_become_91 : decode cX1_become 91 = .ok (.getfield 30, 3) := by decide +kernel
theorem dX1_become_94 : decode cX1_become 94 = .ok (.iconst 0, 1) := by decide +kernel
theorem dX1_become_95 : decode cX1_become 95 = .ok (.aload_n 0, 1) := by decide +kernel
theorem dX1_become_96 : decode cX1_become 96 = .ok (.getfield 30, 3) := by decide +kernel
theorem dX1_become_99 : decode cX1_become 99 = .ok (.iconst 0, 1) := by decide +kernel
theorem dX1_become_100 : decode cX1_become 100 = .ok (.bipush 6, 2) := by decide +kernel
theorem dX1_become_102 : decode cX1_become 102 = .ok (.invokestatic 55, 3) := by decide +kernel
theorem dX1_become_105 : decode cX1_become 105 = .ok (.aload_n 1, 1) := by decide +kernel
theorem dX1_become_106 : decode cX1_become 106 = .ok (.getfield 33, 3) := by decide +kernel
theorem dX1_become_109 : decode cX1_become 109 = .ok (.iconst 0, 1) := by decide +kernel
theorem dX1_become_110 : decode cX1_become 110 = .ok (.aload_n 0, 1) := by decide +kernel
theorem dX1_become_111 : decode cX1_become 111 = .ok (.getfield 33, 3) := by decide +kernel
theorem dX1_become_114 : decode cX1_become 114 = .ok (.iconst 0, 1) := by decide +kernel
theorem dX1_become_115 : decode cX1_become 115 = .ok (.iconst 4, 1) := by decide +kernel
theorem dX1_become_116 : decode cX1_become 116 = .ok (.invokestatic 55, 3) := by decide +kernel
theorem dX1_become_119 : decode cX1_become 119 = .ok (.aload_n 1, 1) := by decide +kernel
theorem dX1_become_120 : decode cX1_become 120 = .ok (.getfield 36, 3) := by decide +kernel
theorem dX1_become_123 : decode cX1_become 123 = .ok (.iconst 0, 1) := by decide +kernel
theorem dX1_become_124 : decode cX1_become 124 = .ok (.aload_n 0, 1) := by decide +kernel
theorem dX1_become_125 : decode cX1_become 125 = .ok (.getfield 36, 3) := by decide +kernel
theorem dX1_become_128 : decode cX1_become 128 = .ok (.iconst 0, 1) := by decide +kernel
theorem dX1_become_129 : decode cX1_become 129 = .ok (.bipush 40, 2) := by decide +kernel
theorem dX1_become_131 : decode cX1_become 131 = .ok (.invokestatic 55, 3) := by decide +kernel
theorem dX1_become_134 : decode cX1_become 134 = .ok (.aload_n 1, 1) := by decide +kernel
theorem dX1_become_135 : decode cX1_become 135 = .ok (.getfield 39, 3) := by decide +kernel
theorem dX1_become_138 : decode cX1_become 138 = .ok (.iconst 0, 1) := by decide +kernel
theorem dX1_become_139 : decode cX1_become 139 = .ok (.aload_n 0, 1) := by decide +kernel
theorem dX1_become_140 : decode cX1_become 140 = .ok (.getfield 39, 3) := by decide +kernel
theorem dX1_become_143 : decode cX1_become 143 = .ok (.iconst 0, 1) := by decide +kernel
theorem dX1_become_144 : decode cX1_become 144 = .ok (.bipush 10, 2) := by decide +kernel
theorem dX1_become_146 : decode cX1_become 146 = .ok (.invokestatic 55, 3) := by decide +kernel
theorem dX1_become_149 : decode cX1_become 149 = .ok (.aload_n 0, 1) := by decide +kernel
theorem dX1_become_150 : decode cX1_become 150 = .ok (.aload_n 1, 1) := by decide +kernel
theorem dX1_become_151 : decode cX1_become 151 = .ok (.getfield 61, 3) := by decide +kernel
theorem dX1_become_154 : decode cX1_become 154 = .ok (.putfield 61, 3) := by decide +kernel
theorem dX1_become_157 : decode cX1_become 157 = .ok (.aload_n 0, 1) := by decide +kernel
theorem dX1_become_158 : decode cX1_become 158 = .ok (.aload_n 1, 1) := by decide +kernel
theorem dX1_become_159 : decode cX1_become 159 = .ok (.getfield 64, 3) := by decide +kernel
theorem dX1_become_162 : decode cX1_become 162 = .ok (.putfield 64, 3) := by decide +kernel
theorem dX1_become_165 : decode cX1_become 165 = .ok (.aload_n 0, 1) := by decide +kernel
theorem dX1_become_166 : decode cX1_become 166 = .ok (.aload_n 1, 1) := by decide +kernel
theorem dX1_become_167 : decode cX1_become 167 = .ok (.getfield 67, 3) := by decide +kernel
theorem dX1_become_170 : decode cX1_become 170 = .ok (.putfield 67, 3) := by decide +kernel
theorem dX1_become_173 : decode cX1_become 173 = .ok (.aload_n 0, 1) := by decide +kernel
theorem dX1_become_174 : decode cX1_become 174 = .ok (.aload_n 1, 1) := by decide +kernel
theorem dX1_become_175 : decode cX1_become 175 = .ok (.getfield 42, 3) := by decide +kernel
theorem dX1_become_178 : decode cX1_become 178 = .ok (.putfield 42, 3) := by decide +kernel
theorem dX1_become_181 : decode cX1_become 181 = .ok (.aload_n 0, 1) := by decide +kernel
theorem dX1_become_182 : decode cX1_become 182 = .ok (.aload_n 1, 1) := by decide +kernel
theorem dX1_become_183 : decode cX1_become 183 = .ok (.getfield 46, 3) := by decide +kernel
theorem dX1_become_186 : decode cX1_become 186 = .ok (.putfield 46, 3) := by decide +kernel
theorem dX1_become_189 : decode cX1_become 189 = .ok (.return_, 1) := by decide +kernel
theorem dX1_hasPart_0 : decode cX1_hasPart 0 = .ok (.iload_n 1, 1) := by decide +kernel
theorem dX1_hasPart_1 : decode cX1_hasPart 1 = .ok (.iconst 0, 1) := by decide +kernel
theorem dX1_hasPart_2 : decode cX1_hasPart 2 = .ok (.aload_n 0, 1) := by decide +kernel
theorem dX1_hasPart_3 : decode cX1_hasPart 3 = .ok (.getfield 61, 3) := by decide +kernel
theorem dX1_hasPart_6 : decode cX1_hasPart 6 = .ok (.iconst 1, 1) := by decide +kernel
theorem dX1_hasPart_7 : decode cX1_hasPart 7 = .ok (.isub, 1) := by decide +kernel
theorem dX1_hasPart_8 : decode cX1_hasPart 8 = .ok (.invokestatic 70, 3) := by decide +kernel
theorem dX1_hasPart_11 : decode cX1_hasPart 11 = .ok (.ireturn, 1) := by decide +kernel
theorem dX1_hasVisitor_0 : decode cX1_hasVisitor 0 = .ok (.iload_n 1, 1) := by decide +kernel
theorem dX1_hasVisitor_1 : decode cX1_hasVisitor 1 = .ok (.iconst 0, 1) := by decide +kernel
theorem dX1_hasVisitor_2 : decode cX1_hasVisitor 2 = .ok (.aload_n 0, 1) := by decide +kernel
theorem dX1_hasVisitor_3 : decode cX1_hasVisitor 3 = .ok (.getfield 64, 3) := by decide +kernel
theorem dX1_hasVisitor_6 : decode cX1_hasVisitor 6 = .ok (.iconst 1, 1) := by decide +kernel
theorem dX1_hasVisitor_7 : decode cX1_hasVisitor 7 = .ok (.isub, 1) := by decide +kernel
theorem dX1_hasVisitor_8 : decode cX1_hasVisitor 8 = .ok (.invokestatic 70, 3) := by decide +kernel
theorem dX1_hasVisitor_11 : decode cX1_hasVisitor 11 = .ok (.ireturn, 1) := by decide +kernel
theorem dX1_isHead_0 : decode cX1_isHead 0 = .ok (.aload_n 0, 1) := by decide +kernel
theorem dX1_isHead_1 : decode cX1_isHead 1 = .ok (.getfield 9, 3) := by decide +kernel
theorem dX1_isHead_4 : decode cX1_isHead 4 = .ok (.iload_n 1, 1) := by decide +kernel
theorem dX1_isHead_5 : decode cX1_isHead 5 = .ok (.iaload, 1) := by decide +kernel
theorem dX1_isHead_6 : decode cX1_isHead 6 = .ok (.iconst 1, 1) := by decide +kernel
theorem dX1_isHead_7 : decode cX1_isHead 7 = .ok (.invokestatic 76, 3) := by decide +kernel
theorem dX1_isHead_10 : decode cX1_isHead 10 = .ok (.ireturn, 1) := by decide +kernel
theorem dX1_traits_0 : decode cX1_traits 0 = .ok (.iload_n 1, 1) := by decide +kernel
theorem dX1_traits_1 : decode cX1_traits 1 = .ok (.tableswitch 51 0 3 #[31, 36, 41, 46], 31) := by decide +kernel
theorem dX1_traits_32 : decode cX1_traits 32 = .ok (.aload_n 0, 1) := by decide +kernel
theorem dX1_traits_33 : decode cX1_traits 33 = .ok (.getfield 9, 3) := by decide +kernel
theorem dX1_traits_36 : decode cX1_traits 36 = .ok (.areturn, 1) := by decide +kernel
theorem dX1_traits_37 : decode cX1_traits 37 = .ok (.aload_n 0, 1) := by decide +kernel
theorem dX1_traits_38 : decode cX1_traits 38 = .ok (.getfield 15, 3) := by decide +kernel
theorem dX1_traits_41 : decode cX1_traits 41 = .ok (.areturn, 1) := by decide +kernel
theorem dX1_traits_42 : decode cX1_traits 42 = .ok (.aload_n 0, 1) := by decide +kernel
theorem dX1_traits_43 : decode cX1_traits 43 = .ok (.getfield 18, 3) := by decide +kernel
theorem dX1_traits_46 : decode cX1_traits 46 = .ok (.areturn, 1) := by decide +kernel
theorem dX1_traits_47 : decode cX1_traits 47 = .ok (.aload_n 0, 1) := by decide +kernel
theorem dX1_traits_48 : decode cX1_traits 48 = .ok (.getfield 21, 3) := by decide +kernel
theorem dX1_traits_51 : decode cX1_traits 51 = .ok (.areturn, 1) := by decide +kernel
theorem dX1_traits_52 : decode cX1_traits 52 = .ok (.aconst_null, 1) := by decide +kernel
theorem dX1_traits_53 : decode cX1_traits 53 = .ok (.areturn, 1) := by decide +kernel
theorem dX1_addPart_0 : decode cX1_addPart 0 = .ok (.aload_n 0, 1) := by decide +kernel
theorem dX1_addPart_1 : decode cX1_addPart 1 = .ok (.getfield 9, 3) := by decide +kernel
theorem dX1_addPart_4 : decode cX1_addPart 4 = .ok (.aload_n 0, 1) := by decide +kernel
theorem dX1_addPart_5 : decode cX1_addPart 5 = .ok (.getfield 61, 3) := by decide +kernel
theorem dX1_addPart_8 : decode cX1_addPart 8 = .ok (.iload_n 1, 1) := by decide +kernel
theorem dX1_addPart_9 : decode cX1_addPart 9 = .ok (.iastore, 1) := by decide +kernel
theorem dX1_addPart_10 : decode cX1_addPart 10 = .ok (.aload_n 0, 1) := by decide +kernel
theorem dX1_addPart_11 : decode cX1_addPart 11 = .ok (.getfield 15, 3) := by decide +kernel
theorem dX1_addPart_14 : decode cX1_addPart 14 = .ok (.aload_n 0, 1) := by decide +kernel
theorem dX1_addPart_15 : decode cX1_addPart 15 = .ok (.getfield 61, 3) := by decide +kernel
theorem dX1_addPart_18 : decode cX1_addPart 18 = .ok (.iload_n 2, 1) := by decide +kernel
theorem dX1_addPart_19 : decode cX1_addPart 19 = .ok (.iastore, 1) := by decide +kernel
theorem dX1_addPart_20 : decode cX1_addPart 20 = .ok (.aload_n 0, 1) := by decide +kernel
theorem dX1_addPart_21 : decode cX1_addPart 21 = .ok (.getfield 18, 3) := by decide +kernel
theorem dX1_addPart_24 : decode cX1_addPart 24 = .ok (.aload_n 0, 1) := by decide +kernel
theorem dX1_addPart_25 : decode cX1_addPart 25 = .ok (.getfield 61, 3) := by decide +kernel
theorem dX1_addPart_28 : decode cX1_addPart 28 = .ok (.iload_n 3, 1) := by decide +kernel
theorem dX1_addPart_29 : decode cX1_addPart 29 = .ok (.iastore, 1) := by decide +kernel
theorem dX1_addPart_30 : decode cX1_addPart 30 = .ok (.aload_n 0, 1) := by decide +kernel
theorem dX1_addPart_31 : decode cX1_addPart 31 = .ok (.getfield 21, 3) := by decide +kernel
theorem dX1_addPart_34 : decode cX1_addPart 34 = .ok (.aload_n 0, 1) := by decide +kernel
theorem dX1_addPart_35 : decode cX1_addPart 35 = .ok (.getfield 61, 3) := by decide +kernel
theorem dX1_addPart_38 : decode cX1_addPart 38 = .ok (.iload 4, 2) := by decide +kernel
theorem dX1_addPart_40 : decode cX1_addPart 40 = .ok (.iastore, 1) := by decide +kernel
theorem dX1_addPart_41 : decode cX1_addPart 41 = .ok (.aload_n 0, 1) := by decide +kernel
theorem dX1_addPart_42 : decode cX1_addPart 42 = .ok (.dup, 1) := by decide +kernel
theorem dX1_addPart_43 : decode cX1_addPart 43 = .ok (.getfield 61, 3) := by decide +kernel
theorem dX1_addPart_46 : decode cX1_addPart 46 = .ok (.dup_x1, 1) := by decide +kernel
theorem dX1_addPart_47 : decode cX1_addPart 47 = .ok (.iconst 1, 1) := by decide +kernel
theorem dX1_addPart_48 : decode cX1_addPart 48 = .ok (.iadd, 1) := by decide +kernel
theorem dX1_addPart_49 : decode cX1_addPart 49 = .ok (.putfield 61, 3) := by decide +kernel
theorem dX1_addPart_52 : decode cX1_addPart 52 = .ok (.ireturn, 1) := by decide +kernel
theorem dX1_addVisitor_0 : decode cX1_addVisitor 0 = .ok (.aload_n 0, 1) := by decide +kernel
theorem dX1_addVisitor_1 : decode cX1_addVisitor 1 = .ok (.getfield 33, 3) := by decide +kernel
theorem dX1_addVisitor_4 : decode cX1_addVisitor 4 = .ok (.aload_n 0, 1) := by decide +kernel
theorem dX1_addVisitor_5 : decode cX1_addVisitor 5 = .ok (.getfield 64, 3) := by decide +kernel
theorem dX1_addVisitor_8 : decode cX1_addVisitor 8 = .ok (.aload_n 0, 1) := by decide +kernel
theorem dX1_addVisitor_9 : decode cX1_addVisitor 9 = .ok (.getfield 67, 3) := by decide +kernel
theorem dX1_addVisitor_12 : decode cX1_addVisitor 12 = .ok (.iastore, 1) := by decide +kernel
theorem dX1_addVisitor_13 : decode cX1_addVisitor 13 = .ok (.aload_n 0, 1) := by decide +kernel
theorem dX1_addVisitor_14 : decode cX1_addVisitor 14 = .ok (.dup, 1) := by decide +kernel
theorem dX1_addVisitor_15 : decode cX1_addVisitor 15 = .ok (.getfield 64, 3) := by decide +kernel
theorem dX1_addVisitor_18 : decode cX1_addVisitor 18 = .ok (.dup_x1, 1) := by decide +kernel
theorem dX1_addVisitor_19 : decode cX1_addVisitor 19 = .ok (.iconst 1, 1) := by decide +kernel
theorem dX1_addVisitor_20 : decode cX1_addVisitor 20 = .ok (.iadd, 1) := by decide +kernel
theorem dX1_addVisitor_21 : decode cX1_addVisitor 21 = .ok (.putfield 64, 3) := by decide +kernel
theorem dX1_addVisitor_24 : decode cX1_addVisitor 24 = .ok (.ireturn, 1) := by decide +kernel
theorem dX1_likeTo_0 : decode cX1_likeTo 0 = .ok (.aload_n 0, 1) := by decide +kernel
theorem dX1_likeTo_1 : decode cX1_likeTo 1 = .ok (.getfield 9, 3) := by decide +kernel
theorem dX1_likeTo_4 : decode cX1_likeTo 4 = .ok (.iload_n 1, 1) := by decide +kernel
theorem dX1_likeTo_5 : decode cX1_likeTo 5 = .ok (.iaload, 1) := by decide +kernel
theorem dX1_likeTo_6 : decode cX1_likeTo 6 = .ok (.aload_n 0, 1) := by decide +kernel
theorem dX1_likeTo_7 : decode cX1_likeTo 7 = .ok (.getfield 15, 3) := by decide +kernel
theorem dX1_likeTo_10 : decode cX1_likeTo 10 = .ok (.iload_n 1, 1) := by decide +kernel
theorem dX1_likeTo_11 : decode cX1_likeTo 11 = .ok (.iaload, 1) := by decide +kernel
theorem dX1_likeTo_12 : decode cX1_likeTo 12 = .ok (.aload_n 0, 1) := by decide +kernel
theorem dX1_likeTo_13 : decode cX1_likeTo 13 = .ok (.getfield 24, 3) := by decide +kernel
theorem dX1_likeTo_16 : decode cX1_likeTo 16 = .ok (.iload_n 2, 1) := by decide +kernel
theorem dX1_likeTo_17 : decode cX1_likeTo 17 = .ok (.iaload, 1) := by decide +kernel
theorem dX1_likeTo_18 : decode cX1_likeTo 18 = .ok (.invokestatic 80, 3) := by decide +kernel
theorem dX1_likeTo_21 : decode cX1_likeTo 21 = .ok (.ireturn, 1) := by decide +kernel
theorem dX1_minutesTo_0 : decode cX1_minutesTo 0 = .ok (.aload_n 0, 1) := by decide +kernel
theorem dX1_minutesTo_1 : decode cX1_minutesTo 1 = .ok (.getfield 21, 3) := by decide +kernel
theorem dX1_minutesTo_4 : decode cX1_minutesTo 4 = .ok (.iload_n 1, 1) := by decide +kernel
theorem dX1_minutesTo_5 : decode cX1_minutesTo 5 = .ok (.iaload, 1) := by decide +kernel
theorem dX1_minutesTo_6 : decode cX1_minutesTo 6 = .ok (.istore_n 3, 1) := by decide +kernel
theorem dX1_minutesTo_7 : decode cX1_minutesTo 7 = .ok (.iload_n 3, 1) := by decide +kernel
theorem dX1_minutesTo_8 : decode cX1_minutesTo 8 = .ok (.iconst (-1), 1) := by decide +kernel
theorem dX1_minutesTo_9 : decode cX1_minutesTo 9 = .ok (.if_icmp .eq 8, 3) := by decide +kernel
theorem dX1_minutesTo_12 : decode cX1_minutesTo 12 = .ok (.iload_n 2, 1) := by decide +kernel
theorem dX1_minutesTo_13 : decode cX1_minutesTo 13 = .ok (.iconst (-1), 1) := by decide +kernel
theorem dX1_minutesTo_14 : decode cX1_minutesTo 14 = .ok (.if_icmp .ne 8, 3) := by decide +kernel
theorem dX1_minutesTo_17 : decode cX1_minutesTo 17 = .ok (.bipush 6, 2) := by decide +kernel
theorem dX1_minutesTo_19 : decode cX1_minutesTo 19 = .ok (.goto 9, 3) := by decide +kernel
theorem dX1_minutesTo_22 : decode cX1_minutesTo 22 = .ok (.iload_n 3, 1) := by decide +kernel
theorem dX1_minutesTo_23 : decode cX1_minutesTo 23 = .ok (.iload_n 2, 1) := by decide +kernel
theorem dX1_minutesTo_24 : decode cX1_minutesTo 24 = .ok (.isub, 1) := by decide +kernel
theorem dX1_minutesTo_25 : decode cX1_minutesTo 25 = .ok (.invokestatic 84, 3) := by decide +kernel
theorem dX1_minutesTo_28 : decode cX1_minutesTo 28 = .ok (.istore 4, 2) := by decide +kernel
theorem dX1_minutesTo_30 : decode cX1_minutesTo 30 = .ok (.aload_n 0, 1) := by decide +kernel
theorem dX1_minutesTo_31 : decode cX1_minutesTo 31 = .ok (.getfield 9, 3) := by decide +kernel
theorem dX1_minutesTo_34 : decode cX1_minutesTo 34 = .ok (.iload_n 1, 1) := by decide +kernel
theorem dX1_minutesTo_35 : decode cX1_minutesTo 35 = .ok (.iaload, 1) := by decide +kernel
theorem dX1_minutesTo_36 : decode cX1_minutesTo 36 = .ok (.iload 4, 2) := by decide +kernel
theorem dX1_minutesTo_38 : decode cX1_minutesTo 38 = .ok (.aload_n 0, 1) := by decide +kernel
theorem dX1_minutesTo_39 : decode cX1_minutesTo 39 = .ok (.getfield 18, 3) := by decide +kernel
theorem dX1_minutesTo_42 : decode cX1_minutesTo 42 = .ok (.iload_n 1, 1) := by decide +kernel
theorem dX1_minutesTo_43 : decode cX1_minutesTo 43 = .ok (.iaload, 1) := by decide +kernel
theorem dX1_minutesTo_44 : decode cX1_minutesTo 44 = .ok (.invokestatic 90, 3) := by decide +kernel
theorem dX1_minutesTo_47 : decode cX1_minutesTo 47 = .ok (.ireturn, 1) := by decide +kernel
theorem dX1_partsAt_0 : decode cX1_partsAt 0 = .ok (.iconst 0, 1) := by decide +kernel
theorem dX1_partsAt_1 : decode cX1_partsAt 1 = .ok (.istore_n 2, 1) := by decide +kernel
theorem dX1_partsAt_2 : decode cX1_partsAt 2 = .ok (.iconst 0, 1) := by decide +kernel
theorem dX1_partsAt_3 : decode cX1_partsAt 3 = .ok (.istore_n 3, 1) := by decide +kernel
theorem dX1_partsAt_4 : decode cX1_partsAt 4 = .ok (.iload_n 3, 1) := by decide +kernel
theorem dX1_partsAt_5 : decode cX1_partsAt 5 = .ok (.aload_n 0, 1) := by decide +kernel
theorem dX1_partsAt_6 : decode cX1_partsAt 6 = .ok (.getfield 61, 3) := by decide +kernel
theorem dX1_partsAt_9 : decode cX1_partsAt 9 = .ok (.if_icmp .ge 25, 3) := by decide +kernel
theorem dX1_partsAt_12 : decode cX1_partsAt 12 = .ok (.aload_n 0, 1) := by decide +kernel
theorem dX1_partsAt_13 : decode cX1_partsAt 13 = .ok (.getfield 21, 3) := by decide +kernel
theorem dX1_partsAt_16 : decode cX1_partsAt 16 = .ok (.iload_n 3, 1) := by decide +kernel
theorem dX1_partsAt_17 : decode cX1_partsAt 17 = .ok (.iaload, 1) := by decide +kernel
theorem dX1_partsAt_18 : decode cX1_partsAt 18 = .ok (.iload_n 1, 1) := by decide +kernel
theorem dX1_partsAt_19 : decode cX1_partsAt 19 = .ok (.if_icmp .ne 9, 3) := by decide +kernel
theorem dX1_partsAt_22 : decode cX1_partsAt 22 = .ok (.iload_n 2, 1) := by decide +kernel
theorem dX1_partsAt_23 : decode cX1_partsAt 23 = .ok (.iconst 1, 1) := by decide +kernel
theorem dX1_partsAt_24 : decode cX1_partsAt 24 = .ok (.iload_n 3, 1) := by decide +kernel
theorem dX1_partsAt_25 : decode cX1_partsAt 25 = .ok (.ishl, 1) := by decide +kernel
theorem dX1_partsAt_26 : decode cX1_partsAt 26 = .ok (.ior, 1) := by decide +kernel
theorem dX1_partsAt_27 : decode cX1_partsAt 27 = .ok (.istore_n 2, 1) := by decide +kernel
theorem dX1_partsAt_28 : decode cX1_partsAt 28 = .ok (.iinc 3 1, 3) := by decide +kernel
theorem dX1_partsAt_31 : decode cX1_partsAt 31 = .ok (.goto (-27), 3) := by decide +kernel
theorem dX1_partsAt_34 : decode cX1_partsAt 34 = .ok (.iload_n 2, 1) := by decide +kernel
theorem dX1_partsAt_35 : decode cX1_partsAt 35 = .ok (.ireturn, 1) := by decide +kernel
theorem dX1_likeness_0 : decode cX1_likeness 0 = .ok (.aload_n 0, 1) := by decide +kernel
theorem dX1_likeness_1 : decode cX1_likeness 1 = .ok (.getfield 30, 3) := by decide +kernel
theorem dX1_likeness_4 : decode cX1_likeness 4 = .ok (.iload_n 1, 1) := by decide +kernel
theorem dX1_likeness_5 : decode cX1_likeness 5 = .ok (.iaload, 1) := by decide +kernel
theorem dX1_likeness_6 : decode cX1_likeness 6 = .ok (.istore_n 2, 1) := by decide +kernel
theorem dX1_likeness_7 : decode cX1_likeness 7 = .ok (.iconst 0, 1) := by decide +kernel
theorem dX1_likeness_8 : decode cX1_likeness 8 = .ok (.istore_n 3, 1) := by decide +kernel
theorem dX1_likeness_9 : decode cX1_likeness 9 = .ok (.iconst 0, 1) := by decide +kernel
theorem dX1_likeness_10 : decode cX1_likeness 10 = .ok (.istore 4, 2) := by decide +kernel
theorem dX1_likeness_12 : decode cX1_likeness 12 = .ok (.iload 4, 2) := by decide +kernel
theorem dX1_likeness_14 : decode cX1_likeness 14 = .ok (.aload_n 0, 1) := by decide +kernel
theorem dX1_likeness_15 : decode cX1_likeness 15 = .ok (.getfield 61, 3) := by decide +kernel
theorem dX1_likeness_18 : decode cX1_likeness 18 = .ok (.if_icmp .ge 37, 3) := by decide +kernel
theorem dX1_likeness_21 : decode cX1_likeness 21 = .ok (.iload_n 2, 1) := by decide +kernel
theorem dX1_likeness_22 : decode cX1_likeness 22 = .ok (.invokestatic 93, 3) := by decide +kernel
theorem dX1_likeness_25 : decode cX1_likeness 25 = .ok (.ifCond .eq 30, 3) := by decide +kernel
theorem dX1_likeness_28 : decode cX1_likeness 28 = .ok (.aload_n 0, 1) := by decide +kernel
theorem dX1_likeness_29 : decode cX1_likeness 29 = .ok (.getfield 21, 3) := by decide +kernel
theorem dX1_likeness_32 : decode cX1_likeness 32 = .ok (.iload 4, 2) := by decide +kernel
theorem dX1_likeness_34 : decode cX1_likeness 34 = .ok (.iaload, 1) := by decide +kernel
theorem dX1_likeness_35 : decode cX1_likeness 35 = .ok (.iload_n 1, 1) := by decide +kernel
theorem dX1_likeness_36 : decode cX1_likeness 36 = .ok (.if_icmp .ne 13, 3) := by decide +kernel
theorem dX1_likeness_39 : decode cX1_likeness 39 = .ok (.iload_n 3, 1) := by decide +kernel
theorem dX1_likeness_40 : decode cX1_likeness 40 = .ok (.aload_n 0, 1) := by decide +kernel
theorem dX1_likeness_41 : decode cX1_likeness 41 = .ok (.iload 4, 2) := by decide +kernel
theorem dX1_likeness_43 : decode cX1_likeness 43 = .ok (.iload_n 2, 1) := by decide +kernel
theorem dX1_likeness_44 : decode cX1_likeness 44 = .ok (.invokevirtual 97, 3) := by decide +kernel
theorem dX1_likeness_47 : decode cX1_likeness 47 = .ok (.iadd, 1) := by decide +kernel
theorem dX1_likeness_48 : decode cX1_likeness 48 = .ok (.istore_n 3, 1) := by decide +kernel
theorem dX1_likeness_49 : decode cX1_likeness 49 = .ok (.iinc 4 1, 3) := by decide +kernel
theorem dX1_likeness_52 : decode cX1_likeness 52 = .ok (.goto (-40), 3) := by decide +kernel
theorem dX1_likeness_55 : decode cX1_likeness 55 = .ok (.iload_n 3, 1) := by decide +kernel
theorem dX1_likeness_56 : decode cX1_likeness 56 = .ok (.ireturn, 1) := by decide +kernel
theorem dX1_allLikeness_0 : decode cX1_allLikeness 0 = .ok (.iconst 0, 1) := by decide +kernel
theorem dX1_allLikeness_1 : decode cX1_allLikeness 1 = .ok (.istore_n 1, 1) := by decide +kernel
theorem dX1_allLikeness_2 : decode cX1_allLikeness 2 = .ok (.iconst 0, 1) := by decide +kernel
theorem dX1_allLikeness_3 : decode cX1_allLikeness 3 = .ok (.istore_n 2, 1) := by decide +kernel
theorem dX1_allLikeness_4 : decode cX1_allLikeness 4 = .ok (.iload_n 2, 1) := by decide +kernel
theorem dX1_allLikeness_5 : decode cX1_allLikeness 5 = .ok (.bipush 6, 2) := by decide +kernel
theorem dX1_allLikeness_7 : decode cX1_allLikeness 7 = .ok (.if_icmp .ge 17, 3) := by decide +kernel
theorem dX1_allLikeness_10 : decode cX1_allLikeness 10 = .ok (.iload_n 1, 1) := by decide +kernel
theorem dX1_allLikeness_11 : decode cX1_allLikeness 11 = .ok (.aload_n 0, 1) := by decide +kernel
theorem dX1_allLikeness_12 : decode cX1_allLikeness 12 = .ok (.iload_n 2, 1) := by decide +kernel
theorem dX1_allLikeness_13 : decode cX1_allLikeness 13 = .ok (.invokevirtual 101, 3) := by decide +kernel
theorem dX1_allLikeness_16 : decode cX1_allLikeness 16 = .ok (.iadd, 1) := by decide +kernel
theorem dX1_allLikeness_17 : decode cX1_allLikeness 17 = .ok (.istore_n 1, 1) := by decide +kernel
theorem dX1_allLikeness_18 : decode cX1_allLikeness 18 = .ok (.iinc 2 1, 3) := by decide +kernel
theorem dX1_allLikeness_21 : decode cX1_allLikeness 21 = .ok (.goto (-17), 3) := by decide +kernel
theorem dX1_allLikeness_24 : decode cX1_allLikeness 24 = .ok (.iload_n 1, 1) := by decide +kernel
theorem dX1_allLikeness_25 : decode cX1_allLikeness 25 = .ok (.ireturn, 1) := by decide +kernel
theorem dX1_roomsShown_0 : decode cX1_roomsShown 0 = .ok (.iconst 0, 1) := by decide +kernel
theorem dX1_roomsShown_1 : decode cX1_roomsShown 1 = .ok (.istore_n 1, 1) := by decide +kernel
theorem dX1_roomsShown_2 : decode cX1_roomsShown 2 = .ok (.iconst 0, 1) := by decide +kernel
theorem dX1_roomsShown_3 : decode cX1_roomsShown 3 = .ok (.istore_n 2, 1) := by decide +kernel
theorem dX1_roomsShown_4 : decode cX1_roomsShown 4 = .ok (.iload_n 2, 1) := by decide +kernel
theorem dX1_roomsShown_5 : decode cX1_roomsShown 5 = .ok (.bipush 6, 2) := by decide +kernel
theorem dX1_roomsShown_7 : decode cX1_roomsShown 7 = .ok (.if_icmp .ge 27, 3) := by decide +kernel
theorem dX1_roomsShown_10 : decode cX1_roomsShown 10 = .ok (.aload_n 0, 1) := by decide +kernel
theorem dX1_roomsShown_11 : decode cX1_roomsShown 11 = .ok (.getfield 30, 3) := by decide +kernel
theorem dX1_roomsShown_14 : decode cX1_roomsShown 14 = .ok (.iload_n 2, 1) := by decide +kernel
theorem dX1_roomsShown_15 : decode cX1_roomsShown 15 = .ok (.iaload, 1) := by decide +kernel
theorem dX1_roomsShown_16 : decode cX1_roomsShown 16 = .ok (.invokestatic 93, 3) := by decide +kernel
theorem dX1_roomsShown_19 : decode cX1_roomsShown 19 = .ok (.ifCond .eq 9, 3) := by decide +kernel
theorem dX1_roomsShown_22 : decode cX1_roomsShown 22 = .ok (.iload_n 1, 1) := by decide +kernel
theorem dX1_roomsShown_23 : decode cX1_roomsShown 23 = .ok (.iconst 1, 1) := by decide +kernel
theorem dX1_roomsShown_24 : decode cX1_roomsShown 24 = .ok (.iload_n 2, 1) := by decide +kernel
theorem dX1_roomsShown_25 : decode cX1_roomsShown 25 = .ok (.ishl, 1) := by decide +kernel
theorem dX1_roomsShown_26 : decode cX1_roomsShown 26 = .ok (.ior, 1) := by decide +kernel
theorem dX1_roomsShown_27 : decode cX1_roomsShown 27 = .ok (.istore_n 1, 1) := by decide +kernel
theorem dX1_roomsShown_28 : decode cX1_roomsShown 28 = .ok (.iinc 2 1, 3) := by decide +kernel
theorem dX1_roomsShown_31 : decode cX1_roomsShown 31 = .ok (.goto (-27), 3) := by decide +kernel
theorem dX1_roomsShown_34 : decode cX1_roomsShown 34 = .ok (.iload_n 1, 1) := by decide +kernel
theorem dX1_roomsShown_35 : decode cX1_roomsShown 35 = .ok (.ireturn, 1) := by decide +kernel
theorem dX1_roomOf_0 : decode cX1_roomOf 0 = .ok (.aload_n 0, 1) := by decide +kernel
theorem dX1_roomOf_1 : decode cX1_roomOf 1 = .ok (.getfield 42, 3) := by decide +kernel
theorem dX1_roomOf_4 : decode cX1_roomOf 4 = .ok (.iconst 1, 1) := by decide +kernel
theorem dX1_roomOf_5 : decode cX1_roomOf 5 = .ok (.if_icmp .ge 5, 3) := by decide +kernel
theorem dX1_roomOf_8 : decode cX1_roomOf 8 = .ok (.iconst (-1), 1) := by decide +kernel
theorem dX1_roomOf_9 : decode cX1_roomOf 9 = .ok (.ireturn, 1) := by decide +kernel
theorem dX1_roomOf_10 : decode cX1_roomOf 10 = .ok (.aload_n 0, 1) := by decide +kernel
theorem dX1_roomOf_11 : decode cX1_roomOf 11 = .ok (.getfield 67, 3) := by decide +kernel
theorem dX1_roomOf_14 : decode cX1_roomOf 14 = .ok (.aload_n 0, 1) := by decide +kernel
theorem dX1_roomOf_15 : decode cX1_roomOf 15 = .ok (.getfield 33, 3) := by decide +kernel
theorem dX1_roomOf_18 : decode cX1_roomOf 18 = .ok (.iload_n 1, 1) := by decide +kernel
theorem dX1_roomOf_19 : decode cX1_roomOf 19 = .ok (.iaload, 1) := by decide +kernel
theorem dX1_roomOf_20 : decode cX1_roomOf 20 = .ok (.isub, 1) := by decide +kernel
theorem dX1_roomOf_21 : decode cX1_roomOf 21 = .ok (.aload_n 0, 1) := by decide +kernel
theorem dX1_roomOf_22 : decode cX1_roomOf 22 = .ok (.getfield 42, 3) := by decide +kernel
theorem dX1_roomOf_25 : decode cX1_roomOf 25 = .ok (.idiv, 1) := by decide +kernel
theorem dX1_roomOf_26 : decode cX1_roomOf 26 = .ok (.istore_n 2, 1) := by decide +kernel
theorem dX1_roomOf_27 : decode cX1_roomOf 27 = .ok (.iload_n 2, 1) := by decide +kernel
theorem dX1_roomOf_28 : decode cX1_roomOf 28 = .ok (.invokestatic 103, 3) := by decide +kernel
theorem dX1_roomOf_31 : decode cX1_roomOf 31 = .ok (.ifCond .eq 7, 3) := by decide +kernel
theorem dX1_roomOf_34 : decode cX1_roomOf 34 = .ok (.iload_n 2, 1) := by decide +kernel
theorem dX1_roomOf_35 : decode cX1_roomOf 35 = .ok (.goto 4, 3) := by decide +kernel
theorem dX1_roomOf_38 : decode cX1_roomOf 38 = .ok (.iconst (-1), 1) := by decide +kernel
theorem dX1_roomOf_39 : decode cX1_roomOf 39 = .ok (.ireturn, 1) := by decide +kernel
theorem dX1_visitorsIn_0 : decode cX1_visitorsIn 0 = .ok (.iconst 0, 1) := by decide +kernel
theorem dX1_visitorsIn_1 : decode cX1_visitorsIn 1 = .ok (.istore_n 2, 1) := by decide +kernel
theorem dX1_visitorsIn_2 : decode cX1_visitorsIn 2 = .ok (.iconst 0, 1) := by decide +kernel
theorem dX1_visitorsIn_3 : decode cX1_visitorsIn 3 = .ok (.istore_n 3, 1) := by decide +kernel
theorem dX1_visitorsIn_4 : decode cX1_visitorsIn 4 = .ok (.iload_n 3, 1) := by decide +kernel
theorem dX1_visitorsIn_5 : decode cX1_visitorsIn 5 = .ok (.aload_n 0, 1) := by decide +kernel
theorem dX1_visitorsIn_6 : decode cX1_visitorsIn 6 = .ok (.getfield 64, 3) := by decide +kernel
theorem dX1_visitorsIn_9 : decode cX1_visitorsIn 9 = .ok (.if_icmp .ge 24, 3) := by decide +kernel
theorem dX1_visitorsIn_12 : decode cX1_visitorsIn 12 = .ok (.aload_n 0, 1) := by decide +kernel
theorem dX1_visitorsIn_13 : decode cX1_visitorsIn 13 = .ok (.iload_n 3, 1) := by decide +kernel
theorem dX1_visitorsIn_14 : decode cX1_visitorsIn 14 = .ok (.invokevirtual 106, 3) := by decide +kernel
theorem dX1_visitorsIn_17 : decode cX1_visitorsIn 17 = .ok (.iload_n 1, 1) := by decide +kernel
theorem dX1_visitorsIn_18 : decode cX1_visitorsIn 18 = .ok (.if_icmp .ne 9, 3) := by decide +kernel
theorem dX1_visitorsIn_21 : decode cX1_visitorsIn 21 = .ok (.iload_n 2, 1) := by decide +kernel
theorem dX1_visitorsIn_22 : decode cX1_visitorsIn 22 = .ok (.iconst 1, 1) := by decide +kernel
theorem dX1_visitorsIn_23 : decode cX1_visitorsIn 23 = .ok (.iload_n 3, 1) := by decide +kernel
theorem dX1_visitorsIn_24 : decode cX1_visitorsIn 24 = .ok (.ishl, 1) := by decide +kernel
theorem dX1_visitorsIn_25 : decode cX1_visitorsIn 25 = .ok (.ior, 1) := by decide +kernel
theorem dX1_visitorsIn_26 : decode cX1_visitorsIn 26 = .ok (.istore_n 2, 1) := by decide +kernel
theorem dX1_visitorsIn_27 : decode cX1_visitorsIn 27 = .ok (.iinc 3 1, 3) := by decide +kernel
theorem dX1_visitorsIn_30 : decode cX1_visitorsIn 30 = .ok (.goto (-26), 3) := by decide +kernel
theorem dX1_visitorsIn_33 : decode cX1_visitorsIn 33 = .ok (.iload_n 2, 1) := by decide +kernel
theorem dX1_visitorsIn_34 : decode cX1_visitorsIn 34 = .ok (.ireturn, 1) := by decide +kernel
theorem dX1_visitorsThere_0 : decode cX1_visitorsThere 0 = .ok (.iconst 0, 1) := by decide +kernel
theorem dX1_visitorsThere_1 : decode cX1_visitorsThere 1 = .ok (.istore_n 1, 1) := by decide +kernel
theorem dX1_visitorsThere_2 : decode cX1_visitorsThere 2 = .ok (.iconst 0, 1) := by decide +kernel
theorem dX1_visitorsThere_3 : decode cX1_visitorsThere 3 = .ok (.istore_n 2, 1) := by decide +kernel
theorem dX1_visitorsThere_4 : decode cX1_visitorsThere 4 = .ok (.iload_n 2, 1) := by decide +kernel
theorem dX1_visitorsThere_5 : decode cX1_visitorsThere 5 = .ok (.bipush 6, 2) := by decide +kernel
theorem dX1_visitorsThere_7 : decode cX1_visitorsThere 7 = .ok (.if_icmp .ge 17, 3) := by decide +kernel
theorem dX1_visitorsThere_10 : decode cX1_visitorsThere 10 = .ok (.iload_n 1, 1) := by decide +kernel
theorem dX1_visitorsThere_11 : decode cX1_visitorsThere 11 = .ok (.aload_n 0, 1) := by decide +kernel
theorem dX1_visitorsThere_12 : decode cX1_visitorsThere 12 = .ok (.iload_n 2, 1) := by decide +kernel
theorem dX1_visitorsThere_13 : decode cX1_visitorsThere 13 = .ok (.invokevirtual 109, 3) := by decide +kernel
theorem dX1_visitorsThere_16 : decode cX1_visitorsThere 16 = .ok (.ior, 1) := by decide +kernel
theorem dX1_visitorsThere_17 : decode cX1_visitorsThere 17 = .ok (.istore_n 1, 1) := by decide +kernel
theorem dX1_visitorsThere_18 : decode cX1_visitorsThere 18 = .ok (.iinc 2 1, 3) := by decide +kernel
theorem dX1_visitorsThere_21 : decode cX1_visitorsThere 21 = .ok (.goto (-17), 3) := by decide +kernel
theorem dX1_visitorsThere_24 : decode cX1_visitorsThere 24 = .ok (.iload_n 1, 1) := by decide +kernel
theorem dX1_visitorsThere_25 : decode cX1_visitorsThere 25 = .ok (.ireturn, 1) := by decide +kernel
theorem dX1_minutesTillEmpty_0 : decode cX1_minutesTillEmpty 0 = .ok (.iconst 0, 1) := by decide +kernel
theorem dX1_minutesTillEmpty_1 : decode cX1_minutesTillEmpty 1 = .ok (.istore_n 1, 1) := by decide +kernel
theorem dX1_minutesTillEmpty_2 : decode cX1_minutesTillEmpty 2 = .ok (.iconst 0, 1) := by decide +kernel
theorem dX1_minutesTillEmpty_3 : decode cX1_minutesTillEmpty 3 = .ok (.istore_n 2, 1) := by decide +kernel
theorem dX1_minutesTillEmpty_4 : decode cX1_minutesTillEmpty 4 = .ok (.iload_n 2, 1) := by decide +kernel
theorem dX1_minutesTillEmpty_5 : decode cX1_minutesTillEmpty 5 = .ok (.aload_n 0, 1) := by decide +kernel
theorem dX1_minutesTillEmpty_6 : decode cX1_minutesTillEmpty 6 = .ok (.getfield 64, 3) := by decide +kernel
theorem dX1_minutesTillEmpty_9 : decode cX1_minutesTillEmpty 9 = .ok (.if_icmp .ge 33, 3) := by decide +kernel
theorem dX1_minutesTillEmpty_12 : decode cX1_minutesTillEmpty 12 = .ok (.iload_n 1, 1) := by decide +kernel
theorem dX1_minutesTillEmpty_13 : decode cX1_minutesTillEmpty 13 = .ok (.aload_n 0, 1) := by decide +kernel
theorem dX1_minutesTillEmpty_14 : decode cX1_minutesTillEmpty 14 = .ok (.getfield 33, 3) := by decide +kernel
theorem dX1_minutesTillEmpty_17 : decode cX1_minutesTillEmpty 17 = .ok (.iload_n 2, 1) := by decide +kernel
theorem dX1_minutesTillEmpty_18 : decode cX1_minutesTillEmpty 18 = .ok (.iaload, 1) := by decide +kernel
theorem dX1_minutesTillEmpty_19 : decode cX1_minutesTillEmpty 19 = .ok (.bipush 6, 2) := by decide +kernel
theorem dX1_minutesTillEmpty_21 : decode cX1_minutesTillEmpty 21 = .ok (.aload_n 0, 1) := by decide +kernel
theorem dX1_minutesTillEmpty_22 : decode cX1_minutesTillEmpty 22 = .ok (.getfield 42, 3) := by decide +kernel
theorem dX1_minutesTillEmpty_25 : decode cX1_minutesTillEmpty 25 = .ok (.imul, 1) := by decide +kernel
theorem dX1_minutesTillEmpty_26 : decode cX1_minutesTillEmpty 26 = .ok (.iadd, 1) := by decide +kernel
theorem dX1_minutesTillEmpty_27 : decode cX1_minutesTillEmpty 27 = .ok (.aload_n 0, 1) := by decide +kernel
theorem dX1_minutesTillEmpty_28 : decode cX1_minutesTillEmpty 28 = .ok (.getfield 67, 3) := by decide +kernel
theorem dX1_minutesTillEmpty_31 : decode cX1_minutesTillEmpty 31 = .ok (.isub, 1) := by decide +kernel
theorem dX1_minutesTillEmpty_32 : decode cX1_minutesTillEmpty 32 = .ok (.invokestatic 112, 3) := by decide +kernel
theorem dX1_minutesTillEmpty_35 : decode cX1_minutesTillEmpty 35 = .ok (.istore_n 1, 1) := by decide +kernel
theorem dX1_minutesTillEmpty_36 : decode cX1_minutesTillEmpty 36 = .ok (.iinc 2 1, 3) := by decide +kernel
theorem dX1_minutesTillEmpty_39 : decode cX1_minutesTillEmpty 39 = .ok (.goto (-35), 3) := by decide +kernel
theorem dX1_minutesTillEmpty_42 : decode cX1_minutesTillEmpty 42 = .ok (.iload_n 1, 1) := by decide +kernel
theorem dX1_minutesTillEmpty_43 : decode cX1_minutesTillEmpty 43 = .ok (.ireturn, 1) := by decide +kernel
theorem dX1_passes_0 : decode cX1_passes 0 = .ok (.aload_n 0, 1) := by decide +kernel
theorem dX1_passes_1 : decode cX1_passes 1 = .ok (.getfield 33, 3) := by decide +kernel
theorem dX1_passes_4 : decode cX1_passes 4 = .ok (.iload_n 1, 1) := by decide +kernel
theorem dX1_passes_5 : decode cX1_passes 5 = .ok (.iaload, 1) := by decide +kernel
theorem dX1_passes_6 : decode cX1_passes 6 = .ok (.iload_n 2, 1) := by decide +kernel
theorem dX1_passes_7 : decode cX1_passes 7 = .ok (.aload_n 0, 1) := by decide +kernel
theorem dX1_passes_8 : decode cX1_passes 8 = .ok (.getfield 42, 3) := by decide +kernel
theorem dX1_passes_11 : decode cX1_passes 11 = .ok (.imul, 1) := by decide +kernel
theorem dX1_passes_12 : decode cX1_passes 12 = .ok (.iadd, 1) := by decide +kernel
theorem dX1_passes_13 : decode cX1_passes 13 = .ok (.istore 5, 2) := by decide +kernel
theorem dX1_passes_15 : decode cX1_passes 15 = .ok (.iload_n 2, 1) := by decide +kernel
theorem dX1_passes_16 : decode cX1_passes 16 = .ok (.invokestatic 103, 3) := by decide +kernel
theorem dX1_passes_19 : decode cX1_passes 19 = .ok (.ifCond .eq 28, 3) := by decide +kernel
theorem dX1_passes_22 : decode cX1_passes 22 = .ok (.iload 5, 2) := by decide +kernel
theorem dX1_passes_24 : decode cX1_passes 24 = .ok (.iload_n 3, 1) := by decide +kernel
theorem dX1_passes_25 : decode cX1_passes 25 = .ok (.invokestatic 112, 3) := by decide +kernel
theorem dX1_passes_28 : decode cX1_passes 28 = .ok (.iload 5, 2) := by decide +kernel
theorem dX1_passes_30 : decode cX1_passes 30 = .ok (.aload_n 0, 1) := by decide +kernel
theorem dX1_passes_31 : decode cX1_passes 31 = .ok (.getfield 42, 3) := by decide +kernel
theorem dX1_passes_34 : decode cX1_passes 34 = .ok (.iadd, 1) := by decide +kernel
theorem dX1_passes_35 : decode cX1_passes 35 = .ok (.iload 4, 2) := by decide +kernel
theorem dX1_passes_37 : decode cX1_passes 37 = .ok (.invokestatic 115, 3) := by decide +kernel
theorem dX1_passes_40 : decode cX1_passes 40 = .ok (.if_icmp .ge 7, 3) := by decide +kernel
theorem dX1_passes_43 : decode cX1_passes 43 = .ok (.iconst 1, 1) := by decide +kernel
theorem dX1_passes_44 : decode cX1_passes 44 = .ok (.goto 4, 3) := by decide +kernel
theorem dX1_passes_47 : decode cX1_passes 47 = .ok (.iconst 0, 1) := by decide +kernel
theorem dX1_passes_48 : decode cX1_passes 48 = .ok (.ireturn, 1) := by decide +kernel
theorem dX1_spend_0 : decode cX1_spend 0 = .ok (.iconst 0, 1) := by decide +kernel
theorem dX1_spend_1 : decode cX1_spend 1 = .ok (.istore_n 2, 1) := by decide +kernel
theorem dX1_spend_2 : decode cX1_spend 2 = .ok (.iload_n 2, 1) := by decide +kernel
theorem dX1_spend_3 : decode cX1_spend 3 = .ok (.aload_n 0, 1) := by decide +kernel
theorem dX1_spend_4 : decode cX1_spend 4 = .ok (.getfield 64, 3) := by decide +kernel
theorem dX1_spend_7 : decode cX1_spend 7 = .ok (.if_icmp .ge 71, 3) := by decide +kernel
theorem dX1_spend_10 : decode cX1_spend 10 = .ok (.iconst 0, 1) := by decide +kernel
theorem dX1_spend_11 : decode cX1_spend 11 = .ok (.istore_n 3, 1) := by decide +kernel
theorem dX1_spend_12 : decode cX1_spend 12 = .ok (.iload_n 3, 1) := by decide +kernel
theorem dX1_spend_13 : decode cX1_spend 13 = .ok (.aload_n 0, 1) := by decide +kernel
theorem dX1_spend_14 : decode cX1_spend 14 = .ok (.getfield 61, 3) := by decide +kernel
theorem dX1_spend_17 : decode cX1_spend 17 = .ok (.if_icmp .ge 55, 3) := by decide +kernel
theorem dX1_spend_20 : decode cX1_spend 20 = .ok (.aload_n 0, 1) := by decide +kernel
theorem dX1_spend_21 : decode cX1_spend 21 = .ok (.iload_n 2, 1) := by decide +kernel
theorem dX1_spend_22 : decode cX1_spend 22 = .ok (.aload_n 0, 1) := by decide +kernel
theorem dX1_spend_23 : decode cX1_spend 23 = .ok (.getfield 21, 3) := by decide +kernel
theorem dX1_spend_26 : decode cX1_spend 26 = .ok (.iload_n 3, 1) := by decide +kernel
theorem dX1_spend_27 : decode cX1_spend 27 = .ok (.iaload, 1) := by decide +kernel
theorem dX1_spend_28 : decode cX1_spend 28 = .ok (.aload_n 0, 1) := by decide +kernel
theorem dX1_spend_29 : decode cX1_spend 29 = .ok (.getfield 67, 3) := by decide +kernel
theorem dX1_spend_32 : decode cX1_spend 32 = .ok (.aload_n 0, 1) := by decide +kernel
theorem dX1_spend_33 : decode cX1_spend 33 = .ok (.getfield 67, 3) := by decide +kernel
theorem dX1_spend_36 : decode cX1_spend 36 = .ok (.iload_n 1, 1) := by decide +kernel
theorem dX1_spend_37 : decode cX1_spend 37 = .ok (.iadd, 1) := by decide +kernel
theorem dX1_spend_38 : decode cX1_spend 38 = .ok (.invokevirtual 118, 3) := by decide +kernel
theorem dX1_spend_41 : decode cX1_spend 41 = .ok (.ifCond .eq 25, 3) := by decide +kernel
theorem dX1_spend_44 : decode cX1_spend 44 = .ok (.aload_n 0, 1) := by decide +kernel
theorem dX1_spend_45 : decode cX1_spend 45 = .ok (.getfield 36, 3) := by decide +kernel
theorem dX1_spend_48 : decode cX1_spend 48 = .ok (.iload_n 2, 1) := by decide +kernel
theorem dX1_spend_49 : decode cX1_spend 49 = .ok (.bipush 10, 2) := by decide +kernel
theorem dX1_spend_51 : decode cX1_spend 51 = .ok (.imul, 1) := by decide +kernel
theorem dX1_spend_52 : decode cX1_spend 52 = .ok (.iload_n 3, 1) := by decide +kernel
theorem dX1_spend_53 : decode cX1_spend 53 = .ok (.iadd, 1) := by decide +kernel
theorem dX1_spend_54 : decode cX1_spend 54 = .ok (.dup2, 1) := by decide +kernel
theorem dX1_spend_55 : decode cX1_spend 55 = .ok (.iaload, 1) := by decide +kernel
theorem dX1_spend_56 : decode cX1_spend 56 = .ok (.iconst 1, 1) := by decide +kernel
theorem dX1_spend_57 : decode cX1_spend 57 = .ok (.aload_n 0, 1) := by decide +kernel
theorem dX1_spend_58 : decode cX1_spend 58 = .ok (.getfield 21, 3) := by decide +kernel
theorem dX1_spend_61 : decode cX1_spend 61 = .ok (.iload_n 3, 1) := by decide +kernel
theorem dX1_spend_62 : decode cX1_spend 62 = .ok (.iaload, 1) := by decide +kernel
theorem dX1_spend_63 : decode cX1_spend 63 = .ok (.ishl, 1) := by decide +kernel
theorem dX1_spend_64 : decode cX1_spend 64 = .ok (.ior, 1) := by decide +kernel
theorem dX1_spend_65 : decode cX1_spend 65 = .ok (.iastore, 1) := by decide +kernel
theorem dX1_spend_66 : decode cX1_spend 66 = .ok (.iinc 3 1, 3) := by decide +kernel
theorem dX1_spend_69 : decode cX1_spend 69 = .ok (.goto (-57), 3) := by decide +kernel
theorem dX1_spend_72 : decode cX1_spend 72 = .ok (.iinc 2 1, 3) := by decide +kernel
theorem dX1_spend_75 : decode cX1_spend 75 = .ok (.goto (-73), 3) := by decide +kernel
theorem dX1_spend_78 : decode cX1_spend 78 = .ok (.aload_n 0, 1) := by decide +kernel
theorem dX1_spend_79 : decode cX1_spend 79 = .ok (.dup, 1) := by decide +kernel
theorem dX1_spend_80 : decode cX1_spend 80 = .ok (.getfield 67, 3) := by decide +kernel
theorem dX1_spend_83 : decode cX1_spend 83 = .ok (.iload_n 1, 1) := by decide +kernel
theorem dX1_spend_84 : decode cX1_spend 84 = .ok (.iadd, 1) := by decide +kernel
theorem dX1_spend_85 : decode cX1_spend 85 = .ok (.putfield 67, 3) := by decide +kernel
theorem dX1_spend_88 : decode cX1_spend 88 = .ok (.return_, 1) := by decide +kernel
theorem dX1_carry_0 : decode cX1_carry 0 = .ok (.aload_n 0, 1) := by decide +kernel
theorem dX1_carry_1 : decode cX1_carry 1 = .ok (.iload_n 1, 1) := by decide +kernel
theorem dX1_carry_2 : decode cX1_carry 2 = .ok (.iload_n 2, 1) := by decide +kernel
theorem dX1_carry_3 : decode cX1_carry 3 = .ok (.invokevirtual 122, 3) := by decide +kernel
theorem dX1_carry_6 : decode cX1_carry 6 = .ok (.istore_n 3, 1) := by decide +kernel
theorem dX1_carry_7 : decode cX1_carry 7 = .ok (.aload_n 0, 1) := by decide +kernel
theorem dX1_carry_8 : decode cX1_carry 8 = .ok (.getfield 21, 3) := by decide +kernel
theorem dX1_carry_11 : decode cX1_carry 11 = .ok (.iload_n 1, 1) := by decide +kernel
theorem dX1_carry_12 : decode cX1_carry 12 = .ok (.iconst (-1), 1) := by decide +kernel
theorem dX1_carry_13 : decode cX1_carry 13 = .ok (.iastore, 1) := by decide +kernel
theorem dX1_carry_14 : decode cX1_carry 14 = .ok (.aload_n 0, 1) := by decide +kernel
theorem dX1_carry_15 : decode cX1_carry 15 = .ok (.iload_n 3, 1) := by decide +kernel
theorem dX1_carry_16 : decode cX1_carry 16 = .ok (.invokevirtual 125, 3) := by decide +kernel
theorem dX1_carry_19 : decode cX1_carry 19 = .ok (.aload_n 0, 1) := by decide +kernel
theorem dX1_carry_20 : decode cX1_carry 20 = .ok (.getfield 21, 3) := by decide +kernel
theorem dX1_carry_23 : decode cX1_carry 23 = .ok (.iload_n 1, 1) := by decide +kernel
theorem dX1_carry_24 : decode cX1_carry 24 = .ok (.iload_n 2, 1) := by decide +kernel
theorem dX1_carry_25 : decode cX1_carry 25 = .ok (.iastore, 1) := by decide +kernel
theorem dX1_carry_26 : decode cX1_carry 26 = .ok (.return_, 1) := by decide +kernel
theorem dX1_sighted_0 : decode cX1_sighted 0 = .ok (.iconst 0, 1) := by decide +kernel
theorem dX1_sighted_1 : decode cX1_sighted 1 = .ok (.istore_n 3, 1) := by decide +kernel
theorem dX1_sighted_2 : decode cX1_sighted 2 = .ok (.iconst 0, 1) := by decide +kernel
theorem dX1_sighted_3 : decode cX1_sighted 3 = .ok (.istore 4, 2) := by decide +kernel
theorem dX1_sighted_5 : decode cX1_sighted 5 = .ok (.iload 4, 2) := by decide +kernel
theorem dX1_sighted_7 : decode cX1_sighted 7 = .ok (.aload_n 0, 1) := by decide +kernel
theorem dX1_sighted_8 : decode cX1_sighted 8 = .ok (.getfield 61, 3) := by decide +kernel
theorem dX1_sighted_11 : decode cX1_sighted 11 = .ok (.if_icmp .ge 35, 3) := by decide +kernel
theorem dX1_sighted_14 : decode cX1_sighted 14 = .ok (.aload_n 0, 1) := by decide +kernel
theorem dX1_sighted_15 : decode cX1_sighted 15 = .ok (.getfield 36, 3) := by decide +kernel
theorem dX1_sighted_18 : decode cX1_sighted 18 = .ok (.iload_n 1, 1) := by decide +kernel
theorem dX1_sighted_19 : decode cX1_sighted 19 = .ok (.bipush 10, 2) := by decide +kernel
theorem dX1_sighted_21 : decode cX1_sighted 21 = .ok (.imul, 1) := by decide +kernel
theorem dX1_sighted_22 : decode cX1_sighted 22 = .ok (.iload 4, 2) := by decide +kernel
theorem dX1_sighted_24 : decode cX1_sighted 24 = .ok (.iadd, 1) := by decide +kernel
theorem dX1_sighted_25 : decode cX1_sighted 25 = .ok (.iaload, 1) := by decide +kernel
theorem dX1_sighted_26 : decode cX1_sighted 26 = .ok (.invokestatic 129, 3) := by decide +kernel
theorem dX1_sighted_29 : decode cX1_sighted 29 = .ok (.iload_n 2, 1) := by decide +kernel
theorem dX1_sighted_30 : decode cX1_sighted 30 = .ok (.if_icmp .lt 10, 3) := by decide +kernel
theorem dX1_sighted_33 : decode cX1_sighted 33 = .ok (.iload_n 3, 1) := by decide +kernel
theorem dX1_sighted_34 : decode cX1_sighted 34 = .ok (.iconst 1, 1) := by decide +kernel
theorem dX1_sighted_35 : decode cX1_sighted 35 = .ok (.iload 4, 2) := by decide +kernel
theorem dX1_sighted_37 : decode cX1_sighted 37 = .ok (.ishl, 1) := by decide +kernel
theorem dX1_sighted_38 : decode cX1_sighted 38 = .ok (.ior, 1) := by decide +kernel
theorem dX1_sighted_39 : decode cX1_sighted 39 = .ok (.istore_n 3, 1) := by decide +kernel
theorem dX1_sighted_40 : decode cX1_sighted 40 = .ok (.iinc 4 1, 3) := by decide +kernel
theorem dX1_sighted_43 : decode cX1_sighted 43 = .ok (.goto (-38), 3) := by decide +kernel
theorem dX1_sighted_46 : decode cX1_sighted 46 = .ok (.iload_n 3, 1) := by decide +kernel
theorem dX1_sighted_47 : decode cX1_sighted 47 = .ok (.ireturn, 1) := by decide +kernel
theorem dX1_sightedTwice_0 : decode cX1_sightedTwice 0 = .ok (.iconst 0, 1) := by decide +kernel
theorem dX1_sightedTwice_1 : decode cX1_sightedTwice 1 = .ok (.istore_n 1, 1) := by decide +kernel
theorem dX1_sightedTwice_2 : decode cX1_sightedTwice 2 = .ok (.iconst 0, 1) := by decide +kernel
theorem dX1_sightedTwice_3 : decode cX1_sightedTwice 3 = .ok (.istore_n 2, 1) := by decide +kernel
theorem dX1_sightedTwice_4 : decode cX1_sightedTwice 4 = .ok (.iload_n 2, 1) := by decide +kernel
theorem dX1_sightedTwice_5 : decode cX1_sightedTwice 5 = .ok (.aload_n 0, 1) := by decide +kernel
theorem dX1_sightedTwice_6 : decode cX1_sightedTwice 6 = .ok (.getfield 64, 3) := by decide +kernel
theorem dX1_sightedTwice_9 : decode cX1_sightedTwice 9 = .ok (.if_icmp .ge 18, 3) := by decide +kernel
theorem dX1_sightedTwice_12 : decode cX1_sightedTwice 12 = .ok (.iload_n 1, 1) := by decide +kernel
theorem dX1_sightedTwice_13 : decode cX1_sightedTwice 13 = .ok (.aload_n 0, 1) := by decide +kernel
theorem dX1_sightedTwice_14 : decode cX1_sightedTwice 14 = .ok (.iload_n 2, 1) := by decide +kernel
theorem dX1_sightedTwice_15 : decode cX1_sightedTwice 15 = .ok (.iconst 2, 1) := by decide +kernel
theorem dX1_sightedTwice_16 : decode cX1_sightedTwice 16 = .ok (.invokevirtual 134, 3) := by decide +kernel
theorem dX1_sightedTwice_19 : decode cX1_sightedTwice 19 = .ok (.ior, 1) := by decide +kernel
theorem dX1_sightedTwice_20 : decode cX1_sightedTwice 20 = .ok (.istore_n 1, 1) := by decide +kernel
theorem dX1_sightedTwice_21 : decode cX1_sightedTwice 21 = .ok (.iinc 2 1, 3) := by decide +kernel
theorem dX1_sightedTwice_24 : decode cX1_sightedTwice 24 = .ok (.goto (-20), 3) := by decide +kernel
theorem dX1_sightedTwice_27 : decode cX1_sightedTwice 27 = .ok (.iload_n 1, 1) := by decide +kernel
theorem dX1_sightedTwice_28 : decode cX1_sightedTwice 28 = .ok (.ireturn, 1) := by decide +kernel
theorem dX1_staysUnseen_0 : decode cX1_staysUnseen 0 = .ok (.aload_n 0, 1) := by decide +kernel
theorem dX1_staysUnseen_1 : decode cX1_staysUnseen 1 = .ok (.getfield 67, 3) := by decide +kernel
theorem dX1_staysUnseen_4 : decode cX1_staysUnseen 4 = .ok (.iload_n 3, 1) := by decide +kernel
theorem dX1_staysUnseen_5 : decode cX1_staysUnseen 5 = .ok (.iadd, 1) := by decide +kernel
theorem dX1_staysUnseen_6 : decode cX1_staysUnseen 6 = .ok (.istore 4, 2) := by decide +kernel
theorem dX1_staysUnseen_8 : decode cX1_staysUnseen 8 = .ok (.iload 4, 2) := by decide +kernel
theorem dX1_staysUnseen_10 : decode cX1_staysUnseen 10 = .ok (.aload_n 0, 1) := by decide +kernel
theorem dX1_staysUnseen_11 : decode cX1_staysUnseen 11 = .ok (.iload_n 1, 1) := by decide +kernel
theorem dX1_staysUnseen_12 : decode cX1_staysUnseen 12 = .ok (.iload_n 2, 1) := by decide +kernel
theorem dX1_staysUnseen_13 : decode cX1_staysUnseen 13 = .ok (.invokevirtual 122, 3) := by decide +kernel
theorem dX1_staysUnseen_16 : decode cX1_staysUnseen 16 = .ok (.iadd, 1) := by decide +kernel
theorem dX1_staysUnseen_17 : decode cX1_staysUnseen 17 = .ok (.istore 5, 2) := by decide +kernel
theorem dX1_staysUnseen_19 : decode cX1_staysUnseen 19 = .ok (.iconst 0, 1) := by decide +kernel
theorem dX1_staysUnseen_20 : decode cX1_staysUnseen 20 = .ok (.istore 6, 2) := by decide +kernel
theorem dX1_staysUnseen_22 : decode cX1_staysUnseen 22 = .ok (.iload 6, 2) := by decide +kernel
theorem dX1_staysUnseen_24 : decode cX1_staysUnseen 24 = .ok (.aload_n 0, 1) := by decide +kernel
theorem dX1_staysUnseen_25 : decode cX1_staysUnseen 25 = .ok (.getfield 64, 3) := by decide +kernel
theorem dX1_staysUnseen_28 : decode cX1_staysUnseen 28 = .ok (.if_icmp .ge 108, 3) := by decide +kernel
theorem dX1_staysUnseen_31 : decode cX1_staysUnseen 31 = .ok (.aload_n 0, 1) := by decide +kernel
theorem dX1_staysUnseen_32 : decode cX1_staysUnseen 32 = .ok (.getfield 36, 3) := by decide +kernel
theorem dX1_staysUnseen_35 : decode cX1_staysUnseen 35 = .ok (.iload 6, 2) := by decide +kernel
theorem dX1_staysUnseen_37 : decode cX1_staysUnseen 37 = .ok (.bipush 10, 2) := by decide +kernel
theorem dX1_staysUnseen_39 : decode cX1_staysUnseen 39 = .ok (.imul, 1) := by decide +kernel
theorem dX1_staysUnseen_40 : decode cX1_staysUnseen 40 = .ok (.iload_n 1, 1) := by decide +kernel
theorem dX1_staysUnseen_41 : decode cX1_staysUnseen 41 = .ok (.iadd, 1) := by decide +kernel
theorem dX1_staysUnseen_42 : decode cX1_staysUnseen 42 = .ok (.iaload, 1) := by decide +kernel
theorem dX1_staysUnseen_43 : decode cX1_staysUnseen 43 = .ok (.istore 7, 2) := by decide +kernel
theorem dX1_staysUnseen_45 : decode cX1_staysUnseen 45 = .ok (.aload_n 0, 1) := by decide +kernel
theorem dX1_staysUnseen_46 : decode cX1_staysUnseen 46 = .ok (.iload 6, 2) := by decide +kernel
theorem dX1_staysUnseen_48 : decode cX1_staysUnseen 48 = .ok (.invokevirtual 106, 3) := by decide +kernel
theorem dX1_staysUnseen_51 : decode cX1_staysUnseen 51 = .ok (.ifCond .lt 79, 3) := by decide +kernel
theorem dX1_staysUnseen_54 : decode cX1_staysUnseen 54 = .ok (.iload 7, 2) := by decide +kernel
theorem dX1_staysUnseen_56 : decode cX1_staysUnseen 56 = .ok (.invokestatic 129, 3) := by decide +kernel
theorem dX1_staysUnseen_59 : decode cX1_staysUnseen 59 = .ok (.iconst 2, 1) := by decide +kernel
theorem dX1_staysUnseen_60 : decode cX1_staysUnseen 60 = .ok (.if_icmp .ge 70, 3) := by decide +kernel
theorem dX1_staysUnseen_63 : decode cX1_staysUnseen 63 = .ok (.aload_n 0, 1) := by decide +kernel
theorem dX1_staysUnseen_64 : decode cX1_staysUnseen 64 = .ok (.iload 6, 2) := by decide +kernel
theorem dX1_staysUnseen_66 : decode cX1_staysUnseen 66 = .ok (.aload_n 0, 1) := by decide +kernel
theorem dX1_staysUnseen_67 : decode cX1_staysUnseen 67 = .ok (.getfield 21, 3) := by decide +kernel
theorem dX1_staysUnseen_70 : decode cX1_staysUnseen 70 = .ok (.iload_n 1, 1) := by decide +kernel
theorem dX1_staysUnseen_71 : decode cX1_staysUnseen 71 = .ok (.iaload, 1) := by decide +kernel
theorem dX1_staysUnseen_72 : decode cX1_staysUnseen 72 = .ok (.aload_n 0, 1) := by decide +kernel
theorem dX1_staysUnseen_73 : decode cX1_staysUnseen 73 = .ok (.getfield 67, 3) := by decide +kernel
theorem dX1_staysUnseen_76 : decode cX1_staysUnseen 76 = .ok (.iload 4, 2) := by decide +kernel
theorem dX1_staysUnseen_78 : decode cX1_staysUnseen 78 = .ok (.invokevirtual 118, 3) := by decide +kernel
theorem dX1_staysUnseen_81 : decode cX1_staysUnseen 81 = .ok (.ifCond .eq 16, 3) := by decide +kernel
theorem dX1_staysUnseen_84 : decode cX1_staysUnseen 84 = .ok (.iload 7, 2) := by decide +kernel
theorem dX1_staysUnseen_86 : decode cX1_staysUnseen 86 = .ok (.iconst 1, 1) := by decide +kernel
theorem dX1_staysUnseen_87 : decode cX1_staysUnseen 87 = .ok (.aload_n 0, 1) := by decide +kernel
theorem dX1_staysUnseen_88 : decode cX1_staysUnseen 88 = .ok (.getfield 21, 3) := by decide +kernel
theorem dX1_staysUnseen_91 : decode cX1_staysUnseen 91 = .ok (.iload_n 1, 1) := by decide +kernel
theorem dX1_staysUnseen_92 : decode cX1_staysUnseen 92 = .ok (.iaload, 1) := by decide +kernel
theorem dX1_staysUnseen_93 : decode cX1_staysUnseen 93 = .ok (.ishl, 1) := by decide +kernel
theorem dX1_staysUnseen_94 : decode cX1_staysUnseen 94 = .ok (.ior, 1) := by decide +kernel
theorem dX1_staysUnseen_95 : decode cX1_staysUnseen 95 = .ok (.istore 7, 2) := by decide +kernel
theorem dX1_staysUnseen_97 : decode cX1_staysUnseen 97 = .ok (.aload_n 0, 1) := by decide +kernel
theorem dX1_staysUnseen_98 : decode cX1_staysUnseen 98 = .ok (.iload 6, 2) := by decide +kernel
theorem dX1_staysUnseen_100 : decode cX1_staysUnseen 100 = .ok (.iload_n 2, 1) := by decide +kernel
theorem dX1_staysUnseen_101 : decode cX1_staysUnseen 101 = .ok (.iload 5, 2) := by decide +kernel
theorem dX1_staysUnseen_103 : decode cX1_staysUnseen 103 = .ok (.ldc 137, 2) := by decide +kernel
theorem dX1_staysUnseen_105 : decode cX1_staysUnseen 105 = .ok (.invokevirtual 118, 3) := by decide +kernel
theorem dX1_staysUnseen_108 : decode cX1_staysUnseen 108 = .ok (.ifCond .eq 11, 3) := by decide +kernel
theorem dX1_staysUnseen_111 : decode cX1_staysUnseen 111 = .ok (.iload 7, 2) := by decide +kernel
theorem dX1_staysUnseen_113 : decode cX1_staysUnseen 113 = .ok (.iconst 1, 1) := by decide +kernel
theorem dX1_staysUnseen_114 : decode cX1_staysUnseen 114 = .ok (.iload_n 2, 1) := by decide +kernel
theorem dX1_staysUnseen_115 : decode cX1_staysUnseen 115 = .ok (.ishl, 1) := by decide +kernel
theorem dX1_staysUnseen_116 : decode cX1_staysUnseen 116 = .ok (.ior, 1) := by decide +kernel
theorem dX1_staysUnseen_117 : decode cX1_staysUnseen 117 = .ok (.istore 7, 2) := by decide +kernel
theorem dX1_staysUnseen_119 : decode cX1_staysUnseen 119 = .ok (.iload 7, 2) := by decide +kernel
theorem dX1_staysUnseen_121 : decode cX1_staysUnseen 121 = .ok (.invokestatic 129, 3) := by decide +kernel
theorem dX1_staysUnseen_124 : decode cX1_staysUnseen 124 = .ok (.iconst 2, 1) := by decide +kernel
theorem dX1_staysUnseen_125 : decode cX1_staysUnseen 125 = .ok (.if_icmp .lt 5, 3) := by decide +kernel
theorem dX1_staysUnseen_128 : decode cX1_staysUnseen 128 = .ok (.iconst 0, 1) := by decide +kernel
theorem dX1_staysUnseen_129 : decode cX1_staysUnseen 129 = .ok (.ireturn, 1) := by decide +kernel
theorem dX1_staysUnseen_130 : decode cX1_staysUnseen 130 = .ok (.iinc 6 1, 3) := by decide +kernel
theorem dX1_staysUnseen_133 : decode cX1_staysUnseen 133 = .ok (.goto (-111), 3) := by decide +kernel
theorem dX1_staysUnseen_136 : decode cX1_staysUnseen 136 = .ok (.iconst 1, 1) := by decide +kernel
theorem dX1_staysUnseen_137 : decode cX1_staysUnseen 137 = .ok (.ireturn, 1) := by decide +kernel
theorem dX1_likestTo_0 : decode cX1_likestTo 0 = .ok (.iconst 0, 1) := by decide +kernel
theorem dX1_likestTo_1 : decode cX1_likestTo 1 = .ok (.istore_n 2, 1) := by decide +kernel
theorem dX1_likestTo_2 : decode cX1_likestTo 2 = .ok (.iconst 1, 1) := by decide +kernel
theorem dX1_likestTo_3 : decode cX1_likestTo 3 = .ok (.istore_n 3, 1) := by decide +kernel
theorem dX1_likestTo_4 : decode cX1_likestTo 4 = .ok (.iload_n 3, 1) := by decide +kernel
theorem dX1_likestTo_5 : decode cX1_likestTo 5 = .ok (.aload_n 0, 1) := by decide +kernel
theorem dX1_likestTo_6 : decode cX1_likestTo 6 = .ok (.getfield 61, 3) := by decide +kernel
theorem dX1_likestTo_9 : decode cX1_likestTo 9 = .ok (.if_icmp .ge 26, 3) := by decide +kernel
theorem dX1_likestTo_12 : decode cX1_likestTo 12 = .ok (.aload_n 0, 1) := by decide +kernel
theorem dX1_likestTo_13 : decode cX1_likestTo 13 = .ok (.iload_n 3, 1) := by decide +kernel
theorem dX1_likestTo_14 : decode cX1_likestTo 14 = .ok (.iload_n 1, 1) := by decide +kernel
theorem dX1_likestTo_15 : decode cX1_likestTo 15 = .ok (.invokevirtual 97, 3) := by decide +kernel
theorem dX1_likestTo_18 : decode cX1_likestTo 18 = .ok (.aload_n 0, 1) := by decide +kernel
theorem dX1_likestTo_19 : decode cX1_likestTo 19 = .ok (.iload_n 2, 1) := by decide +kernel
theorem dX1_likestTo_20 : decode cX1_likestTo 20 = .ok (.iload_n 1, 1) := by decide +kernel
theorem dX1_likestTo_21 : decode cX1_likestTo 21 = .ok (.invokevirtual 97, 3) := by decide +kernel
theorem dX1_likestTo_24 : decode cX1_likestTo 24 = .ok (.if_icmp .le 5, 3) := by decide +kernel
theorem dX1_likestTo_27 : decode cX1_likestTo 27 = .ok (.iload_n 3, 1) := by decide +kernel
theorem dX1_likestTo_28 : decode cX1_likestTo 28 = .ok (.istore_n 2, 1) := by decide +kernel
theorem dX1_likestTo_29 : decode cX1_likestTo 29 = .ok (.iinc 3 1, 3) := by decide +kernel
theorem dX1_likestTo_32 : decode cX1_likestTo 32 = .ok (.goto (-28), 3) := by decide +kernel
theorem dX1_likestTo_35 : decode cX1_likestTo 35 = .ok (.iload_n 2, 1) := by decide +kernel
theorem dX1_likestTo_36 : decode cX1_likestTo 36 = .ok (.ireturn, 1) := by decide +kernel
theorem dX1_likestOf_0 : decode cX1_likestOf 0 = .ok (.iconst 0, 1) := by decide +kernel
theorem dX1_likestOf_1 : decode cX1_likestOf 1 = .ok (.istore_n 2, 1) := by decide +kernel
theorem dX1_likestOf_2 : decode cX1_likestOf 2 = .ok (.iconst 1, 1) := by decide +kernel
theorem dX1_likestOf_3 : decode cX1_likestOf 3 = .ok (.istore_n 3, 1) := by decide +kernel
theorem dX1_likestOf_4 : decode cX1_likestOf 4 = .ok (.iload_n 3, 1) := by decide +kernel
theorem dX1_likestOf_5 : decode cX1_likestOf 5 = .ok (.bipush 6, 2) := by decide +kernel
theorem dX1_likestOf_7 : decode cX1_likestOf 7 = .ok (.if_icmp .ge 26, 3) := by decide +kernel
theorem dX1_likestOf_10 : decode cX1_likestOf 10 = .ok (.aload_n 0, 1) := by decide +kernel
theorem dX1_likestOf_11 : decode cX1_likestOf 11 = .ok (.iload_n 1, 1) := by decide +kernel
theorem dX1_likestOf_12 : decode cX1_likestOf 12 = .ok (.iload_n 3, 1) := by decide +kernel
theorem dX1_likestOf_13 : decode cX1_likestOf 13 = .ok (.invokevirtual 97, 3) := by decide +kernel
theorem dX1_likestOf_16 : decode cX1_likestOf 16 = .ok (.aload_n 0, 1) := by decide +kernel
theorem dX1_likestOf_17 : decode cX1_likestOf 17 = .ok (.iload_n 1, 1) := by decide +kernel
theorem dX1_likestOf_18 : decode cX1_likestOf 18 = .ok (.iload_n 2, 1) := by decide +kernel
theorem dX1_likestOf_19 : decode cX1_likestOf 19 = .ok (.invokevirtual 97, 3) := by decide +kernel
theorem dX1_likestOf_22 : decode cX1_likestOf 22 = .ok (.if_icmp .le 5, 3) := by decide +kernel
theorem dX1_likestOf_25 : decode cX1_likestOf 25 = .ok (.iload_n 3, 1) := by decide +kernel
theorem dX1_likestOf_26 : decode cX1_likestOf 26 = .ok (.istore_n 2, 1) := by decide +kernel
theorem dX1_likestOf_27 : decode cX1_likestOf 27 = .ok (.iinc 3 1, 3) := by decide +kernel
theorem dX1_likestOf_30 : decode cX1_likestOf 30 = .ok (.goto (-26), 3) := by decide +kernel
theorem dX1_likestOf_33 : decode cX1_likestOf 33 = .ok (.iload_n 2, 1) := by decide +kernel
theorem dX1_likestOf_34 : decode cX1_likestOf 34 = .ok (.ireturn, 1) := by decide +kernel
theorem dX1_allChances_0 : decode cX1_allChances 0 = .ok (.iconst 0, 1) := by decide +kernel
theorem dX1_allChances_1 : decode cX1_allChances 1 = .ok (.istore_n 1, 1) := by decide +kernel
theorem dX1_allChances_2 : decode cX1_allChances 2 = .ok (.iconst 0, 1) := by decide +kernel
theorem dX1_allChances_3 : decode cX1_allChances 3 = .ok (.istore_n 2, 1) := by decide +kernel
theorem dX1_allChances_4 : decode cX1_allChances 4 = .ok (.iload_n 2, 1) := by decide +kernel
theorem dX1_allChances_5 : decode cX1_allChances 5 = .ok (.bipush 6, 2) := by decide +kernel
theorem dX1_allChances_7 : decode cX1_allChances 7 = .ok (.if_icmp .ge 18, 3) := by decide +kernel
theorem dX1_allChances_10 : decode cX1_allChances 10 = .ok (.iload_n 1, 1) := by decide +kernel
theorem dX1_allChances_11 : decode cX1_allChances 11 = .ok (.aload_n 0, 1) := by decide +kernel
theorem dX1_allChances_12 : decode cX1_allChances 12 = .ok (.getfield 27, 3) := by decide +kernel
theorem dX1_allChances_15 : decode cX1_allChances 15 = .ok (.iload_n 2, 1) := by decide +kernel
theorem dX1_allChances_16 : decode cX1_allChances 16 = .ok (.iaload, 1) := by decide +kernel
theorem dX1_allChances_17 : decode cX1_allChances 17 = .ok (.iadd, 1) := by decide +kernel
theorem dX1_allChances_18 : decode cX1_allChances 18 = .ok (.istore_n 1, 1) := by decide +kernel
theorem dX1_allChances_19 : decode cX1_allChances 19 = .ok (.iinc 2 1, 3) := by decide +kernel
theorem dX1_allChances_22 : decode cX1_allChances 22 = .ok (.goto (-18), 3) := by decide +kernel
theorem dX1_allChances_25 : decode cX1_allChances 25 = .ok (.iload_n 1, 1) := by decide +kernel
theorem dX1_allChances_26 : decode cX1_allChances 26 = .ok (.ireturn, 1) := by decide +kernel
theorem dX1_favour_0 : decode cX1_favour 0 = .ok (.iconst 0, 1) := by decide +kernel
theorem dX1_favour_1 : decode cX1_favour 1 = .ok (.istore_n 2, 1) := by decide +kernel
theorem dX1_favour_2 : decode cX1_favour 2 = .ok (.iconst 0, 1) := by decide +kernel
theorem dX1_favour_3 : decode cX1_favour 3 = .ok (.istore_n 3, 1) := by decide +kernel
theorem dX1_favour_4 : decode cX1_favour 4 = .ok (.iload_n 3, 1) := by decide +kernel
theorem dX1_favour_5 : decode cX1_favour 5 = .ok (.bipush 6, 2) := by decide +kernel
theorem dX1_favour_7 : decode cX1_favour 7 = .ok (.if_icmp .ge 30, 3) := by decide +kernel
theorem dX1_favour_10 : decode cX1_favour 10 = .ok (.iload_n 2, 1) := by decide +kernel
theorem dX1_favour_11 : decode cX1_favour 11 = .ok (.aload_n 0, 1) := by decide +kernel
theorem dX1_favour_12 : decode cX1_favour 12 = .ok (.getfield 27, 3) := by decide +kernel
theorem dX1_favour_15 : decode cX1_favour 15 = .ok (.iload_n 3, 1) := by decide +kernel
theorem dX1_favour_16 : decode cX1_favour 16 = .ok (.iaload, 1) := by decide +kernel
theorem dX1_favour_17 : decode cX1_favour 17 = .ok (.iconst 1, 1) := by decide +kernel
theorem dX1_favour_18 : decode cX1_favour 18 = .ok (.iload_n 1, 1) := by decide +kernel
theorem dX1_favour_19 : decode cX1_favour 19 = .ok (.aload_n 0, 1) := by decide +kernel
theorem dX1_favour_20 : decode cX1_favour 20 = .ok (.getfield 24, 3) := by decide +kernel
theorem dX1_favour_23 : decode cX1_favour 23 = .ok (.iload_n 3, 1) := by decide +kernel
theorem dX1_favour_24 : decode cX1_favour 24 = .ok (.iaload, 1) := by decide +kernel
theorem dX1_favour_25 : decode cX1_favour 25 = .ok (.invokestatic 80, 3) := by decide +kernel
theorem dX1_favour_28 : decode cX1_favour 28 = .ok (.imul, 1) := by decide +kernel
theorem dX1_favour_29 : decode cX1_favour 29 = .ok (.iadd, 1) := by decide +kernel
theorem dX1_favour_30 : decode cX1_favour 30 = .ok (.istore_n 2, 1) := by decide +kernel
theorem dX1_favour_31 : decode cX1_favour 31 = .ok (.iinc 3 1, 3) := by decide +kernel
theorem dX1_favour_34 : decode cX1_favour 34 = .ok (.goto (-30), 3) := by decide +kernel
theorem dX1_favour_37 : decode cX1_favour 37 = .ok (.iload_n 2, 1) := by decide +kernel
theorem dX1_favour_38 : decode cX1_favour 38 = .ok (.ireturn, 1) := by decide +kernel
theorem dX1_cutCost_0 : decode cX1_cutCost 0 = .ok (.aload_n 0, 1) := by decide +kernel
theorem dX1_cutCost_1 : decode cX1_cutCost 1 = .ok (.getfield 15, 3) := by decide +kernel
theorem dX1_cutCost_4 : decode cX1_cutCost 4 = .ok (.iload_n 1, 1) := by decide +kernel
theorem dX1_cutCost_5 : decode cX1_cutCost 5 = .ok (.iaload, 1) := by decide +kernel
theorem dX1_cutCost_6 : decode cX1_cutCost 6 = .ok (.aload_n 0, 1) := by decide +kernel
theorem dX1_cutCost_7 : decode cX1_cutCost 7 = .ok (.getfield 24, 3) := by decide +kernel
theorem dX1_cutCost_10 : decode cX1_cutCost 10 = .ok (.iload_n 2, 1) := by decide +kernel
theorem dX1_cutCost_11 : decode cX1_cutCost 11 = .ok (.iaload, 1) := by decide +kernel
theorem dX1_cutCost_12 : decode cX1_cutCost 12 = .ok (.invokestatic 138, 3) := by decide +kernel
theorem dX1_cutCost_15 : decode cX1_cutCost 15 = .ok (.aload_n 0, 1) := by decide +kernel
theorem dX1_cutCost_16 : decode cX1_cutCost 16 = .ok (.getfield 18, 3) := by decide +kernel
theorem dX1_cutCost_19 : decode cX1_cutCost 19 = .ok (.iload_n 1, 1) := by decide +kernel
theorem dX1_cutCost_20 : decode cX1_cutCost 20 = .ok (.iaload, 1) := by decide +kernel
theorem dX1_cutCost_21 : decode cX1_cutCost 21 = .ok (.imul, 1) := by decide +kernel
theorem dX1_cutCost_22 : decode cX1_cutCost 22 = .ok (.ireturn, 1) := by decide +kernel
theorem dX1_nearestMould_0 : decode cX1_nearestMould 0 = .ok (.iconst 0, 1) := by decide +kernel
theorem dX1_nearestMould_1 : decode cX1_nearestMould 1 = .ok (.istore_n 2, 1) := by decide +kernel
theorem dX1_nearestMould_2 : decode cX1_nearestMould 2 = .ok (.iconst 1, 1) := by decide +kernel
theorem dX1_nearestMould_3 : decode cX1_nearestMould 3 = .ok (.istore_n 3, 1) := by decide +kernel
theorem dX1_nearestMould_4 : decode cX1_nearestMould 4 = .ok (.iload_n 3, 1) := by decide +kernel
theorem dX1_nearestMould_5 : decode cX1_nearestMould 5 = .ok (.aload_n 0, 1) := by decide +kernel
theorem dX1_nearestMould_6 : decode cX1_nearestMould 6 = .ok (.getfield 61, 3) := by decide +kernel
theorem dX1_nearestMould_9 : decode cX1_nearestMould 9 = .ok (.if_icmp .ge 26, 3) := by decide +kernel
theorem dX1_nearestMould_12 : decode cX1_nearestMould 12 = .ok (.aload_n 0, 1) := by decide +kernel
theorem dX1_nearestMould_13 : decode cX1_nearestMould 13 = .ok (.iload_n 3, 1) := by decide +kernel
theorem dX1_nearestMould_14 : decode cX1_nearestMould 14 = .ok (.iload_n 1, 1) := by decide +kernel
theorem dX1_nearestMould_15 : decode cX1_nearestMould 15 = .ok (.invokevirtual 141, 3) := by decide +kernel
theorem dX1_nearestMould_18 : decode cX1_nearestMould 18 = .ok (.aload_n 0, 1) := by decide +kernel
theorem dX1_nearestMould_19 : decode cX1_nearestMould 19 = .ok (.iload_n 2, 1) := by decide +kernel
theorem dX1_nearestMould_20 : decode cX1_nearestMould 20 = .ok (.iload_n 1, 1) := by decide +kernel
theorem dX1_nearestMould_21 : decode cX1_nearestMould 21 = .ok (.invokevirtual 141, 3) := by decide +kernel
theorem dX1_nearestMould_24 : decode cX1_nearestMould 24 = .ok (.if_icmp .ge 5, 3) := by decide +kernel
theorem dX1_nearestMould_27 : decode cX1_nearestMould 27 = .ok (.iload_n 3, 1) := by decide +kernel
theorem dX1_nearestMould_28 : decode cX1_nearestMould 28 = .ok (.istore_n 2, 1) := by decide +kernel
theorem dX1_nearestMould_29 : decode cX1_nearestMould 29 = .ok (.iinc 3 1, 3) := by decide +kernel
theorem dX1_nearestMould_32 : decode cX1_nearestMould 32 = .ok (.goto (-28), 3) := by decide +kernel
theorem dX1_nearestMould_35 : decode cX1_nearestMould 35 = .ok (.iload_n 2, 1) := by decide +kernel
theorem dX1_nearestMould_36 : decode cX1_nearestMould 36 = .ok (.ireturn, 1) := by decide +kernel
theorem dX1_headsLike_0 : decode cX1_headsLike 0 = .ok (.iconst 0, 1) := by decide +kernel
theorem dX1_headsLike_1 : decode cX1_headsLike 1 = .ok (.istore_n 3, 1) := by decide +kernel
theorem dX1_headsLike_2 : decode cX1_headsLike 2 = .ok (.iconst 0, 1) := by decide +kernel
theorem dX1_headsLike_3 : decode cX1_headsLike 3 = .ok (.istore 4, 2) := by decide +kernel
theorem dX1_headsLike_5 : decode cX1_headsLike 5 = .ok (.iload 4, 2) := by decide +kernel
theorem dX1_headsLike_7 : decode cX1_headsLike 7 = .ok (.aload_n 0, 1) := by decide +kernel
theorem dX1_headsLike_8 : decode cX1_headsLike 8 = .ok (.getfield 61, 3) := by decide +kernel
theorem dX1_headsLike_11 : decode cX1_headsLike 11 = .ok (.if_icmp .ge 36, 3) := by decide +kernel
theorem dX1_headsLike_14 : decode cX1_headsLike 14 = .ok (.aload_n 0, 1) := by decide +kernel
theorem dX1_headsLike_15 : decode cX1_headsLike 15 = .ok (.iload 4, 2) := by decide +kernel
theorem dX1_headsLike_17 : decode cX1_headsLike 17 = .ok (.invokevirtual 144, 3) := by decide +kernel
theorem dX1_headsLike_20 : decode cX1_headsLike 20 = .ok (.ifCond .eq 21, 3) := by decide +kernel
theorem dX1_headsLike_23 : decode cX1_headsLike 23 = .ok (.aload_n 0, 1) := by decide +kernel
theorem dX1_headsLike_24 : decode cX1_headsLike 24 = .ok (.iload 4, 2) := by decide +kernel
theorem dX1_headsLike_26 : decode cX1_headsLike 26 = .ok (.iload_n 1, 1) := by decide +kernel
theorem dX1_headsLike_27 : decode cX1_headsLike 27 = .ok (.invokevirtual 97, 3) := by decide +kernel
theorem dX1_headsLike_30 : decode cX1_headsLike 30 = .ok (.iload_n 2, 1) := by decide +kernel
theorem dX1_headsLike_31 : decode cX1_headsLike 31 = .ok (.if_icmp .lt 10, 3) := by decide +kernel
theorem dX1_headsLike_34 : decode cX1_headsLike 34 = .ok (.iload_n 3, 1) := by decide +kernel
theorem dX1_headsLike_35 : decode cX1_headsLike 35 = .ok (.iconst 1, 1) := by decide +kernel
theorem dX1_headsLike_36 : decode cX1_headsLike 36 = .ok (.iload 4, 2) := by decide +kernel
theorem dX1_headsLike_38 : decode cX1_headsLike 38 = .ok (.ishl, 1) := by decide +kernel
theorem dX1_headsLike_39 : decode cX1_headsLike 39 = .ok (.ior, 1) := by decide +kernel
theorem dX1_headsLike_40 : decode cX1_headsLike 40 = .ok (.istore_n 3, 1) := by decide +kernel
theorem dX1_headsLike_41 : decode cX1_headsLike 41 = .ok (.iinc 4 1, 3) := by decide +kernel
theorem dX1_headsLike_44 : decode cX1_headsLike 44 = .ok (.goto (-39), 3) := by decide +kernel
theorem dX1_headsLike_47 : decode cX1_headsLike 47 = .ok (.iload_n 3, 1) := by decide +kernel
theorem dX1_headsLike_48 : decode cX1_headsLike 48 = .ok (.ireturn, 1) := by decide +kernel
theorem dX1_draw_0 : decode cX1_draw 0 = .ok (.aload_n 0, 1) := by decide +kernel
theorem dX1_draw_1 : decode cX1_draw 1 = .ok (.aload_n 0, 1) := by decide +kernel
theorem dX1_draw_2 : decode cX1_draw 2 = .ok (.getfield 46, 3) := by decide +kernel
theorem dX1_draw_5 : decode cX1_draw 5 = .ok (.ldc 147, 2) := by decide +kernel
theorem dX1_draw_7 : decode cX1_draw 7 = .ok (.imul, 1) := by decide +kernel
theorem dX1_draw_8 : decode cX1_draw 8 = .ok (.sipush 12345, 3) := by decide +kernel
theorem dX1_draw_11 : decode cX1_draw 11 = .ok (.iadd, 1) := by decide +kernel
theorem dX1_draw_12 : decode cX1_draw 12 = .ok (.putfield 46, 3) := by decide +kernel
theorem dX1_draw_15 : decode cX1_draw 15 = .ok (.aload_n 0, 1) := by decide +kernel
theorem dX1_draw_16 : decode cX1_draw 16 = .ok (.getfield 46, 3) := by decide +kernel
theorem dX1_draw_19 : decode cX1_draw 19 = .ok (.bipush 8, 2) := by decide +kernel
theorem dX1_draw_21 : decode cX1_draw 21 = .ok (.iushr, 1) := by decide +kernel
theorem dX1_draw_22 : decode cX1_draw 22 = .ok (.ireturn, 1) := by decide +kernel
theorem dX1_allWax_0 : decode cX1_allWax 0 = .ok (.iconst 0, 1) := by decide +kernel
theorem dX1_allWax_1 : decode cX1_allWax 1 = .ok (.istore_n 1, 1) := by decide +kernel
theorem dX1_allWax_2 : decode cX1_allWax 2 = .ok (.iconst 0, 1) := by decide +kernel
theorem dX1_allWax_3 : decode cX1_allWax 3 = .ok (.istore_n 2, 1) := by decide +kernel
theorem dX1_allWax_4 : decode cX1_allWax 4 = .ok (.iload_n 2, 1) := by decide +kernel
theorem dX1_allWax_5 : decode cX1_allWax 5 = .ok (.aload_n 0, 1) := by decide +kernel
theorem dX1_allWax_6 : decode cX1_allWax 6 = .ok (.getfield 61, 3) := by decide +kernel
theorem dX1_allWax_9 : decode cX1_allWax 9 = .ok (.if_icmp .ge 18, 3) := by decide +kernel
theorem dX1_allWax_12 : decode cX1_allWax 12 = .ok (.iload_n 1, 1) := by decide +kernel
theorem dX1_allWax_13 : decode cX1_allWax 13 = .ok (.aload_n 0, 1) := by decide +kernel
theorem dX1_allWax_14 : decode cX1_allWax 14 = .ok (.getfield 18, 3) := by decide +kernel
theorem dX1_allWax_17 : decode cX1_allWax 17 = .ok (.iload_n 2, 1) := by decide +kernel
theorem dX1_allWax_18 : decode cX1_allWax 18 = .ok (.iaload, 1) := by decide +kernel
theorem dX1_allWax_19 : decode cX1_allWax 19 = .ok (.iadd, 1) := by decide +kernel
theorem dX1_allWax_20 : decode cX1_allWax 20 = .ok (.istore_n 1, 1) := by decide +kernel
theorem dX1_allWax_21 : decode cX1_allWax 21 = .ok (.iinc 2 1, 3) := by decide +kernel
theorem dX1_allWax_24 : decode cX1_allWax 24 = .ok (.goto (-20), 3) := by decide +kernel
theorem dX1_allWax_27 : decode cX1_allWax 27 = .ok (.iload_n 1, 1) := by decide +kernel
theorem dX1_allWax_28 : decode cX1_allWax 28 = .ok (.ireturn, 1) := by decide +kernel
theorem dX1_spotsHeld_0 : decode cX1_spotsHeld 0 = .ok (.iconst 0, 1) := by decide +kernel
theorem dX1_spotsHeld_1 : decode cX1_spotsHeld 1 = .ok (.istore_n 1, 1) := by decide +kernel
theorem dX1_spotsHeld_2 : decode cX1_spotsHeld 2 = .ok (.iconst 0, 1) := by decide +kernel
theorem dX1_spotsHeld_3 : decode cX1_spotsHeld 3 = .ok (.istore_n 2, 1) := by decide +kernel
theorem dX1_spotsHeld_4 : decode cX1_spotsHeld 4 = .ok (.iload_n 2, 1) := by decide +kernel
theorem dX1_spotsHeld_5 : decode cX1_spotsHeld 5 = .ok (.bipush 10, 2) := by decide +kernel
theorem dX1_spotsHeld_7 : decode cX1_spotsHeld 7 = .ok (.if_icmp .ge 22, 3) := by decide +kernel
theorem dX1_spotsHeld_10 : decode cX1_spotsHeld 10 = .ok (.aload_n 0, 1) := by decide +kernel
theorem dX1_spotsHeld_11 : decode cX1_spotsHeld 11 = .ok (.getfield 39, 3) := by decide +kernel
theorem dX1_spotsHeld_14 : decode cX1_spotsHeld 14 = .ok (.iload_n 2, 1) := by decide +kernel
theorem dX1_spotsHeld_15 : decode cX1_spotsHeld 15 = .ok (.iaload, 1) := by decide +kernel
theorem dX1_spotsHeld_16 : decode cX1_spotsHeld 16 = .ok (.iconst (-1), 1) := by decide +kernel
theorem dX1_spotsHeld_17 : decode cX1_spotsHeld 17 = .ok (.if_icmp .eq 6, 3) := by decide +kernel
theorem dX1_spotsHeld_20 : decode cX1_spotsHeld 20 = .ok (.iinc 1 1, 3) := by decide +kernel
theorem dX1_spotsHeld_23 : decode cX1_spotsHeld 23 = .ok (.iinc 2 1, 3) := by decide +kernel
theorem dX1_spotsHeld_26 : decode cX1_spotsHeld 26 = .ok (.goto (-22), 3) := by decide +kernel
theorem dX1_spotsHeld_29 : decode cX1_spotsHeld 29 = .ok (.iload_n 1, 1) := by decide +kernel
theorem dX1_spotsHeld_30 : decode cX1_spotsHeld 30 = .ok (.ireturn, 1) := by decide +kernel
theorem dX2_isUnder_0 : decode cX2_isUnder 0 = .ok (.iload_n 0, 1) := by decide +kernel
theorem dX2_isUnder_1 : decode cX2_isUnder 1 = .ok (.istore_n 2, 1) := by decide +kernel
theorem dX2_isUnder_2 : decode cX2_isUnder 2 = .ok (.iconst 0, 1) := by decide +kernel
theorem dX2_isUnder_3 : decode cX2_isUnder 3 = .ok (.istore_n 3, 1) := by decide +kernel
theorem dX2_isUnder_4 : decode cX2_isUnder 4 = .ok (.iload_n 3, 1) := by decide +kernel
theorem dX2_isUnder_5 : decode cX2_isUnder 5 = .ok (.bipush 6, 2) := by decide +kernel
theorem dX2_isUnder_7 : decode cX2_isUnder 7 = .ok (.if_icmp .gt 34, 3) := by decide +kernel
theorem dX2_isUnder_10 : decode cX2_isUnder 10 = .ok (.iload_n 2, 1) := by decide +kernel
theorem dX2_isUnder_11 : decode cX2_isUnder 11 = .ok (.ifCond .lt 30, 3) := by decide +kernel
theorem dX2_isUnder_14 : decode cX2_isUnder 14 = .ok (.iload_n 2, 1) := by decide +kernel
theorem dX2_isUnder_15 : decode cX2_isUnder 15 = .ok (.getstatic 11, 3) := by decide +kernel
theorem dX2_isUnder_18 : decode cX2_isUnder 18 = .ok (.arraylength, 1) := by decide +kernel
theorem dX2_isUnder_19 : decode cX2_isUnder 19 = .ok (.if_icmp .ge 22, 3) := by decide +kernel
theorem dX2_isUnder_22 : decode cX2_isUnder 22 = .ok (.iload_n 2, 1) := by decide +kernel
theorem dX2_isUnder_23 : decode cX2_isUnder 23 = .ok (.iload_n 1, 1) := by decide +kernel
theorem dX2_isUnder_24 : decode cX2_isUnder 24 = .ok (.if_icmp .ne 5, 3) := by decide +kernel
theorem dX2_isUnder_27 : decode cX2_isUnder 27 = .ok (.iconst 1, 1) := by decide +kernel
theorem dX2_isUnder_28 : decode cX2_isUnder 28 = .ok (.ireturn, 1) := by decide +kernel
theorem dX2_isUnder_29 : decode cX2_isUnder 29 = .ok (.getstatic 11, 3) := by decide +kernel
theorem dX2_isUnder_32 : decode cX2_isUnder 32 = .ok (.iload_n 2, 1) := by decide +kernel
theorem dX2_isUnder_33 : decode cX2_isUnder 33 = .ok (.iaload, 1) := by decide +kernel
theorem dX2_isUnder_34 : decode cX2_isUnder 34 = .ok (.istore_n 2, 1) := by decide +kernel
theorem dX2_isUnder_35 : decode cX2_isUnder 35 = .ok (.iinc 3 1, 3) := by decide +kernel
theorem dX2_isUnder_38 : decode cX2_isUnder 38 = .ok (.goto (-34), 3) := by decide +kernel
theorem dX2_isUnder_41 : decode cX2_isUnder 41 = .ok (.iconst 0, 1) := by decide +kernel
theorem dX2_isUnder_42 : decode cX2_isUnder 42 = .ok (.ireturn, 1) := by decide +kernel
theorem dX2_unlike_0 : decode cX2_unlike 0 = .ok (.iload_n 0, 1) := by decide +kernel
theorem dX2_unlike_1 : decode cX2_unlike 1 = .ok (.iload_n 1, 1) := by decide +kernel
theorem dX2_unlike_2 : decode cX2_unlike 2 = .ok (.ixor, 1) := by decide +kernel
theorem dX2_unlike_3 : decode cX2_unlike 3 = .ok (.sipush 255, 3) := by decide +kernel
theorem dX2_unlike_6 : decode cX2_unlike 6 = .ok (.iand, 1) := by decide +kernel
theorem dX2_unlike_7 : decode cX2_unlike 7 = .ok (.invokestatic 15, 3) := by decide +kernel
theorem dX2_unlike_10 : decode cX2_unlike 10 = .ok (.ireturn, 1) := by decide +kernel
theorem dX2_likeness_0 : decode cX2_likeness 0 = .ok (.bipush 8, 2) := by decide +kernel
theorem dX2_likeness_2 : decode cX2_likeness 2 = .ok (.iload_n 1, 1) := by decide +kernel
theorem dX2_likeness_3 : decode cX2_likeness 3 = .ok (.iload_n 2, 1) := by decide +kernel
theorem dX2_likeness_4 : decode cX2_likeness 4 = .ok (.invokestatic 21, 3) := by decide +kernel
theorem dX2_likeness_7 : decode cX2_likeness 7 = .ok (.isub, 1) := by decide +kernel
theorem dX2_likeness_8 : decode cX2_likeness 8 = .ok (.istore_n 3, 1) := by decide +kernel
theorem dX2_likeness_9 : decode cX2_likeness 9 = .ok (.iload_n 0, 1) := by decide +kernel
theorem dX2_likeness_10 : decode cX2_likeness 10 = .ok (.tableswitch 89 1 6 #[38, 42, 48, 73, 77, 81], 38) := by decide +kernel
theorem dX2_likeness_48 : decode cX2_likeness 48 = .ok (.iconst 2, 1) := by decide +kernel
theorem dX2_likeness_49 : decode cX2_likeness 49 = .ok (.iload_n 3, 1) := by decide +kernel
theorem dX2_likeness_50 : decode cX2_likeness 50 = .ok (.imul, 1) := by decide +kernel
theorem dX2_likeness_51 : decode cX2_likeness 51 = .ok (.ireturn, 1) := by decide +kernel
theorem dX2_likeness_52 : decode cX2_likeness 52 = .ok (.iconst 2, 1) := by decide +kernel
theorem dX2_likeness_53 : decode cX2_likeness 53 = .ok (.iload_n 3, 1) := by decide +kernel
theorem dX2_likeness_54 : decode cX2_likeness 54 = .ok (.imul, 1) := by decide +kernel
theorem dX2_likeness_55 : decode cX2_likeness 55 = .ok (.iconst 2, 1) := by decide +kernel
theorem dX2_likeness_56 : decode cX2_likeness 56 = .ok (.iadd, 1) := by decide +kernel
theorem dX2_likeness_57 : decode cX2_likeness 57 = .ok (.ireturn, 1) := by decide +kernel
theorem dX2_likeness_58 : decode cX2_likeness 58 = .ok (.iconst 0, 1) := by decide +kernel
theorem dX2_likeness_59 : decode cX2_likeness 59 = .ok (.iconst 2, 1) := by decide +kernel
theorem dX2_likeness_60 : decode cX2_likeness 60 = .ok (.iload_n 3, 1) := by decide +kernel
theorem dX2_likeness_61 : decode cX2_likeness 61 = .ok (.imul, 1) := by decide +kernel
theorem dX2_likeness_62 : decode cX2_likeness 62 = .ok (.iconst 2, 1) := by decide +kernel
theorem dX2_likeness_63 : decode cX2_likeness 63 = .ok (.iadd, 1) := by decide +kernel
theorem dX2_likeness_64 : decode cX2_likeness 64 = .ok (.iload_n 2, 1) := by decide +kernel
theorem dX2_likeness_65 : decode cX2_likeness 65 = .ok (.sipush 128, 3) := by decide +kernel
theorem dX2_likeness_68 : decode cX2_likeness 68 = .ok (.iand, 1) := by decide +kernel
theorem dX2_likeness_69 : decode cX2_likeness 69 = .ok (.ifCond .eq 7, 3) := by decide +kernel
theorem dX2_likeness_72 : decode cX2_likeness 72 = .ok (.iconst 5, 1) := by decide +kernel
theorem dX2_likeness_73 : decode cX2_likeness 73 = .ok (.goto 5, 3) := by decide +kernel
theorem dX2_likeness_76 : decode cX2_likeness 76 = .ok (.bipush (-5), 2) := by decide +kernel
theorem dX2_likeness_78 : decode cX2_likeness 78 = .ok (.iadd, 1) := by decide +kernel
theorem dX2_likeness_79 : decode cX2_likeness 79 = .ok (.invokestatic 25, 3) := by decide +kernel
theorem dX2_likeness_82 : decode cX2_likeness 82 = .ok (.ireturn, 1) := by decide +kernel
theorem dX2_likeness_83 : decode cX2_likeness 83 = .ok (.iload_n 3, 1) := by decide +kernel
theorem dX2_likeness_84 : decode cX2_likeness 84 = .ok (.iconst 3, 1) := by decide +kernel
theorem dX2_likeness_85 : decode cX2_likeness 85 = .ok (.iadd, 1) := by decide +kernel
theorem dX2_likeness_86 : decode cX2_likeness 86 = .ok (.ireturn, 1) := by decide +kernel
theorem dX2_likeness_87 : decode cX2_likeness 87 = .ok (.iload_n 3, 1) := by decide +kernel
theorem dX2_likeness_88 : decode cX2_likeness 88 = .ok (.iconst 2, 1) := by decide +kernel
theorem dX2_likeness_89 : decode cX2_likeness 89 = .ok (.idiv, 1) := by decide +kernel
theorem dX2_likeness_90 : decode cX2_likeness 90 = .ok (.ireturn, 1) := by decide +kernel
theorem dX2_likeness_91 : decode cX2_likeness 91 = .ok (.iconst 3, 1) := by decide +kernel
theorem dX2_likeness_92 : decode cX2_likeness 92 = .ok (.iload_n 3, 1) := by decide +kernel
theorem dX2_likeness_93 : decode cX2_likeness 93 = .ok (.iconst 2, 1) := by decide +kernel
theorem dX2_likeness_94 : decode cX2_likeness 94 = .ok (.idiv, 1) := by decide +kernel
theorem dX2_likeness_95 : decode cX2_likeness 95 = .ok (.invokestatic 25, 3) := by decide +kernel
theorem dX2_likeness_98 : decode cX2_likeness 98 = .ok (.ireturn, 1) := by decide +kernel
theorem dX2_likeness_99 : decode cX2_likeness 99 = .ok (.iload_n 3, 1) := by decide +kernel
theorem dX2_likeness_100 : decode cX2_likeness 100 = .ok (.ireturn, 1) := by decide +kernel
theorem dX2_minutes_0 : decode cX2_minutes 0 = .ok (.iload_n 0, 1) := by decide +kernel
theorem dX2_minutes_1 : decode cX2_minutes 1 = .ok (.tableswitch 56 2 6 #[35, 39, 45, 54, 54], 35) := by decide +kernel
theorem dX2_minutes_36 : decode cX2_minutes 36 = .ok (.iload_n 1, 1) := by decide +kernel
theorem dX2_minutes_37 : decode cX2_minutes 37 = .ok (.iconst 3, 1) := by decide +kernel
theorem dX2_minutes_38 : decode cX2_minutes 38 = .ok (.iadd, 1) := by decide +kernel
theorem dX2_minutes_39 : decode cX2_minutes 39 = .ok (.ireturn, 1) := by decide +kernel
theorem dX2_minutes_40 : decode cX2_minutes 40 = .ok (.iconst 2, 1) := by decide +kernel
theorem dX2_minutes_41 : decode cX2_minutes 41 = .ok (.iload_n 1, 1) := by decide +kernel
theorem dX2_minutes_42 : decode cX2_minutes 42 = .ok (.iconst 3, 1) := by decide +kernel
theorem dX2_minutes_43 : decode cX2_minutes 43 = .ok (.iadd, 1) := by decide +kernel
theorem dX2_minutes_44 : decode cX2_minutes 44 = .ok (.imul, 1) := by decide +kernel
theorem dX2_minutes_45 : decode cX2_minutes 45 = .ok (.ireturn, 1) := by decide +kernel
theorem dX2_minutes_46 : decode cX2_minutes 46 = .ok (.iload_n 1, 1) := by decide +kernel
theorem dX2_minutes_47 : decode cX2_minutes 47 = .ok (.iconst 1, 1) := by decide +kernel
theorem dX2_minutes_48 : decode cX2_minutes 48 = .ok (.iadd, 1) := by decide +kernel
theorem dX2_minutes_49 : decode cX2_minutes 49 = .ok (.iload_n 2, 1) := by decide +kernel
theorem dX2_minutes_50 : decode cX2_minutes 50 = .ok (.bipush 10, 2) := by decide +kernel
theorem dX2_minutes_52 : decode cX2_minutes 52 = .ok (.idiv, 1) := by decide +kernel
theorem dX2_minutes_53 : decode cX2_minutes 53 = .ok (.iadd, 1) := by decide +kernel
theorem dX2_minutes_54 : decode cX2_minutes 54 = .ok (.ireturn, 1) := by decide +kernel
theorem dX2_minutes_55 : decode cX2_minutes 55 = .ok (.iconst 1, 1) := by decide +kernel
theorem dX2_minutes_56 : decode cX2_minutes 56 = .ok (.ireturn, 1) := by decide +kernel
theorem dX2_minutes_57 : decode cX2_minutes 57 = .ok (.iload_n 1, 1) := by decide +kernel
theorem dX2_minutes_58 : decode cX2_minutes 58 = .ok (.iconst 1, 1) := by decide +kernel
theorem dX2_minutes_59 : decode cX2_minutes 59 = .ok (.iadd, 1) := by decide +kernel
theorem dX2_minutes_60 : decode cX2_minutes 60 = .ok (.ireturn, 1) := by decide +kernel
theorem dX3_init_0 : decode cX3_init 0 = .ok (.aload_n 0, 1) := by decide +kernel
theorem dX3_init_1 : decode cX3_init 1 = .ok (.invokespecial 3, 3) := by decide +kernel
theorem dX3_init_4 : decode cX3_init 4 = .ok (.aload_n 0, 1) := by decide +kernel
theorem dX3_init_5 : decode cX3_init 5 = .ok (.bipush 121, 2) := by decide +kernel
theorem dX3_init_7 : decode cX3_init 7 = .ok (.newarray .int, 2) := by decide +kernel
theorem dX3_init_9 : decode cX3_init 9 = .ok (.putfield 9, 3) := by decide +kernel
theorem dX3_init_12 : decode cX3_init 12 = .ok (.aload_n 0, 1) := by decide +kernel
theorem dX3_init_13 : decode cX3_init 13 = .ok (.bipush 121, 2) := by decide +kernel
theorem dX3_init_15 : decode cX3_init 15 = .ok (.newarray .int, 2) := by decide +kernel
theorem dX3_init_17 : decode cX3_init 17 = .ok (.putfield 15, 3) := by decide +kernel
theorem dX3_init_20 : decode cX3_init 20 = .ok (.aload_n 0, 1) := by decide +kernel
theorem dX3_init_21 : decode cX3_init 21 = .ok (.bipush 121, 2) := by decide +kernel
theorem dX3_init_23 : decode cX3_init 23 = .ok (.newarray .int, 2) := by decide +kernel
theorem dX3_init_25 : decode cX3_init 25 = .ok (.putfield 18, 3) := by decide +kernel
theorem dX3_init_28 : decode cX3_init 28 = .ok (.aload_n 0, 1) := by decide +kernel
theorem dX3_init_29 : decode cX3_init 29 = .ok (.aload_n 1, 1) := by decide +kernel
theorem dX3_init_30 : decode cX3_init 30 = .ok (.putfield 21, 3) := by decide +kernel
theorem dX3_init_33 : decode cX3_init 33 = .ok (.aload_n 0, 1) := by decide +kernel
theorem dX3_init_34 : decode cX3_init 34 = .ok (.aload_n 2, 1) := by decide +kernel
theorem dX3_init_35 : decode cX3_init 35 = .ok (.putfield 25, 3) := by decide +kernel
theorem dX3_init_38 : decode cX3_init 38 = .ok (.return_, 1) := by decide +kernel
theorem dX3_read_0 : decode cX3_read 0 = .ok (.aload_n 0, 1) := by decide +kernel
theorem dX3_read_1 : decode cX3_read 1 = .ok (.invokevirtual 29, 3) := by decide +kernel
theorem dX3_read_4 : decode cX3_read 4 = .ok (.aload_n 0, 1) := by decide +kernel
theorem dX3_read_5 : decode cX3_read 5 = .ok (.iconst 0, 1) := by decide +kernel
theorem dX3_read_6 : decode cX3_read 6 = .ok (.putfield 32, 3) := by decide +kernel
theorem dX3_read_9 : decode cX3_read 9 = .ok (.iconst 0, 1) := by decide +kernel
theorem dX3_read_10 : decode cX3_read 10 = .ok (.istore_n 1, 1) := by decide +kernel
theorem dX3_read_11 : decode cX3_read 11 = .ok (.iload_n 1, 1) := by decide +kernel
theorem dX3_read_12 : decode cX3_read 12 = .ok (.bipush 120, 2) := by decide +kernel
theorem dX3_read_14 : decode cX3_read 14 = .ok (.if_icmp .ge 65, 3) := by decide +kernel
theorem dX3_read_17 : decode cX3_read 17 = .ok (.aload_n 0, 1) := by decide +kernel
theorem dX3_read_18 : decode cX3_read 18 = .ok (.invokevirtual 36, 3) := by decide +kernel
theorem dX3_read_21 : decode cX3_read 21 = .ok (.ifCond .eq 58, 3) := by decide +kernel
theorem dX3_read_24 : decode cX3_read 24 = .ok (.iinc 1 1, 3) := by decide +kernel
theorem dX3_read_27 : decode cX3_read 27 = .ok (.aload_n 0, 1) := by decide +kernel
theorem dX3_read_28 : decode cX3_read 28 = .ok (.getfield 9, 3) := by decide +kernel
theorem dX3_read_31 : decode cX3_read 31 = .ok (.aload_n 0, 1) := by decide +kernel
theorem dX3_read_32 : decode cX3_read 32 = .ok (.getfield 32, 3) := by decide +kernel
theorem dX3_read_35 : decode cX3_read 35 = .ok (.iaload, 1) := by decide +kernel
theorem dX3_read_36 : decode cX3_read 36 = .ok (.ifCond .ne 5, 3) := by decide +kernel
theorem dX3_read_39 : decode cX3_read 39 = .ok (.iload_n 1, 1) := by decide +kernel
theorem dX3_read_40 : decode cX3_read 40 = .ok (.ireturn, 1) := by decide +kernel
theorem dX3_read_41 : decode cX3_read 41 = .ok (.aload_n 0, 1) := by decide +kernel
theorem dX3_read_42 : decode cX3_read 42 = .ok (.getfield 9, 3) := by decide +kernel
theorem dX3_read_45 : decode cX3_read 45 = .ok (.aload_n 0, 1) := by decide +kernel
theorem dX3_read_46 : decode cX3_read 46 = .ok (.getfield 32, 3) := by decide +kernel
theorem dX3_read_49 : decode cX3_read 49 = .ok (.iaload, 1) := by decide +kernel
theorem dX3_read_50 : decode cX3_read 50 = .ok (.iconst 3, 1) := by decide +kernel
theorem dX3_read_51 : decode cX3_read 51 = .ok (.if_icmp .eq 15, 3) := by decide +kernel
theorem dX3_read_54 : decode cX3_read 54 = .ok (.iconst (-1), 1) := by decide +kernel
theorem dX3_read_55 : decode cX3_read 55 = .ok (.aload_n 0, 1) := by decide +kernel
theorem dX3_read_56 : decode cX3_read 56 = .ok (.getfield 15, 3) := by decide +kernel
theorem dX3_read_59 : decode cX3_read 59 = .ok (.aload_n 0, 1) := by decide +kernel
theorem dX3_read_60 : decode cX3_read 60 = .ok (.getfield 32, 3) := by decide +kernel
theorem dX3_read_63 : decode cX3_read 63 = .ok (.iaload, 1) := by decide +kernel
theorem dX3_read_64 : decode cX3_read 64 = .ok (.isub, 1) := by decide +kernel
theorem dX3_read_65 : decode cX3_read 65 = .ok (.ireturn, 1) := by decide +kernel
theorem dX3_read_66 : decode cX3_read 66 = .ok (.aload_n 0, 1) := by decide +kernel
theorem dX3_read_67 : decode cX3_read 67 = .ok (.dup, 1) := by decide +kernel
theorem dX3_read_68 : decode cX3_read 68 = .ok (.getfield 32, 3) := by decide +kernel
theorem dX3_read_71 : decode cX3_read 71 = .ok (.iconst 1, 1) := by decide +kernel
theorem dX3_read_72 : decode cX3_read 72 = .ok (.iadd, 1) := by decide +kernel
theorem dX3_read_73 : decode cX3_read 73 = .ok (.putfield 32, 3) := by decide +kernel
theorem dX3_read_76 : decode cX3_read 76 = .ok (.goto (-65), 3) := by decide +kernel
theorem dX3_read_79 : decode cX3_read 79 = .ok (.iconst (-1), 1) := by decide +kernel
theorem dX3_read_80 : decode cX3_read 80 = .ok (.aload_n 0, 1) := by decide +kernel
theorem dX3_read_81 : decode cX3_read 81 = .ok (.getfield 15, 3) := by decide +kernel
theorem dX3_read_84 : decode cX3_read 84 = .ok (.aload_n 0, 1) := by decide +kernel
theorem dX3_read_85 : decode cX3_read 85 = .ok (.getfield 32, 3) := by decide +kernel
theorem dX3_read_88 : decode cX3_read 88 = .ok (.iaload, 1) := by decide +kernel
theorem dX3_read_89 : decode cX3_read 89 = .ok (.isub, 1) := by decide +kernel
theorem dX3_read_90 : decode cX3_read 90 = .ok (.ireturn, 1) := by decide +kernel
theorem dX3_cut_0 : decode cX3_cut 0 = .ok (.aload_n 0, 1) := by decide +kernel
theorem dX3_cut_1 : decode cX3_cut 1 = .ok (.iconst 0, 1) := by decide +kernel
theorem dX3_cut_2 : decode cX3_cut 2 = .ok (.putfield 40, 3) := by decide +kernel
theorem dX3_cut_5 : decode cX3_cut 5 = .ok (.iconst 4, 1) := by decide +kernel
theorem dX3_cut_6 : decode cX3_cut 6 = .ok (.istore_n 1, 1) := by decide +kernel
theorem dX3_cut_7 : decode cX3_cut 7 = .ok (.iconst 0, 1) := by decide +kernel
theorem dX3_cut_8 : decode cX3_cut 8 = .ok (.istore_n 2, 1) := by decide +kernel
theorem dX3_cut_9 : decode cX3_cut 9 = .ok (.iload_n 2, 1) := by decide +kernel
theorem dX3_cut_10 : decode cX3_cut 10 = .ok (.aload_n 0, 1) := by decide +kernel
theorem dX3_cut_11 : decode cX3_cut 11 = .ok (.getfield 21, 3) := by decide +kernel
theorem dX3_cut_14 : decode cX3_cut 14 = .ok (.getfield 43, 3) := by decide +kernel
theorem dX3_cut_17 : decode cX3_cut 17 = .ok (.if_icmp .ge 86, 3) := by decide +kernel
theorem dX3_cut_20 : decode cX3_cut 20 = .ok (.aload_n 0, 1) := by decide +kernel
theorem dX3_cut_21 : decode cX3_cut 21 = .ok (.getfield 21, 3) := by decide +kernel
theorem dX3_cut_24 : decode cX3_cut 24 = .ok (.getfield 48, 3) := by decide +kernel
theorem dX3_cut_27 : decode cX3_cut 27 = .ok (.iload_n 2, 1) := by decide +kernel
theorem dX3_cut_28 : decode cX3_cut 28 = .ok (.baload, 1) := by decide +kernel
theorem dX3_cut_29 : decode cX3_cut 29 = .ok (.invokestatic 52, 3) := by decide +kernel
theorem dX3_cut_32 : decode cX3_cut 32 = .ok (.istore_n 3, 1) := by decide +kernel
theorem dX3_cut_33 : decode cX3_cut 33 = .ok (.iload_n 3, 1) := by decide +kernel
theorem dX3_cut_34 : decode cX3_cut 34 = .ok (.iload_n 1, 1) := by decide +kernel
theorem dX3_cut_35 : decode cX3_cut 35 = .ok (.if_icmp .ne 17, 3) := by decide +kernel
theorem dX3_cut_38 : decode cX3_cut 38 = .ok (.iload_n 3, 1) := by decide +kernel
theorem dX3_cut_39 : decode cX3_cut 39 = .ok (.iconst 1, 1) := by decide +kernel
theorem dX3_cut_40 : decode cX3_cut 40 = .ok (.if_icmp .eq 8, 3) := by decide +kernel
theorem dX3_cut_43 : decode cX3_cut 43 = .ok (.iload_n 3, 1) := by decide +kernel
theorem dX3_cut_44 : decode cX3_cut 44 = .ok (.iconst 2, 1) := by decide +kernel
theorem dX3_cut_45 : decode cX3_cut 45 = .ok (.if_icmp .ne 7, 3) := by decide +kernel
theorem dX3_cut_48 : decode cX3_cut 48 = .ok (.iconst 1, 1) := by decide +kernel
theorem dX3_cut_49 : decode cX3_cut 49 = .ok (.goto 4, 3) := by decide +kernel
theorem dX3_cut_52 : decode cX3_cut 52 = .ok (.iconst 0, 1) := by decide +kernel
theorem dX3_cut_53 : decode cX3_cut 53 = .ok (.istore 4, 2) := by decide +kernel
theorem dX3_cut_55 : decode cX3_cut 55 = .ok (.iload 4, 2) := by decide +kernel
theorem dX3_cut_57 : decode cX3_cut 57 = .ok (.ifCond .ne 14, 3) := by decide +kernel
theorem dX3_cut_60 : decode cX3_cut 60 = .ok (.iload_n 3, 1) := by decide +kernel
theorem dX3_cut_61 : decode cX3_cut 61 = .ok (.iconst 4, 1) := by decide +kernel
theorem dX3_cut_62 : decode cX3_cut 62 = .ok (.if_icmp .eq 9, 3) := by decide +kernel
theorem dX3_cut_65 : decode cX3_cut 65 = .ok (.aload_n 0, 1) := by decide +kernel
theorem dX3_cut_66 : decode cX3_cut 66 = .ok (.iload_n 3, 1) := by decide +kernel
theorem dX3_cut_67 : decode cX3_cut 67 = .ok (.iload_n 2, 1) := by decide +kernel
theorem dX3_cut_68 : decode cX3_cut 68 = .ok (.invokevirtual 56, 3) := by decide +kernel
theorem dX3_cut_71 : decode cX3_cut 71 = .ok (.iload_n 3, 1) := by decide +kernel
theorem dX3_cut_72 : decode cX3_cut 72 = .ok (.iconst 4, 1) := by decide +kernel
theorem dX3_cut_73 : decode cX3_cut 73 = .ok (.if_icmp .eq 22, 3) := by decide +kernel
theorem dX3_cut_76 : decode cX3_cut 76 = .ok (.aload_n 0, 1) := by decide +kernel
theorem dX3_cut_77 : decode cX3_cut 77 = .ok (.aload_n 0, 1) := by decide +kernel
theorem dX3_cut_78 : decode cX3_cut 78 = .ok (.getfield 40, 3) := by decide +kernel
theorem dX3_cut_81 : decode cX3_cut 81 = .ok (.iconst 1, 1) := by decide +kernel
theorem dX3_cut_82 : decode cX3_cut 82 = .ok (.isub, 1) := by decide +kernel
theorem dX3_cut_83 : decode cX3_cut 83 = .ok (.aload_n 0, 1) := by decide +kernel
theorem dX3_cut_84 : decode cX3_cut 84 = .ok (.getfield 21, 3) := by decide +kernel
theorem dX3_cut_87 : decode cX3_cut 87 = .ok (.getfield 48, 3) := by decide +kernel
theorem dX3_cut_90 : decode cX3_cut 90 = .ok (.iload_n 2, 1) := by decide +kernel
theorem dX3_cut_91 : decode cX3_cut 91 = .ok (.baload, 1) := by decide +kernel
theorem dX3_cut_92 : decode cX3_cut 92 = .ok (.invokevirtual 60, 3) := by decide +kernel
theorem dX3_cut_95 : decode cX3_cut 95 = .ok (.iload_n 3, 1) := by decide +kernel
theorem dX3_cut_96 : decode cX3_cut 96 = .ok (.istore_n 1, 1) := by decide +kernel
theorem dX3_cut_97 : decode cX3_cut 97 = .ok (.iinc 2 1, 3) := by decide +kernel
theorem dX3_cut_100 : decode cX3_cut 100 = .ok (.goto (-91), 3) := by decide +kernel
theorem dX3_cut_103 : decode cX3_cut 103 = .ok (.aload_n 0, 1) := by decide +kernel
theorem dX3_cut_104 : decode cX3_cut 104 = .ok (.iconst 0, 1) := by decide +kernel
theorem dX3_cut_105 : decode cX3_cut 105 = .ok (.aload_n 0, 1) := by decide +kernel
theorem dX3_cut_106 : decode cX3_cut 106 = .ok (.getfield 21, 3) := by decide +kernel
theorem dX3_cut_109 : decode cX3_cut 109 = .ok (.getfield 43, 3) := by decide +kernel
theorem dX3_cut_112 : decode cX3_cut 112 = .ok (.invokevirtual 56, 3) := by decide +kernel
theorem dX3_cut_115 : decode cX3_cut 115 = .ok (.return_, 1) := by decide +kernel
theorem dX3_sortOf_0 : decode cX3_sortOf 0 = .ok (.iload_n 0, 1) := by decide +kernel
theorem dX3_sortOf_1 : decode cX3_sortOf 1 = .ok (.bipush 97, 2) := by decide +kernel
theorem dX3_sortOf_3 : decode cX3_sortOf 3 = .ok (.if_icmp .lt 11, 3) := by decide +kernel
theorem dX3_sortOf_6 : decode cX3_sortOf 6 = .ok (.iload_n 0, 1) := by decide +kernel
theorem dX3_sortOf_7 : decode cX3_sortOf 7 = .ok (.bipush 122, 2) := by decide +kernel
theorem dX3_sortOf_9 : decode cX3_sortOf 9 = .ok (.if_icmp .gt 5, 3) := by decide +kernel
theorem dX3_sortOf_12 : decode cX3_sortOf 12 = .ok (.iconst 1, 1) := by decide +kernel
theorem dX3_sortOf_13 : decode cX3_sortOf 13 = .ok (.ireturn, 1) := by decide +kernel
theorem dX3_sortOf_14 : decode cX3_sortOf 14 = .ok (.iload_n 0, 1) := by decide +kernel
theorem dX3_sortOf_15 : decode cX3_sortOf 15 = .ok (.bipush 48, 2) := by decide +kernel
theorem dX3_sortOf_17 : decode cX3_sortOf 17 = .ok (.if_icmp .lt 11, 3) := by decide +kernel
theorem dX3_sortOf_20 : decode cX3_sortOf 20 = .ok (.iload_n 0, 1) := by decide +kernel
theorem dX3_sortOf_21 : decode cX3_sortOf 21 = .ok (.bipush 57, 2) := by decide +kernel
theorem dX3_sortOf_23 : decode cX3_sortOf 23 = .ok (.if_icmp .gt 5, 3) := by decide +kernel
theorem dX3_sortOf_26 : decode cX3_sortOf 26 = .ok (.iconst 2, 1) := by decide +kernel
theorem dX3_sortOf_27 : decode cX3_sortOf 27 = .ok (.ireturn, 1) := by decide +kernel
theorem dX3_sortOf_28 : decode cX3_sortOf 28 = .ok (.iload_n 0, 1) := by decide +kernel
theorem dX3_sortOf_29 : decode cX3_sortOf 29 = .ok (.bipush 59, 2) := by decide +kernel
theorem dX3_sortOf_31 : decode cX3_sortOf 31 = .ok (.if_icmp .ne 7, 3) := by decide +kernel
theorem dX3_sortOf_34 : decode cX3_sortOf 34 = .ok (.iconst 3, 1) := by decide +kernel
theorem dX3_sortOf_35 : decode cX3_sortOf 35 = .ok (.goto 14, 3) := by decide +kernel
theorem dX3_sortOf_38 : decode cX3_sortOf 38 = .ok (.iload_n 0, 1) := by decide +kernel
theorem dX3_sortOf_39 : decode cX3_sortOf 39 = .ok (.bipush 32, 2) := by decide +kernel
theorem dX3_sortOf_41 : decode cX3_sortOf 41 = .ok (.if_icmp .ne 7, 3) := by decide +kernel
theorem dX3_sortOf_44 : decode cX3_sortOf 44 = .ok (.iconst 4, 1) := by decide +kernel
theorem dX3_sortOf_45 : decode cX3_sortOf 45 = .ok (.goto 4, 3) := by decide +kernel
theorem dX3_sortOf_48 : decode cX3_sortOf 48 = .ok (.iconst 5, 1) := by decide +kernel
theorem dX3_sortOf_49 : decode cX3_sortOf 49 = .ok (.ireturn, 1) := by decide +kernel
theorem dX3_begin_0 : decode cX3_begin 0 = .ok (.aload_n 0, 1) := by decide +kernel
theorem dX3_begin_1 : decode cX3_begin 1 = .ok (.getfield 40, 3) := by decide +kernel
theorem dX3_begin_4 : decode cX3_begin 4 = .ok (.aload_n 0, 1) := by decide +kernel
theorem dX3_begin_5 : decode cX3_begin 5 = .ok (.getfield 9, 3) := by decide +kernel
theorem dX3_begin_8 : decode cX3_begin 8 = .ok (.arraylength, 1) := by decide +kernel
theorem dX3_begin_9 : decode cX3_begin 9 = .ok (.if_icmp .ge 43, 3) := by decide +kernel
theorem dX3_begin_12 : decode cX3_begin 12 = .ok (.aload_n 0, 1) := by decide +kernel
theorem dX3_begin_13 : decode cX3_begin 13 = .ok (.getfield 9, 3) := by decide +kernel
theorem dX3_begin_16 : decode cX3_begin 16 = .ok (.aload_n 0, 1) := by decide +kernel
theorem dX3_begin_17 : decode cX3_begin 17 = .ok (.getfield 40, 3) := by decide +kernel
theorem dX3_begin_20 : decode cX3_begin 20 = .ok (.iload_n 1, 1) := by decide +kernel
theorem dX3_begin_21 : decode cX3_begin 21 = .ok (.iastore, 1) := by decide +kernel
theorem dX3_begin_22 : decode cX3_begin 22 = .ok (.aload_n 0, 1) := by decide +kernel
theorem dX3_begin_23 : decode cX3_begin 23 = .ok (.getfield 15, 3) := by decide +kernel
theorem dX3_begin_26 : decode cX3_begin 26 = .ok (.aload_n 0, 1) := by decide +kernel
theorem dX3_begin_27 : decode cX3_begin 27 = .ok (.getfield 40, 3) := by decide +kernel
theorem dX3_begin_30 : decode cX3_begin 30 = .ok (.iload_n 2, 1) := by decide +kernel
theorem dX3_begin_31 : decode cX3_begin 31 = .ok (.iastore, 1) := by decide +kernel
theorem dX3_begin_32 : decode cX3_begin 32 = .ok (.aload_n 0, 1) := by decide +kernel
theorem dX3_begin_33 : decode cX3_begin 33 = .ok (.getfield 18, 3) := by decide +kernel
theorem dX3_begin_36 : decode cX3_begin 36 = .ok (.aload_n 0, 1) := by decide +kernel
theorem dX3_begin_37 : decode cX3_begin 37 = .ok (.getfield 40, 3) := by decide +kernel
theorem dX3_begin_40 : decode cX3_begin 40 = .ok (.iconst 0, 1) := by decide +kernel
theorem dX3_begin_41 : decode cX3_begin 41 = .ok (.iastore, 1) := by decide +kernel
theorem dX3_begin_42 : decode cX3_begin 42 = .ok (.aload_n 0, 1) := by decide +kernel
theorem dX3_begin_43 : decode cX3_begin 43 = .ok (.dup, 1) := by decide +kernel
theorem dX3_begin_44 : decode cX3_begin 44 = .ok (.getfield 40, 3) := by decide +kernel
theorem dX3_begin_47 : decode cX3_begin 47 = .ok (.iconst 1, 1) := by decide +kernel
theorem dX3_begin_48 : decode cX3_begin 48 = .ok (.iadd, 1) := by decide +kernel
theorem dX3_begin_49 : decode cX3_begin 49 = .ok (.putfield 40, 3) := by decide +kernel
theorem dX3_begin_52 : decode cX3_begin 52 = .ok (.return_, 1) := by decide +kernel
theorem dX3_lengthen_0 : decode cX3_lengthen 0 = .ok (.iload_n 1, 1) := by decide +kernel
theorem dX3_lengthen_1 : decode cX3_lengthen 1 = .ok (.ifCond .lt 42, 3) := by decide +kernel
theorem dX3_lengthen_4 : decode cX3_lengthen 4 = .ok (.aload_n 0, 1) := by decide +kernel
theorem dX3_lengthen_5 : decode cX3_lengthen 5 = .ok (.getfield 9, 3) := by decide +kernel
theorem dX3_lengthen_8 : decode cX3_lengthen 8 = .ok (.iload_n 1, 1) := by decide +kernel
theorem dX3_lengthen_9 : decode cX3_lengthen 9 = .ok (.iaload, 1) := by decide +kernel
theorem dX3_lengthen_10 : decode cX3_lengthen 10 = .ok (.iconst 2, 1) := by decide +kernel
theorem dX3_lengthen_11 : decode cX3_lengthen 11 = .ok (.if_icmp .ne 32, 3) := by decide +kernel
theorem dX3_lengthen_14 : decode cX3_lengthen 14 = .ok (.aload_n 0, 1) := by decide +kernel
theorem dX3_lengthen_15 : decode cX3_lengthen 15 = .ok (.getfield 18, 3) := by decide +kernel
theorem dX3_lengthen_18 : decode cX3_lengthen 18 = .ok (.iload_n 1, 1) := by decide +kernel
theorem dX3_lengthen_19 : decode cX3_lengthen 19 = .ok (.sipush 1000, 3) := by decide +kernel
theorem dX3_lengthen_22 : decode cX3_lengthen 22 = .ok (.aload_n 0, 1) := by decide +kernel
theorem dX3_lengthen_23 : decode cX3_lengthen 23 = .ok (.getfield 18, 3) := by decide +kernel
theorem dX3_lengthen_26 : decode cX3_lengthen 26 = .ok (.iload_n 1, 1) := by decide +kernel
theorem dX3_lengthen_27 : decode cX3_lengthen 27 = .ok (.iaload, 1) := by decide +kernel
theorem dX3_lengthen_28 : decode cX3_lengthen 28 = .ok (.bipush 10, 2) := by decide +kernel
theorem dX3_lengthen_30 : decode cX3_lengthen 30 = .ok (.imul, 1) := by decide +kernel
theorem dX3_lengthen_31 : decode cX3_lengthen 31 = .ok (.iload_n 2, 1) := by decide +kernel
theorem dX3_lengthen_32 : decode cX3_lengthen 32 = .ok (.iadd, 1) := by decide +kernel
theorem dX3_lengthen_33 : decode cX3_lengthen 33 = .ok (.bipush 48, 2) := by decide +kernel
theorem dX3_lengthen_35 : decode cX3_lengthen 35 = .ok (.isub, 1) := by decide +kernel
theorem dX3_lengthen_36 : decode cX3_lengthen 36 = .ok (.invokestatic 63, 3) := by decide +kernel
theorem dX3_lengthen_39 : decode cX3_lengthen 39 = .ok (.iastore, 1) := by decide +kernel
theorem dX3_lengthen_40 : decode cX3_lengthen 40 = .ok (.goto 17, 3) := by decide +kernel
theorem dX3_lengthen_43 : decode cX3_lengthen 43 = .ok (.iload_n 1, 1) := by decide +kernel
theorem dX3_lengthen_44 : decode cX3_lengthen 44 = .ok (.ifCond .lt 13, 3) := by decide +kernel
theorem dX3_lengthen_47 : decode cX3_lengthen 47 = .ok (.aload_n 0, 1) := by decide +kernel
theorem dX3_lengthen_48 : decode cX3_lengthen 48 = .ok (.getfield 18, 3) := by decide +kernel
theorem dX3_lengthen_51 : decode cX3_lengthen 51 = .ok (.iload_n 1, 1) := by decide +kernel
theorem dX3_lengthen_52 : decode cX3_lengthen 52 = .ok (.dup2, 1) := by decide +kernel
theorem dX3_lengthen_53 : decode cX3_lengthen 53 = .ok (.iaload, 1) := by decide +kernel
theorem dX3_lengthen_54 : decode cX3_lengthen 54 = .ok (.iconst 1, 1) := by decide +kernel
theorem dX3_lengthen_55 : decode cX3_lengthen 55 = .ok (.iadd, 1) := by decide +kernel
theorem dX3_lengthen_56 : decode cX3_lengthen 56 = .ok (.iastore, 1) := by decide +kernel
theorem dX3_lengthen_57 : decode cX3_lengthen 57 = .ok (.return_, 1) := by decide +kernel
theorem dX3_readItem_0 : decode cX3_readItem 0 = .ok (.iconst 0, 1) := by decide +kernel
theorem dX3_readItem_1 : decode cX3_readItem 1 = .ok (.istore_n 1, 1) := by decide +kernel
theorem dX3_readItem_2 : decode cX3_readItem 2 = .ok (.iload_n 1, 1) := by decide +kernel
theorem dX3_readItem_3 : decode cX3_readItem 3 = .ok (.bipush 6, 2) := by decide +kernel
theorem dX3_readItem_5 : decode cX3_readItem 5 = .ok (.if_icmp .gt 38, 3) := by decide +kernel
theorem dX3_readItem_8 : decode cX3_readItem 8 = .ok (.aload_n 0, 1) := by decide +kernel
theorem dX3_readItem_9 : decode cX3_readItem 9 = .ok (.getfield 25, 3) := by decide +kernel
theorem dX3_readItem_12 : decode cX3_readItem 12 = .ok (.getfield 71, 3) := by decide +kernel
theorem dX3_readItem_15 : decode cX3_readItem 15 = .ok (.bipush 10, 2) := by decide +kernel
theorem dX3_readItem_17 : decode cX3_readItem 17 = .ok (.if_icmp .ge 26, 3) := by decide +kernel
theorem dX3_readItem_20 : decode cX3_readItem 20 = .ok (.aload_n 0, 1) := by decide +kernel
theorem dX3_readItem_21 : decode cX3_readItem 21 = .ok (.iload_n 1, 1) := by decide +kernel
theorem dX3_readItem_22 : decode cX3_readItem 22 = .ok (.invokestatic 76, 3) := by decide +kernel
theorem dX3_readItem_25 : decode cX3_readItem 25 = .ok (.invokevirtual 80, 3) := by decide +kernel
theorem dX3_readItem_28 : decode cX3_readItem 28 = .ok (.ifCond .eq 9, 3) := by decide +kernel
theorem dX3_readItem_31 : decode cX3_readItem 31 = .ok (.aload_n 0, 1) := by decide +kernel
theorem dX3_readItem_32 : decode cX3_readItem 32 = .ok (.iload_n 1, 1) := by decide +kernel
theorem dX3_readItem_33 : decode cX3_readItem 33 = .ok (.invokevirtual 84, 3) := by decide +kernel
theorem dX3_readItem_36 : decode cX3_readItem 36 = .ok (.ireturn, 1) := by decide +kernel
theorem dX3_readItem_37 : decode cX3_readItem 37 = .ok (.iinc 1 1, 3) := by decide +kernel
theorem dX3_readItem_40 : decode cX3_readItem 40 = .ok (.goto (-38), 3) := by decide +kernel
theorem dX3_readItem_43 : decode cX3_readItem 43 = .ok (.aload_n 0, 1) := by decide +kernel
theorem dX3_readItem_44 : decode cX3_readItem 44 = .ok (.ldc 88, 2) := by decide +kernel
theorem dX3_readItem_46 : decode cX3_readItem 46 = .ok (.invokevirtual 80, 3) := by decide +kernel
theorem dX3_readItem_49 : decode cX3_readItem 49 = .ok (.ifCond .eq 8, 3) := by decide +kernel
theorem dX3_readItem_52 : decode cX3_readItem 52 = .ok (.aload_n 0, 1) := by decide +kernel
theorem dX3_readItem_53 : decode cX3_readItem 53 = .ok (.invokevirtual 90, 3) := by decide +kernel
theorem dX3_readItem_56 : decode cX3_readItem 56 = .ok (.ireturn, 1) := by decide +kernel
theorem dX3_readItem_57 : decode cX3_readItem 57 = .ok (.aload_n 0, 1) := by decide +kernel
theorem dX3_readItem_58 : decode cX3_readItem 58 = .ok (.ldc 93, 2) := by decide +kernel
theorem dX3_readItem_60 : decode cX3_readItem 60 = .ok (.invokevirtual 80, 3) := by decide +kernel
theorem dX3_readItem_63 : decode cX3_readItem 63 = .ok (.ifCond .eq 8, 3) := by decide +kernel
theorem dX3_readItem_66 : decode cX3_readItem 66 = .ok (.aload_n 0, 1) := by decide +kernel
theorem dX3_readItem_67 : decode cX3_readItem 67 = .ok (.invokevirtual 95, 3) := by decide +kernel
theorem dX3_readItem_70 : decode cX3_readItem 70 = .ok (.ireturn, 1) := by decide +kernel
theorem dX3_readItem_71 : decode cX3_readItem 71 = .ok (.aload_n 0, 1) := by decide +kernel
theorem dX3_readItem_72 : decode cX3_readItem 72 = .ok (.ldc 98, 2) := by decide +kernel
theorem dX3_readItem_74 : decode cX3_readItem 74 = .ok (.invokevirtual 80, 3) := by decide +kernel
theorem dX3_readItem_77 : decode cX3_readItem 77 = .ok (.ifCond .eq 14, 3) := by decide +kernel
theorem dX3_readItem_80 : decode cX3_readItem 80 = .ok (.aload_n 0, 1) := by decide +kernel
theorem dX3_readItem_81 : decode cX3_readItem 81 = .ok (.invokevirtual 100, 3) := by decide +kernel
theorem dX3_readItem_84 : decode cX3_readItem 84 = .ok (.ifCond .eq 7, 3) := by decide +kernel
theorem dX3_readItem_87 : decode cX3_readItem 87 = .ok (.iconst 1, 1) := by decide +kernel
theorem dX3_readItem_88 : decode cX3_readItem 88 = .ok (.goto 4, 3) := by decide +kernel
theorem dX3_readItem_91 : decode cX3_readItem 91 = .ok (.iconst 0, 1) := by decide +kernel
theorem dX3_readItem_92 : decode cX3_readItem 92 = .ok (.ireturn, 1) := by decide +kernel
theorem dX3_wordOf_0 : decode cX3_wordOf 0 = .ok (.iload_n 0, 1) := by decide +kernel
theorem dX3_wordOf_1 : decode cX3_wordOf 1 = .ok (.tableswitch 57 1 6 #[39, 42, 45, 48, 51, 54], 39) := by decide +kernel
theorem dX3_wordOf_40 : decode cX3_wordOf 40 = .ok (.ldc 103, 2) := by decide +kernel
theorem dX3_wordOf_42 : decode cX3_wordOf 42 = .ok (.areturn, 1) := by decide +kernel
theorem dX3_wordOf_43 : decode cX3_wordOf 43 = .ok (.ldc 105, 2) := by decide +kernel
theorem dX3_wordOf_45 : decode cX3_wordOf 45 = .ok (.areturn, 1) := by decide +kernel
theorem dX3_wordOf_46 : decode cX3_wordOf 46 = .ok (.ldc 107, 2) := by decide +kernel
theorem dX3_wordOf_48 : decode cX3_wordOf 48 = .ok (.areturn, 1) := by decide +kernel
theorem dX3_wordOf_49 : decode cX3_wordOf 49 = .ok (.ldc 109, 2) := by decide +kernel
theorem dX3_wordOf_51 : decode cX3_wordOf 51 = .ok (.areturn, 1) := by decide +kernel
theorem dX3_wordOf_52 : decode cX3_wordOf 52 = .ok (.ldc 111, 2) := by decide +kernel
theorem dX3_wordOf_54 : decode cX3_wordOf 54 = .ok (.areturn, 1) := by decide +kernel
theorem dX3_wordOf_55 : decode cX3_wordOf 55 = .ok (.ldc 113, 2) := by decide +kernel
theorem dX3_wordOf_57 : decode cX3_wordOf 57 = .ok (.areturn, 1) := by decide +kernel
theorem dX3_wordOf_58 : decode cX3_wordOf 58 = .ok (.ldc 115, 2) := by decide +kernel
theorem dX3_wordOf_60 : decode cX3_wordOf 60 = .ok (.areturn, 1) := by decide +kernel
theorem dX3_readPart_0 : decode cX3_readPart 0 = .ok (.aload_n 0, 1) := by decide +kernel
theorem dX3_readPart_1 : decode cX3_readPart 1 = .ok (.getfield 25, 3) := by decide +kernel
theorem dX3_readPart_4 : decode cX3_readPart 4 = .ok (.iload_n 1, 1) := by decide +kernel
theorem dX3_readPart_5 : decode cX3_readPart 5 = .ok (.iconst 0, 1) := by decide +kernel
theorem dX3_readPart_6 : decode cX3_readPart 6 = .ok (.bipush 10, 2) := by decide +kernel
theorem dX3_readPart_8 : decode cX3_readPart 8 = .ok (.iconst (-1), 1) := by decide +kernel
theorem dX3_readPart_9 : decode cX3_readPart 9 = .ok (.invokevirtual 117, 3) := by decide +kernel
theorem dX3_readPart_12 : decode cX3_readPart 12 = .ok (.istore_n 2, 1) := by decide +kernel
theorem dX3_readPart_13 : decode cX3_readPart 13 = .ok (.aload_n 0, 1) := by decide +kernel
theorem dX3_readPart_14 : decode cX3_readPart 14 = .ok (.ldc 121, 2) := by decide +kernel
theorem dX3_readPart_16 : decode cX3_readPart 16 = .ok (.aload_n 0, 1) := by decide +kernel
theorem dX3_readPart_17 : decode cX3_readPart 17 = .ok (.getfield 25, 3) := by decide +kernel
theorem dX3_readPart_20 : decode cX3_readPart 20 = .ok (.getfield 123, 3) := by decide +kernel
theorem dX3_readPart_23 : decode cX3_readPart 23 = .ok (.iload_n 2, 1) := by decide +kernel
theorem dX3_readPart_24 : decode cX3_readPart 24 = .ok (.iconst 0, 1) := by decide +kernel
theorem dX3_readPart_25 : decode cX3_readPart 25 = .ok (.sipush 255, 3) := by decide +kernel
theorem dX3_readPart_28 : decode cX3_readPart 28 = .ok (.invokevirtual 125, 3) := by decide +kernel
theorem dX3_readPart_31 : decode cX3_readPart 31 = .ok (.ifCond .eq 46, 3) := by decide +kernel
theorem dX3_readPart_34 : decode cX3_readPart 34 = .ok (.aload_n 0, 1) := by decide +kernel
theorem dX3_readPart_35 : decode cX3_readPart 35 = .ok (.ldc 129, 2) := by decide +kernel
theorem dX3_readPart_37 : decode cX3_readPart 37 = .ok (.aload_n 0, 1) := by decide +kernel
theorem dX3_readPart_38 : decode cX3_readPart 38 = .ok (.getfield 25, 3) := by decide +kernel
theorem dX3_readPart_41 : decode cX3_readPart 41 = .ok (.getfield 131, 3) := by decide +kernel
theorem dX3_readPart_44 : decode cX3_readPart 44 = .ok (.iload_n 2, 1) := by decide +kernel
theorem dX3_readPart_45 : decode cX3_readPart 45 = .ok (.iconst 1, 1) := by decide +kernel
theorem dX3_readPart_46 : decode cX3_readPart 46 = .ok (.bipush 60, 2) := by decide +kernel
theorem dX3_readPart_48 : decode cX3_readPart 48 = .ok (.invokevirtual 125, 3) := by decide +kernel
theorem dX3_readPart_51 : decode cX3_readPart 51 = .ok (.ifCond .eq 26, 3) := by decide +kernel
theorem dX3_readPart_54 : decode cX3_readPart 54 = .ok (.aload_n 0, 1) := by decide +kernel
theorem dX3_readPart_55 : decode cX3_readPart 55 = .ok (.ldc 133, 2) := by decide +kernel
theorem dX3_readPart_57 : decode cX3_readPart 57 = .ok (.aload_n 0, 1) := by decide +kernel
theorem dX3_readPart_58 : decode cX3_readPart 58 = .ok (.getfield 25, 3) := by decide +kernel
theorem dX3_readPart_61 : decode cX3_readPart 61 = .ok (.getfield 135, 3) := by decide +kernel
theorem dX3_readPart_64 : decode cX3_readPart 64 = .ok (.iload_n 2, 1) := by decide +kernel
theorem dX3_readPart_65 : decode cX3_readPart 65 = .ok (.iconst 0, 1) := by decide +kernel
theorem dX3_readPart_66 : decode cX3_readPart 66 = .ok (.iconst 5, 1) := by decide +kernel
theorem dX3_readPart_67 : decode cX3_readPart 67 = .ok (.invokevirtual 125, 3) := by decide +kernel
theorem dX3_readPart_70 : decode cX3_readPart 70 = .ok (.ifCond .eq 7, 3) := by decide +kernel
theorem dX3_readPart_73 : decode cX3_readPart 73 = .ok (.iconst 1, 1) := by decide +kernel
theorem dX3_readPart_74 : decode cX3_readPart 74 = .ok (.goto 4, 3) := by decide +kernel
theorem dX3_readPart_77 : decode cX3_readPart 77 = .ok (.iconst 0, 1) := by decide +kernel
theorem dX3_readPart_78 : decode cX3_readPart 78 = .ok (.ireturn, 1) := by decide +kernel
theorem dX3_readFace_0 : decode cX3_readFace 0 = .ok (.aload_n 0, 1) := by decide +kernel
theorem dX3_readFace_1 : decode cX3_readFace 1 = .ok (.iconst 0, 1) := by decide +kernel
theorem dX3_readFace_2 : decode cX3_readFace 2 = .ok (.iconst 5, 1) := by decide +kernel
theorem dX3_readFace_3 : decode cX3_readFace 3 = .ok (.invokevirtual 138, 3) := by decide +kernel
theorem dX3_readFace_6 : decode cX3_readFace 6 = .ok (.istore_n 1, 1) := by decide +kernel
theorem dX3_readFace_7 : decode cX3_readFace 7 = .ok (.iload_n 1, 1) := by decide +kernel
theorem dX3_readFace_8 : decode cX3_readFace 8 = .ok (.invokestatic 141, 3) := by decide +kernel
theorem dX3_readFace_11 : decode cX3_readFace 11 = .ok (.ifCond .eq 55, 3) := by decide +kernel
theorem dX3_readFace_14 : decode cX3_readFace 14 = .ok (.aload_n 0, 1) := by decide +kernel
theorem dX3_readFace_15 : decode cX3_readFace 15 = .ok (.ldc 121, 2) := by decide +kernel
theorem dX3_readFace_17 : decode cX3_readFace 17 = .ok (.invokevirtual 80, 3) := by decide +kernel
theorem dX3_readFace_20 : decode cX3_readFace 20 = .ok (.ifCond .eq 46, 3) := by decide +kernel
theorem dX3_readFace_23 : decode cX3_readFace 23 = .ok (.aload_n 0, 1) := by decide +kernel
theorem dX3_readFace_24 : decode cX3_readFace 24 = .ok (.aload_n 0, 1) := by decide +kernel
theorem dX3_readFace_25 : decode cX3_readFace 25 = .ok (.getfield 25, 3) := by decide +kernel
theorem dX3_readFace_28 : decode cX3_readFace 28 = .ok (.getfield 144, 3) := by decide +kernel
theorem dX3_readFace_31 : decode cX3_readFace 31 = .ok (.iload_n 1, 1) := by decide +kernel
theorem dX3_readFace_32 : decode cX3_readFace 32 = .ok (.iconst 0, 1) := by decide +kernel
theorem dX3_readFace_33 : decode cX3_readFace 33 = .ok (.sipush 255, 3) := by decide +kernel
theorem dX3_readFace_36 : decode cX3_readFace 36 = .ok (.invokevirtual 147, 3) := by decide +kernel
theorem dX3_readFace_39 : decode cX3_readFace 39 = .ok (.ifCond .eq 27, 3) := by decide +kernel
theorem dX3_readFace_42 : decode cX3_readFace 42 = .ok (.aload_n 0, 1) := by decide +kernel
theorem dX3_readFace_43 : decode cX3_readFace 43 = .ok (.ldc 151, 2) := by decide +kernel
theorem dX3_readFace_45 : decode cX3_readFace 45 = .ok (.aload_n 0, 1) := by decide +kernel
theorem dX3_readFace_46 : decode cX3_readFace 46 = .ok (.getfield 25, 3) := by decide +kernel
theorem dX3_readFace_49 : decode cX3_readFace 49 = .ok (.getfield 153, 3) := by decide +kernel
theorem dX3_readFace_52 : decode cX3_readFace 52 = .ok (.iload_n 1, 1) := by decide +kernel
theorem dX3_readFace_53 : decode cX3_readFace 53 = .ok (.iconst 0, 1) := by decide +kernel
theorem dX3_readFace_54 : decode cX3_readFace 54 = .ok (.bipush 99, 2) := by decide +kernel
theorem dX3_readFace_56 : decode cX3_readFace 56 = .ok (.invokevirtual 125, 3) := by decide +kernel
theorem dX3_readFace_59 : decode cX3_readFace 59 = .ok (.ifCond .eq 7, 3) := by decide +kernel
theorem dX3_readFace_62 : decode cX3_readFace 62 = .ok (.iconst 1, 1) := by decide +kernel
theorem dX3_readFace_63 : decode cX3_readFace 63 = .ok (.goto 4, 3) := by decide +kernel
theorem dX3_readFace_66 : decode cX3_readFace 66 = .ok (.iconst 0, 1) := by decide +kernel
theorem dX3_readFace_67 : decode cX3_readFace 67 = .ok (.ireturn, 1) := by decide +kernel
theorem dX3_readShow_0 : decode cX3_readShow 0 = .ok (.aload_n 0, 1) := by decide +kernel
theorem dX3_readShow_1 : decode cX3_readShow 1 = .ok (.iconst 0, 1) := by decide +kernel
theorem dX3_readShow_2 : decode cX3_readShow 2 = .ok (.iconst 5, 1) := by decide +kernel
theorem dX3_readShow_3 : decode cX3_readShow 3 = .ok (.invokevirtual 138, 3) := by decide +kernel
theorem dX3_readShow_6 : decode cX3_readShow 6 = .ok (.istore_n 1, 1) := by decide +kernel
theorem dX3_readShow_7 : decode cX3_readShow 7 = .ok (.iload_n 1, 1) := by decide +kernel
theorem dX3_readShow_8 : decode cX3_readShow 8 = .ok (.invokestatic 155, 3) := by decide +kernel
theorem dX3_readShow_11 : decode cX3_readShow 11 = .ok (.ifCond .eq 24, 3) := by decide +kernel
theorem dX3_readShow_14 : decode cX3_readShow 14 = .ok (.aload_n 0, 1) := by decide +kernel
theorem dX3_readShow_15 : decode cX3_readShow 15 = .ok (.aload_n 0, 1) := by decide +kernel
theorem dX3_readShow_16 : decode cX3_readShow 16 = .ok (.getfield 25, 3) := by decide +kernel
theorem dX3_readShow_19 : decode cX3_readShow 19 = .ok (.getfield 158, 3) := by decide +kernel
theorem dX3_readShow_22 : decode cX3_readShow 22 = .ok (.iload_n 1, 1) := by decide +kernel
theorem dX3_readShow_23 : decode cX3_readShow 23 = .ok (.iconst 0, 1) := by decide +kernel
theorem dX3_readShow_24 : decode cX3_readShow 24 = .ok (.iconst 5, 1) := by decide +kernel
theorem dX3_readShow_25 : decode cX3_readShow 25 = .ok (.invokevirtual 147, 3) := by decide +kernel
theorem dX3_readShow_28 : decode cX3_readShow 28 = .ok (.ifCond .eq 7, 3) := by decide +kernel
theorem dX3_readShow_31 : decode cX3_readShow 31 = .ok (.iconst 1, 1) := by decide +kernel
theorem dX3_readShow_32 : decode cX3_readShow 32 = .ok (.goto 4, 3) := by decide +kernel
theorem dX3_readShow_35 : decode cX3_readShow 35 = .ok (.iconst 0, 1) := by decide +kernel
theorem dX3_readShow_36 : decode cX3_readShow 36 = .ok (.ireturn, 1) := by decide +kernel
theorem dX3_readPace_0 : decode cX3_readPace 0 = .ok (.aload_n 0, 1) := by decide +kernel
theorem dX3_readPace_1 : decode cX3_readPace 1 = .ok (.iconst 1, 1) := by decide +kernel
theorem dX3_readPace_2 : decode cX3_readPace 2 = .ok (.bipush 20, 2) := by decide +kernel
theorem dX3_readPace_4 : decode cX3_readPace 4 = .ok (.invokevirtual 138, 3) := by decide +kernel
theorem dX3_readPace_7 : decode cX3_readPace 7 = .ok (.istore_n 1, 1) := by decide +kernel
theorem dX3_readPace_8 : decode cX3_readPace 8 = .ok (.iload_n 1, 1) := by decide +kernel
theorem dX3_readPace_9 : decode cX3_readPace 9 = .ok (.ifCond .ge 5, 3) := by decide +kernel
theorem dX3_readPace_12 : decode cX3_readPace 12 = .ok (.iconst 0, 1) := by decide +kernel
theorem dX3_readPace_13 : decode cX3_readPace 13 = .ok (.ireturn, 1) := by decide +kernel
theorem dX3_readPace_14 : decode cX3_readPace 14 = .ok (.aload_n 0, 1) := by decide +kernel
theorem dX3_readPace_15 : decode cX3_readPace 15 = .ok (.getfield 25, 3) := by decide +kernel
theorem dX3_readPace_18 : decode cX3_readPace 18 = .ok (.iload_n 1, 1) := by decide +kernel
theorem dX3_readPace_19 : decode cX3_readPace 19 = .ok (.putfield 161, 3) := by decide +kernel
theorem dX3_readPace_22 : decode cX3_readPace 22 = .ok (.iconst 1, 1) := by decide +kernel
theorem dX3_readPace_23 : decode cX3_readPace 23 = .ok (.ireturn, 1) := by decide +kernel
theorem dX3_mayTell_0 : decode cX3_mayTell 0 = .ok (.aload_n 0, 1) := by decide +kernel
theorem dX3_mayTell_1 : decode cX3_mayTell 1 = .ok (.aload_n 1, 1) := by decide +kernel
theorem dX3_mayTell_2 : decode cX3_mayTell 2 = .ok (.invokevirtual 80, 3) := by decide +kernel
theorem dX3_mayTell_5 : decode cX3_mayTell 5 = .ok (.ifCond .eq 16, 3) := by decide +kernel
theorem dX3_mayTell_8 : decode cX3_mayTell 8 = .ok (.aload_n 0, 1) := by decide +kernel
theorem dX3_mayTell_9 : decode cX3_mayTell 9 = .ok (.aload_n 2, 1) := by decide +kernel
theorem dX3_mayTell_10 : decode cX3_mayTell 10 = .ok (.iload_n 3, 1) := by decide +kernel
theorem dX3_mayTell_11 : decode cX3_mayTell 11 = .ok (.iload 4, 2) := by decide +kernel
theorem dX3_mayTell_13 : decode cX3_mayTell 13 = .ok (.iload 5, 2) := by decide +kernel
theorem dX3_mayTell_15 : decode cX3_mayTell 15 = .ok (.invokevirtual 147, 3) := by decide +kernel
theorem dX3_mayTell_18 : decode cX3_mayTell 18 = .ok (.ifCond .eq 7, 3) := by decide +kernel
theorem dX3_mayTell_21 : decode cX3_mayTell 21 = .ok (.iconst 1, 1) := by decide +kernel
theorem dX3_mayTell_22 : decode cX3_mayTell 22 = .ok (.goto 4, 3) := by decide +kernel
theorem dX3_mayTell_25 : decode cX3_mayTell 25 = .ok (.iconst 0, 1) := by decide +kernel
theorem dX3_mayTell_26 : decode cX3_mayTell 26 = .ok (.ireturn, 1) := by decide +kernel
theorem dX3_tells_0 : decode cX3_tells 0 = .ok (.aload_n 0, 1) := by decide +kernel
theorem dX3_tells_1 : decode cX3_tells 1 = .ok (.iload_n 3, 1) := by decide +kernel
theorem dX3_tells_2 : decode cX3_tells 2 = .ok (.iload 4, 2) := by decide +kernel
theorem dX3_tells_4 : decode cX3_tells 4 = .ok (.invokevirtual 138, 3) := by decide +kernel
theorem dX3_tells_7 : decode cX3_tells 7 = .ok (.istore 5, 2) := by decide +kernel
theorem dX3_tells_9 : decode cX3_tells 9 = .ok (.iload 5, 2) := by decide +kernel
theorem dX3_tells_11 : decode cX3_tells 11 = .ok (.ifCond .ge 5, 3) := by decide +kernel
theorem dX3_tells_14 : decode cX3_tells 14 = .ok (.iconst 0, 1) := by decide +kernel
theorem dX3_tells_15 : decode cX3_tells 15 = .ok (.ireturn, 1) := by decide +kernel
theorem dX3_tells_16 : decode cX3_tells 16 = .ok (.aload_n 1, 1) := by decide +kernel
theorem dX3_tells_17 : decode cX3_tells 17 = .ok (.iload_n 2, 1) := by decide +kernel
theorem dX3_tells_18 : decode cX3_tells 18 = .ok (.iload 5, 2) := by decide +kernel
theorem dX3_tells_20 : decode cX3_tells 20 = .ok (.iastore, 1) := by decide +kernel
theorem dX3_tells_21 : decode cX3_tells 21 = .ok (.iconst 1, 1) := by decide +kernel
theorem dX3_tells_22 : decode cX3_tells 22 = .ok (.ireturn, 1) := by decide +kernel
theorem dX3_takeNumber_0 : decode cX3_takeNumber 0 = .ok (.aload_n 0, 1) := by decide +kernel
theorem dX3_takeNumber_1 : decode cX3_takeNumber 1 = .ok (.getfield 9, 3) := by decide +kernel
theorem dX3_takeNumber_4 : decode cX3_takeNumber 4 = .ok (.aload_n 0, 1) := by decide +kernel
theorem dX3_takeNumber_5 : decode cX3_takeNumber 5 = .ok (.getfield 32, 3) := by decide +kernel
theorem dX3_takeNumber_8 : decode cX3_takeNumber 8 = .ok (.iaload, 1) := by decide +kernel
theorem dX3_takeNumber_9 : decode cX3_takeNumber 9 = .ok (.iconst 2, 1) := by decide +kernel
theorem dX3_takeNumber_10 : decode cX3_takeNumber 10 = .ok (.if_icmp .ne 29, 3) := by decide +kernel
theorem dX3_takeNumber_13 : decode cX3_takeNumber 13 = .ok (.aload_n 0, 1) := by decide +kernel
theorem dX3_takeNumber_14 : decode cX3_takeNumber 14 = .ok (.getfield 18, 3) := by decide +kernel
theorem dX3_takeNumber_17 : decode cX3_takeNumber 17 = .ok (.aload_n 0, 1) := by decide +kernel
theorem dX3_takeNumber_18 : decode cX3_takeNumber 18 = .ok (.getfield 32, 3) := by decide +kernel
theorem dX3_takeNumber_21 : decode cX3_takeNumber 21 = .ok (.iaload, 1) := by decide +kernel
theorem dX3_takeNumber_22 : decode cX3_takeNumber 22 = .ok (.iload_n 1, 1) := by decide +kernel
theorem dX3_takeNumber_23 : decode cX3_takeNumber 23 = .ok (.if_icmp .lt 16, 3) := by decide +kernel
theorem dX3_takeNumber_26 : decode cX3_takeNumber 26 = .ok (.aload_n 0, 1) := by decide +kernel
theorem dX3_takeNumber_27 : decode cX3_takeNumber 27 = .ok (.getfield 18, 3) := by decide +kernel
theorem dX3_takeNumber_30 : decode cX3_takeNumber 30 = .ok (.aload_n 0, 1) := by decide +kernel
theorem dX3_takeNumber_31 : decode cX3_takeNumber 31 = .ok (.getfield 32, 3) := by decide +kernel
theorem dX3_takeNumber_34 : decode cX3_takeNumber 34 = .ok (.iaload, 1) := by decide +kernel
theorem dX3_takeNumber_35 : decode cX3_takeNumber 35 = .ok (.iload_n 2, 1) := by decide +kernel
theorem dX3_takeNumber_36 : decode cX3_takeNumber 36 = .ok (.if_icmp .le 5, 3) := by decide +kernel
theorem dX3_takeNumber_39 : decode cX3_takeNumber 39 = .ok (.iconst (-1), 1) := by decide +kernel
theorem dX3_takeNumber_40 : decode cX3_takeNumber 40 = .ok (.ireturn, 1) := by decide +kernel
theorem dX3_takeNumber_41 : decode cX3_takeNumber 41 = .ok (.aload_n 0, 1) := by decide +kernel
theorem dX3_takeNumber_42 : decode cX3_takeNumber 42 = .ok (.dup, 1) := by decide +kernel
theorem dX3_takeNumber_43 : decode cX3_takeNumber 43 = .ok (.getfield 32, 3) := by decide +kernel
theorem dX3_takeNumber_46 : decode cX3_takeNumber 46 = .ok (.iconst 1, 1) := by decide +kernel
theorem dX3_takeNumber_47 : decode cX3_takeNumber 47 = .ok (.iadd, 1) := by decide +kernel
theorem dX3_takeNumber_48 : decode cX3_takeNumber 48 = .ok (.putfield 32, 3) := by decide +kernel
theorem dX3_takeNumber_51 : decode cX3_takeNumber 51 = .ok (.aload_n 0, 1) := by decide +kernel
theorem dX3_takeNumber_52 : decode cX3_takeNumber 52 = .ok (.getfield 18, 3) := by decide +kernel
theorem dX3_takeNumber_55 : decode cX3_takeNumber 55 = .ok (.aload_n 0, 1) := by decide +kernel
theorem dX3_takeNumber_56 : decode cX3_takeNumber 56 = .ok (.getfield 32, 3) := by decide +kernel
theorem dX3_takeNumber_59 : decode cX3_takeNumber 59 = .ok (.iconst 1, 1) := by decide +kernel
theorem dX3_takeNumber_60 : decode cX3_takeNumber 60 = .ok (.isub, 1) := by decide +kernel
theorem dX3_takeNumber_61 : decode cX3_takeNumber 61 = .ok (.iaload, 1) := by decide +kernel
theorem dX3_takeNumber_62 : decode cX3_takeNumber 62 = .ok (.ireturn, 1) := by decide +kernel
theorem dX3_takes_0 : decode cX3_takes 0 = .ok (.aload_n 0, 1) := by decide +kernel
theorem dX3_takes_1 : decode cX3_takes 1 = .ok (.getfield 9, 3) := by decide +kernel
theorem dX3_takes_4 : decode cX3_takes 4 = .ok (.aload_n 0, 1) := by decide +kernel
theorem dX3_takes_5 : decode cX3_takes 5 = .ok (.getfield 32, 3) := by decide +kernel
theorem dX3_takes_8 : decode cX3_takes 8 = .ok (.iaload, 1) := by decide +kernel
theorem dX3_takes_9 : decode cX3_takes 9 = .ok (.iconst 1, 1) := by decide +kernel
theorem dX3_takes_10 : decode cX3_takes 10 = .ok (.if_icmp .ne 19, 3) := by decide +kernel
theorem dX3_takes_13 : decode cX3_takes 13 = .ok (.aload_n 0, 1) := by decide +kernel
theorem dX3_takes_14 : decode cX3_takes 14 = .ok (.getfield 18, 3) := by decide +kernel
theorem dX3_takes_17 : decode cX3_takes 17 = .ok (.aload_n 0, 1) := by decide +kernel
theorem dX3_takes_18 : decode cX3_takes 18 = .ok (.getfield 32, 3) := by decide +kernel
theorem dX3_takes_21 : decode cX3_takes 21 = .ok (.iaload, 1) := by decide +kernel
theorem dX3_takes_22 : decode cX3_takes 22 = .ok (.aload_n 1, 1) := by decide +kernel
theorem dX3_takes_23 : decode cX3_takes 23 = .ok (.invokevirtual 163, 3) := by decide +kernel
theorem dX3_takes_26 : decode cX3_takes 26 = .ok (.if_icmp .eq 5, 3) := by decide +kernel
theorem dX3_takes_29 : decode cX3_takes 29 = .ok (.iconst 0, 1) := by decide +kernel
theorem dX3_takes_30 : decode cX3_takes 30 = .ok (.ireturn, 1) := by decide +kernel
theorem dX3_takes_31 : decode cX3_takes 31 = .ok (.iconst 0, 1) := by decide +kernel
theorem dX3_takes_32 : decode cX3_takes 32 = .ok (.istore_n 2, 1) := by decide +kernel
theorem dX3_takes_33 : decode cX3_takes 33 = .ok (.iload_n 2, 1) := by decide +kernel
theorem dX3_takes_34 : decode cX3_takes 34 = .ok (.aload_n 1, 1) := by decide +kernel
theorem dX3_takes_35 : decode cX3_takes 35 = .ok (.invokevirtual 163, 3) := by decide +kernel
theorem dX3_takes_38 : decode cX3_takes 38 = .ok (.if_icmp .ge 38, 3) := by decide +kernel
theorem dX3_takes_41 : decode cX3_takes 41 = .ok (.aload_n 0, 1) := by decide +kernel
theorem dX3_takes_42 : decode cX3_takes 42 = .ok (.getfield 21, 3) := by decide +kernel
theorem dX3_takes_45 : decode cX3_takes 45 = .ok (.getfield 48, 3) := by decide +kernel
theorem dX3_takes_48 : decode cX3_takes 48 = .ok (.aload_n 0, 1) := by decide +kernel
theorem dX3_takes_49 : decode cX3_takes 49 = .ok (.getfield 15, 3) := by decide +kernel
theorem dX3_takes_52 : decode cX3_takes 52 = .ok (.aload_n 0, 1) := by decide +kernel
theorem dX3_takes_53 : decode cX3_takes 53 = .ok (.getfield 32, 3) := by decide +kernel
theorem dX3_takes_56 : decode cX3_takes 56 = .ok (.iaload, 1) := by decide +kernel
theorem dX3_takes_57 : decode cX3_takes 57 = .ok (.iload_n 2, 1) := by decide +kernel
theorem dX3_takes_58 : decode cX3_takes 58 = .ok (.iadd, 1) := by decide +kernel
theorem dX3_takes_59 : decode cX3_takes 59 = .ok (.baload, 1) := by decide +kernel
theorem dX3_takes_60 : decode cX3_takes 60 = .ok (.aload_n 1, 1) := by decide +kernel
theorem dX3_takes_61 : decode cX3_takes 61 = .ok (.iload_n 2, 1) := by decide +kernel
theorem dX3_takes_62 : decode cX3_takes 62 = .ok (.invokevirtual 168, 3) := by decide +kernel
theorem dX3_takes_65 : decode cX3_takes 65 = .ok (.if_icmp .eq 5, 3) := by decide +kernel
theorem dX3_takes_68 : decode cX3_takes 68 = .ok (.iconst 0, 1) := by decide +kernel
theorem dX3_takes_69 : decode cX3_takes 69 = .ok (.ireturn, 1) := by decide +kernel
theorem dX3_takes_70 : decode cX3_takes 70 = .ok (.iinc 2 1, 3) := by decide +kernel
theorem dX3_takes_73 : decode cX3_takes 73 = .ok (.goto (-40), 3) := by decide +kernel
theorem dX3_takes_76 : decode cX3_takes 76 = .ok (.aload_n 0, 1) := by decide +kernel
theorem dX3_takes_77 : decode cX3_takes 77 = .ok (.dup, 1) := by decide +kernel
theorem dX3_takes_78 : decode cX3_takes 78 = .ok (.getfield 32, 3) := by decide +kernel
theorem dX3_takes_81 : decode cX3_takes 81 = .ok (.iconst 1, 1) := by decide +kernel
theorem dX3_takes_82 : decode cX3_takes 82 = .ok (.iadd, 1) := by decide +kernel
theorem dX3_takes_83 : decode cX3_takes 83 = .ok (.putfield 32, 3) := by decide +kernel
theorem dX3_takes_86 : decode cX3_takes 86 = .ok (.iconst 1, 1) := by decide +kernel
theorem dX3_takes_87 : decode cX3_takes 87 = .ok (.ireturn, 1) := by decide +kernel
theorem dX4_init_0 : decode cX4_init 0 = .ok (.aload_n 0, 1) := by decide +kernel
theorem dX4_init_1 : decode cX4_init 1 = .ok (.invokespecial 3, 3) := by decide +kernel
theorem dX4_init_4 : decode cX4_init 4 = .ok (.aload_n 0, 1) := by decide +kernel
theorem dX4_init_5 : decode cX4_init 5 = .ok (.bipush 40, 2) := by decide +kernel
theorem dX4_init_7 : decode cX4_init 7 = .ok (.newarray .int, 2) := by decide +kernel
theorem dX4_init_9 : decode cX4_init 9 = .ok (.putfield 9, 3) := by decide +kernel
theorem dX4_init_12 : decode cX4_init 12 = .ok (.return_, 1) := by decide +kernel
theorem dX4_isMissing_0 : decode cX4_isMissing 0 = .ok (.aload_n 0, 1) := by decide +kernel
theorem dX4_isMissing_1 : decode cX4_isMissing 1 = .ok (.getfield 15, 3) := by decide +kernel
theorem dX4_isMissing_4 : decode cX4_isMissing 4 = .ok (.ifCond .ne 7, 3) := by decide +kernel
theorem dX4_isMissing_7 : decode cX4_isMissing 7 = .ok (.iconst 1, 1) := by decide +kernel
theorem dX4_isMissing_8 : decode cX4_isMissing 8 = .ok (.goto 4, 3) := by decide +kernel
theorem dX4_isMissing_11 : decode cX4_isMissing 11 = .ok (.iconst 0, 1) := by decide +kernel
theorem dX4_isMissing_12 : decode cX4_isMissing 12 = .ok (.ireturn, 1) := by decide +kernel
theorem dX4_begin_0 : decode cX4_begin 0 = .ok (.aload_n 0, 1) := by decide +kernel
theorem dX4_begin_1 : decode cX4_begin 1 = .ok (.getfield 9, 3) := by decide +kernel
theorem dX4_begin_4 : decode cX4_begin 4 = .ok (.iconst 0, 1) := by decide +kernel
theorem dX4_begin_5 : decode cX4_begin 5 = .ok (.invokestatic 19, 3) := by decide +kernel
theorem dX4_begin_8 : decode cX4_begin 8 = .ok (.aload_n 0, 1) := by decide +kernel
theorem dX4_begin_9 : decode cX4_begin 9 = .ok (.iload_n 1, 1) := by decide +kernel
theorem dX4_begin_10 : decode cX4_begin 10 = .ok (.putfield 15, 3) := by decide +kernel
theorem dX4_begin_13 : decode cX4_begin 13 = .ok (.aload_n 0, 1) := by decide +kernel
theorem dX4_begin_14 : decode cX4_begin 14 = .ok (.iload_n 1, 1) := by decide +kernel
theorem dX4_begin_15 : decode cX4_begin 15 = .ok (.ifCond .ne 7, 3) := by decide +kernel
theorem dX4_begin_18 : decode cX4_begin 18 = .ok (.iconst 0, 1) := by decide +kernel
theorem dX4_begin_19 : decode cX4_begin 19 = .ok (.goto 4, 3) := by decide +kernel
theorem dX4_begin_22 : decode cX4_begin 22 = .ok (.iload_n 2, 1) := by decide +kernel
theorem dX4_begin_23 : decode cX4_begin 23 = .ok (.putfield 25, 3) := by decide +kernel
theorem dX4_begin_26 : decode cX4_begin 26 = .ok (.return_, 1) := by decide +kernel
theorem dX4_put_0 : decode cX4_put 0 = .ok (.aload_n 0, 1) := by decide +kernel
theorem dX4_put_1 : decode cX4_put 1 = .ok (.getfield 9, 3) := by decide +kernel
theorem dX4_put_4 : decode cX4_put 4 = .ok (.iload_n 1, 1) := by decide +kernel
theorem dX4_put_5 : decode cX4_put 5 = .ok (.aload_n 0, 1) := by decide +kernel
theorem dX4_put_6 : decode cX4_put 6 = .ok (.getfield 15, 3) := by decide +kernel
theorem dX4_put_9 : decode cX4_put 9 = .ok (.bipush 8, 2) := by decide +kernel
theorem dX4_put_11 : decode cX4_put 11 = .ok (.if_icmp .ne 8, 3) := by decide +kernel
theorem dX4_put_14 : decode cX4_put 14 = .ok (.iload_n 2, 1) := by decide +kernel
theorem dX4_put_15 : decode cX4_put 15 = .ok (.i2b, 1) := by decide +kernel
theorem dX4_put_16 : decode cX4_put 16 = .ok (.goto 18, 3) := by decide +kernel
theorem dX4_put_19 : decode cX4_put 19 = .ok (.aload_n 0, 1) := by decide +kernel
theorem dX4_put_20 : decode cX4_put 20 = .ok (.getfield 15, 3) := by decide +kernel
theorem dX4_put_23 : decode cX4_put 23 = .ok (.bipush 16, 2) := by decide +kernel
theorem dX4_put_25 : decode cX4_put 25 = .ok (.if_icmp .ne 8, 3) := by decide +kernel
theorem dX4_put_28 : decode cX4_put 28 = .ok (.iload_n 2, 1) := by decide +kernel
theorem dX4_put_29 : decode cX4_put 29 = .ok (.i2s, 1) := by decide +kernel
theorem dX4_put_30 : decode cX4_put 30 = .ok (.goto 4, 3) := by decide +kernel
theorem dX4_put_33 : decode cX4_put 33 = .ok (.iload_n 2, 1) := by decide +kernel
theorem dX4_put_34 : decode cX4_put 34 = .ok (.iastore, 1) := by decide +kernel
theorem dX4_put_35 : decode cX4_put 35 = .ok (.return_, 1) := by decide +kernel
theorem dX4_hasRun_0 : decode cX4_hasRun 0 = .ok (.iload_n 1, 1) := by decide +kernel
theorem dX4_hasRun_1 : decode cX4_hasRun 1 = .ok (.ifCond .lt 21, 3) := by decide +kernel
theorem dX4_hasRun_4 : decode cX4_hasRun 4 = .ok (.iload_n 2, 1) := by decide +kernel
theorem dX4_hasRun_5 : decode cX4_hasRun 5 = .ok (.ifCond .lt 17, 3) := by decide +kernel
theorem dX4_hasRun_8 : decode cX4_hasRun 8 = .ok (.iload_n 2, 1) := by decide +kernel
theorem dX4_hasRun_9 : decode cX4_hasRun 9 = .ok (.aload_n 0, 1) := by decide +kernel
theorem dX4_hasRun_10 : decode cX4_hasRun 10 = .ok (.getfield 25, 3) := by decide +kernel
theorem dX4_hasRun_13 : decode cX4_hasRun 13 = .ok (.iload_n 1, 1) := by decide +kernel
theorem dX4_hasRun_14 : decode cX4_hasRun 14 = .ok (.isub, 1) := by decide +kernel
theorem dX4_hasRun_15 : decode cX4_hasRun 15 = .ok (.if_icmp .gt 7, 3) := by decide +kernel
theorem dX4_hasRun_18 : decode cX4_hasRun 18 = .ok (.iconst 1, 1) := by decide +kernel
theorem dX4_hasRun_19 : decode cX4_hasRun 19 = .ok (.goto 4, 3) := by decide +kernel
theorem dX4_hasRun_22 : decode cX4_hasRun 22 = .ok (.iconst 0, 1) := by decide +kernel
theorem dX4_hasRun_23 : decode cX4_hasRun 23 = .ok (.ireturn, 1) := by decide +kernel
theorem dX5_init_0 : decode cX5_init 0 = .ok (.aload_n 0, 1) := by decide +kernel
theorem dX5_init_1 : decode cX5_init 1 = .ok (.invokespecial 3, 3) := by decide +kernel
theorem dX5_init_4 : decode cX5_init 4 = .ok (.aload_n 0, 1) := by decide +kernel
theorem dX5_init_5 : decode cX5_init 5 = .ok (.bipush 120, 2) := by decide +kernel
theorem dX5_init_7 : decode cX5_init 7 = .ok (.newarray .byte, 2) := by decide +kernel
theorem dX5_init_9 : decode cX5_init 9 = .ok (.putfield 9, 3) := by decide +kernel
theorem dX5_init_12 : decode cX5_init 12 = .ok (.return_, 1) := by decide +kernel
theorem dX5_append_0 : decode cX5_append 0 = .ok (.aload_n 0, 1) := by decide +kernel
theorem dX5_append_1 : decode cX5_append 1 = .ok (.getfield 9, 3) := by decide +kernel
theorem dX5_append_4 : decode cX5_append 4 = .ok (.aload_n 0, 1) := by decide +kernel
theorem dX5_append_5 : decode cX5_append 5 = .ok (.getfield 15, 3) := by decide +kernel
theorem dX5_append_8 : decode cX5_append 8 = .ok (.iload_n 1, 1) := by decide +kernel
theorem dX5_append_9 : decode cX5_append 9 = .ok (.bastore, 1) := by decide +kernel
theorem dX5_append_10 : decode cX5_append 10 = .ok (.aload_n 0, 1) := by decide +kernel
theorem dX5_append_11 : decode cX5_append 11 = .ok (.dup, 1) := by decide +kernel
theorem dX5_append_12 : decode cX5_append 12 = .ok (.getfield 15, 3) := by decide +kernel
theorem dX5_append_15 : decode cX5_append 15 = .ok (.iconst 1, 1) := by decide +kernel
theorem dX5_append_16 : decode cX5_append 16 = .ok (.iadd, 1) := by decide +kernel
theorem dX5_append_17 : decode cX5_append 17 = .ok (.putfield 15, 3) := by decide +kernel
theorem dX5_append_20 : decode cX5_append 20 = .ok (.return_, 1) := by decide +kernel
theorem dX6_init_0 : decode cX6_init 0 = .ok (.aload_n 0, 1) := by decide +kernel
theorem dX6_init_1 : decode cX6_init 1 = .ok (.invokespecial 3, 3) := by decide +kernel
theorem dX6_init_4 : decode cX6_init 4 = .ok (.aload_n 0, 1) := by decide +kernel
theorem dX6_init_5 : decode cX6_init 5 = .ok (.bipush 10, 2) := by decide +kernel
theorem dX6_init_7 : decode cX6_init 7 = .ok (.newarray .int, 2) := by decide +kernel
theorem dX6_init_9 : decode cX6_init 9 = .ok (.putfield 9, 3) := by decide +kernel
theorem dX6_init_12 : decode cX6_init 12 = .ok (.aload_n 0, 1) := by decide +kernel
theorem dX6_init_13 : decode cX6_init 13 = .ok (.bipush 64, 2) := by decide +kernel
theorem dX6_init_15 : decode cX6_init 15 = .ok (.newarray .int, 2) := by decide +kernel
theorem dX6_init_17 : decode cX6_init 17 = .ok (.putfield 15, 3) := by decide +kernel
theorem dX6_init_20 : decode cX6_init 20 = .ok (.return_, 1) := by decide +kernel
theorem dX6_allWays_0 : decode cX6_allWays 0 = .ok (.aload_n 0, 1) := by decide +kernel
theorem dX6_allWays_1 : decode cX6_allWays 1 = .ok (.aload_n 1, 1) := by decide +kernel
theorem dX6_allWays_2 : decode cX6_allWays 2 = .ok (.aload_n 2, 1) := by decide +kernel
theorem dX6_allWays_3 : decode cX6_allWays 3 = .ok (.invokevirtual 18, 3) := by decide +kernel
theorem dX6_allWays_6 : decode cX6_allWays 6 = .ok (.aload_n 0, 1) := by decide +kernel
theorem dX6_allWays_7 : decode cX6_allWays 7 = .ok (.aload_n 2, 1) := by decide +kernel
theorem dX6_allWays_8 : decode cX6_allWays 8 = .ok (.invokestatic 22, 3) := by decide +kernel
theorem dX6_allWays_11 : decode cX6_allWays 11 = .ok (.iconst (-1), 1) := by decide +kernel
theorem dX6_allWays_12 : decode cX6_allWays 12 = .ok (.invokevirtual 26, 3) := by decide +kernel
theorem dX6_allWays_15 : decode cX6_allWays 15 = .ok (.ireturn, 1) := by decide +kernel
theorem dX6_headsFor_0 : decode cX6_headsFor 0 = .ok (.aload_n 0, 1) := by decide +kernel
theorem dX6_headsFor_1 : decode cX6_headsFor 1 = .ok (.aload_n 1, 1) := by decide +kernel
theorem dX6_headsFor_2 : decode cX6_headsFor 2 = .ok (.aload_n 2, 1) := by decide +kernel
theorem dX6_headsFor_3 : decode cX6_headsFor 3 = .ok (.invokevirtual 18, 3) := by decide +kernel
theorem dX6_headsFor_6 : decode cX6_headsFor 6 = .ok (.aload_n 2, 1) := by decide +kernel
theorem dX6_headsFor_7 : decode cX6_headsFor 7 = .ok (.invokestatic 22, 3) := by decide +kernel
theorem dX6_headsFor_10 : decode cX6_headsFor 10 = .ok (.iconst 1, 1) := by decide +kernel
theorem dX6_headsFor_11 : decode cX6_headsFor 11 = .ok (.iload_n 3, 1) := by decide +kernel
theorem dX6_headsFor_12 : decode cX6_headsFor 12 = .ok (.ishl, 1) := by decide +kernel
theorem dX6_headsFor_13 : decode cX6_headsFor 13 = .ok (.iconst (-1), 1) := by decide +kernel
theorem dX6_headsFor_14 : decode cX6_headsFor 14 = .ok (.ixor, 1) := by decide +kernel
theorem dX6_headsFor_15 : decode cX6_headsFor 15 = .ok (.iand, 1) := by decide +kernel
theorem dX6_headsFor_16 : decode cX6_headsFor 16 = .ok (.istore 4, 2) := by decide +kernel
theorem dX6_headsFor_18 : decode cX6_headsFor 18 = .ok (.iconst 0, 1) := by decide +kernel
theorem dX6_headsFor_19 : decode cX6_headsFor 19 = .ok (.istore 5, 2) := by decide +kernel
theorem dX6_headsFor_21 : decode cX6_headsFor 21 = .ok (.iconst 0, 1) := by decide +kernel
theorem dX6_headsFor_22 : decode cX6_headsFor 22 = .ok (.istore 6, 2) := by decide +kernel
theorem dX6_headsFor_24 : decode cX6_headsFor 24 = .ok (.iload 6, 2) := by decide +kernel
theorem dX6_headsFor_26 : decode cX6_headsFor 26 = .ok (.bipush 10, 2) := by decide +kernel
theorem dX6_headsFor_28 : decode cX6_headsFor 28 = .ok (.if_icmp .ge 43, 3) := by decide +kernel
theorem dX6_headsFor_31 : decode cX6_headsFor 31 = .ok (.aload_n 0, 1) := by decide +kernel
theorem dX6_headsFor_32 : decode cX6_headsFor 32 = .ok (.getfield 9, 3) := by decide +kernel
theorem dX6_headsFor_35 : decode cX6_headsFor 35 = .ok (.iload 6, 2) := by decide +kernel
theorem dX6_headsFor_37 : decode cX6_headsFor 37 = .ok (.iaload, 1) := by decide +kernel
theorem dX6_headsFor_38 : decode cX6_headsFor 38 = .ok (.iconst 1, 1) := by decide +kernel
theorem dX6_headsFor_39 : decode cX6_headsFor 39 = .ok (.iload_n 3, 1) := by decide +kernel
theorem dX6_headsFor_40 : decode cX6_headsFor 40 = .ok (.ishl, 1) := by decide +kernel
theorem dX6_headsFor_41 : decode cX6_headsFor 41 = .ok (.iand, 1) := by decide +kernel
theorem dX6_headsFor_42 : decode cX6_headsFor 42 = .ok (.ifCond .eq 23, 3) := by decide +kernel
theorem dX6_headsFor_45 : decode cX6_headsFor 45 = .ok (.aload_n 0, 1) := by decide +kernel
theorem dX6_headsFor_46 : decode cX6_headsFor 46 = .ok (.iload 4, 2) := by decide +kernel
theorem dX6_headsFor_48 : decode cX6_headsFor 48 = .ok (.iload 6, 2) := by decide +kernel
theorem dX6_headsFor_50 : decode cX6_headsFor 50 = .ok (.invokevirtual 26, 3) := by decide +kernel
theorem dX6_headsFor_53 : decode cX6_headsFor 53 = .ok (.ifCond .le 12, 3) := by decide +kernel
theorem dX6_headsFor_56 : decode cX6_headsFor 56 = .ok (.iload 5, 2) := by decide +kernel
theorem dX6_headsFor_58 : decode cX6_headsFor 58 = .ok (.iconst 1, 1) := by decide +kernel
theorem dX6_headsFor_59 : decode cX6_headsFor 59 = .ok (.iload 6, 2) := by decide +kernel
theorem dX6_headsFor_61 : decode cX6_headsFor 61 = .ok (.ishl, 1) := by decide +kernel
theorem dX6_headsFor_62 : decode cX6_headsFor 62 = .ok (.ior, 1) := by decide +kernel
theorem dX6_headsFor_63 : decode cX6_headsFor 63 = .ok (.istore 5, 2) := by decide +kernel
theorem dX6_headsFor_65 : decode cX6_headsFor 65 = .ok (.iinc 6 1, 3) := by decide +kernel
theorem dX6_headsFor_68 : decode cX6_headsFor 68 = .ok (.goto (-44), 3) := by decide +kernel
theorem dX6_headsFor_71 : decode cX6_headsFor 71 = .ok (.iload 5, 2) := by decide +kernel
theorem dX6_headsFor_73 : decode cX6_headsFor 73 = .ok (.ireturn, 1) := by decide +kernel
theorem dX6_facesOf_0 : decode cX6_facesOf 0 = .ok (.iconst 1, 1) := by decide +kernel
theorem dX6_facesOf_1 : decode cX6_facesOf 1 = .ok (.aload_n 0, 1) := by decide +kernel
theorem dX6_facesOf_2 : decode cX6_facesOf 2 = .ok (.getfield 30, 3) := by decide +kernel
theorem dX6_facesOf_5 : decode cX6_facesOf 5 = .ok (.bipush 6, 2) := by decide +kernel
theorem dX6_facesOf_7 : decode cX6_facesOf 7 = .ok (.invokestatic 36, 3) := by decide +kernel
theorem dX6_facesOf_10 : decode cX6_facesOf 10 = .ok (.ishl, 1) := by decide +kernel
theorem dX6_facesOf_11 : decode cX6_facesOf 11 = .ok (.iconst 1, 1) := by decide +kernel
theorem dX6_facesOf_12 : decode cX6_facesOf 12 = .ok (.isub, 1) := by decide +kernel
theorem dX6_facesOf_13 : decode cX6_facesOf 13 = .ok (.ireturn, 1) := by decide +kernel
theorem dX6_survey_0 : decode cX6_survey 0 = .ok (.aload_n 0, 1) := by decide +kernel
theorem dX6_survey_1 : decode cX6_survey 1 = .ok (.getfield 9, 3) := by decide +kernel
theorem dX6_survey_4 : decode cX6_survey 4 = .ok (.iconst 0, 1) := by decide +kernel
theorem dX6_survey_5 : decode cX6_survey 5 = .ok (.invokestatic 41, 3) := by decide +kernel
theorem dX6_survey_8 : decode cX6_survey 8 = .ok (.iconst 0, 1) := by decide +kernel
theorem dX6_survey_9 : decode cX6_survey 9 = .ok (.istore_n 3, 1) := by decide +kernel
theorem dX6_survey_10 : decode cX6_survey 10 = .ok (.iload_n 3, 1) := by decide +kernel
theorem dX6_survey_11 : decode cX6_survey 11 = .ok (.aload_n 1, 1) := by decide +kernel
theorem dX6_survey_12 : decode cX6_survey 12 = .ok (.getfield 47, 3) := by decide +kernel
theorem dX6_survey_15 : decode cX6_survey 15 = .ok (.if_icmp .ge 72, 3) := by decide +kernel
theorem dX6_survey_18 : decode cX6_survey 18 = .ok (.iconst 0, 1) := by decide +kernel
theorem dX6_survey_19 : decode cX6_survey 19 = .ok (.istore 4, 2) := by decide +kernel
theorem dX6_survey_21 : decode cX6_survey 21 = .ok (.iload 4, 2) := by decide +kernel
theorem dX6_survey_23 : decode cX6_survey 23 = .ok (.bipush 6, 2) := by decide +kernel
theorem dX6_survey_25 : decode cX6_survey 25 = .ok (.if_icmp .ge 56, 3) := by decide +kernel
theorem dX6_survey_28 : decode cX6_survey 28 = .ok (.iload 4, 2) := by decide +kernel
theorem dX6_survey_30 : decode cX6_survey 30 = .ok (.aload_n 2, 1) := by decide +kernel
theorem dX6_survey_31 : decode cX6_survey 31 = .ok (.getfield 30, 3) := by decide +kernel
theorem dX6_survey_34 : decode cX6_survey 34 = .ok (.if_icmp .ge 47, 3) := by decide +kernel
theorem dX6_survey_37 : decode cX6_survey 37 = .ok (.aload_n 1, 1) := by decide +kernel
theorem dX6_survey_38 : decode cX6_survey 38 = .ok (.iload_n 3, 1) := by decide +kernel
theorem dX6_survey_39 : decode cX6_survey 39 = .ok (.invokevirtual 52, 3) := by decide +kernel
theorem dX6_survey_42 : decode cX6_survey 42 = .ok (.ifCond .eq 39, 3) := by decide +kernel
theorem dX6_survey_45 : decode cX6_survey 45 = .ok (.aload_n 1, 1) := by decide +kernel
theorem dX6_survey_46 : decode cX6_survey 46 = .ok (.iload_n 3, 1) := by decide +kernel
theorem dX6_survey_47 : decode cX6_survey 47 = .ok (.iload 4, 2) := by decide +kernel
theorem dX6_survey_49 : decode cX6_survey 49 = .ok (.invokevirtual 56, 3) := by decide +kernel
theorem dX6_survey_52 : decode cX6_survey 52 = .ok (.aload_n 2, 1) := by decide +kernel
theorem dX6_survey_53 : decode cX6_survey 53 = .ok (.getfield 59, 3) := by decide +kernel
theorem dX6_survey_56 : decode cX6_survey 56 = .ok (.iload 4, 2) := by decide +kernel
theorem dX6_survey_58 : decode cX6_survey 58 = .ok (.iaload, 1) := by decide +kernel
theorem dX6_survey_59 : decode cX6_survey 59 = .ok (.if_icmp .ne 16, 3) := by decide +kernel
theorem dX6_survey_62 : decode cX6_survey 62 = .ok (.aload_n 0, 1) := by decide +kernel
theorem dX6_survey_63 : decode cX6_survey 63 = .ok (.getfield 9, 3) := by decide +kernel
theorem dX6_survey_66 : decode cX6_survey 66 = .ok (.iload_n 3, 1) := by decide +kernel
theorem dX6_survey_67 : decode cX6_survey 67 = .ok (.dup2, 1) := by decide +kernel
theorem dX6_survey_68 : decode cX6_survey 68 = .ok (.iaload, 1) := by decide +kernel
theorem dX6_survey_69 : decode cX6_survey 69 = .ok (.iconst 1, 1) := by decide +kernel
theorem dX6_survey_70 : decode cX6_survey 70 = .ok (.iload 4, 2) := by decide +kernel
theorem dX6_survey_72 : decode cX6_survey 72 = .ok (.ishl, 1) := by decide +kernel
theorem dX6_survey_73 : decode cX6_survey 73 = .ok (.ior, 1) := by decide +kernel
theorem dX6_survey_74 : decode cX6_survey 74 = .ok (.iastore, 1) := by decide +kernel
theorem dX6_survey_75 : decode cX6_survey 75 = .ok (.iinc 4 1, 3) := by decide +kernel
theorem dX6_survey_78 : decode cX6_survey 78 = .ok (.goto (-57), 3) := by decide +kernel
theorem dX6_survey_81 : decode cX6_survey 81 = .ok (.iinc 3 1, 3) := by decide +kernel
theorem dX6_survey_84 : decode cX6_survey 84 = .ok (.goto (-74), 3) := by decide +kernel
theorem dX6_survey_87 : decode cX6_survey 87 = .ok (.return_, 1) := by decide +kernel
theorem dX6_waysFor_0 : decode cX6_waysFor 0 = .ok (.aload_n 0, 1) := by decide +kernel
theorem dX6_waysFor_1 : decode cX6_waysFor 1 = .ok (.getfield 15, 3) := by decide +kernel
theorem dX6_waysFor_4 : decode cX6_waysFor 4 = .ok (.iconst 0, 1) := by decide +kernel
theorem dX6_waysFor_5 : decode cX6_waysFor 5 = .ok (.invokestatic 41, 3) := by decide +kernel
theorem dX6_waysFor_8 : decode cX6_waysFor 8 = .ok (.aload_n 0, 1) := by decide +kernel
theorem dX6_waysFor_9 : decode cX6_waysFor 9 = .ok (.getfield 15, 3) := by decide +kernel
theorem dX6_waysFor_12 : decode cX6_waysFor 12 = .ok (.iconst 0, 1) := by decide +kernel
theorem dX6_waysFor_13 : decode cX6_waysFor 13 = .ok (.iconst 1, 1) := by decide +kernel
theorem dX6_waysFor_14 : decode cX6_waysFor 14 = .ok (.iastore, 1) := by decide +kernel
theorem dX6_waysFor_15 : decode cX6_waysFor 15 = .ok (.iconst 0, 1) := by decide +kernel
theorem dX6_waysFor_16 : decode cX6_waysFor 16 = .ok (.istore_n 3, 1) := by decide +kernel
theorem dX6_waysFor_17 : decode cX6_waysFor 17 = .ok (.iload_n 3, 1) := by decide +kernel
theorem dX6_waysFor_18 : decode cX6_waysFor 18 = .ok (.bipush 10, 2) := by decide +kernel
theorem dX6_waysFor_20 : decode cX6_waysFor 20 = .ok (.if_icmp .ge 34, 3) := by decide +kernel
theorem dX6_waysFor_23 : decode cX6_waysFor 23 = .ok (.iload_n 3, 1) := by decide +kernel
theorem dX6_waysFor_24 : decode cX6_waysFor 24 = .ok (.iload_n 2, 1) := by decide +kernel
theorem dX6_waysFor_25 : decode cX6_waysFor 25 = .ok (.if_icmp .eq 23, 3) := by decide +kernel
theorem dX6_waysFor_28 : decode cX6_waysFor 28 = .ok (.aload_n 0, 1) := by decide +kernel
theorem dX6_waysFor_29 : decode cX6_waysFor 29 = .ok (.getfield 9, 3) := by decide +kernel
theorem dX6_waysFor_32 : decode cX6_waysFor 32 = .ok (.iload_n 3, 1) := by decide +kernel
theorem dX6_waysFor_33 : decode cX6_waysFor 33 = .ok (.iaload, 1) := by decide +kernel
theorem dX6_waysFor_34 : decode cX6_waysFor 34 = .ok (.ifCond .eq 14, 3) := by decide +kernel
theorem dX6_waysFor_37 : decode cX6_waysFor 37 = .ok (.aload_n 0, 1) := by decide +kernel
theorem dX6_waysFor_38 : decode cX6_waysFor 38 = .ok (.iload_n 1, 1) := by decide +kernel
theorem dX6_waysFor_39 : decode cX6_waysFor 39 = .ok (.aload_n 0, 1) := by decide +kernel
theorem dX6_waysFor_40 : decode cX6_waysFor 40 = .ok (.getfield 9, 3) := by decide +kernel
theorem dX6_waysFor_43 : decode cX6_waysFor 43 = .ok (.iload_n 3, 1) := by decide +kernel
theorem dX6_waysFor_44 : decode cX6_waysFor 44 = .ok (.iaload, 1) := by decide +kernel
theorem dX6_waysFor_45 : decode cX6_waysFor 45 = .ok (.invokevirtual 62, 3) := by decide +kernel
theorem dX6_waysFor_48 : decode cX6_waysFor 48 = .ok (.iinc 3 1, 3) := by decide +kernel
theorem dX6_waysFor_51 : decode cX6_waysFor 51 = .ok (.goto (-34), 3) := by decide +kernel
theorem dX6_waysFor_54 : decode cX6_waysFor 54 = .ok (.aload_n 0, 1) := by decide +kernel
theorem dX6_waysFor_55 : decode cX6_waysFor 55 = .ok (.getfield 15, 3) := by decide +kernel
theorem dX6_waysFor_58 : decode cX6_waysFor 58 = .ok (.iload_n 1, 1) := by decide +kernel
theorem dX6_waysFor_59 : decode cX6_waysFor 59 = .ok (.iaload, 1) := by decide +kernel
theorem dX6_waysFor_60 : decode cX6_waysFor 60 = .ok (.ireturn, 1) := by decide +kernel
end
section
theorem dX6_offer_0 : decode cX6_offer 0 = .ok (.iload_n 1, 1) := by decide +kernel
theorem dX6_offer_1 : decode cX6_offer 1 = .ok (.istore_n 3, 1) := by decide +kernel
theorem dX6_offer_2 : decode cX6_offer 2 = .ok (.iload_n 3, 1) := by decide +kernel
theorem dX6_offer_3 : decode cX6_offer 3 = .ok (.ifCond .le 66, 3) := by decide +kernel
theorem dX6_offer_6 : decode cX6_offer 6 = .ok (.iconst 0, 1) := by decide +kernel
theorem dX6_offer_7 : decode cX6_offer 7 = .ok (.istore 4, 2) := by decide +kernel
theorem dX6_offer_9 : decode cX6_offer 9 = .ok (.iload 4, 2) := by decide +kernel
theorem dX6_offer_11 : decode cX6_offer 11 = .ok (.bipush 6, 2) := by decide +kernel
theorem dX6_offer_13 : decode cX6_offer 13 = .ok (.if_icmp .ge 50, 3) := by decide +kernel
theorem dX6_offer_16 : decode cX6_offer 16 = .ok (.iload_n 3, 1) := by decide +kernel
theorem dX6_offer_17 : decode cX6_offer 17 = .ok (.iload_n 1, 1) := by decide +kernel
theorem dX6_offer_18 : decode cX6_offer 18 = .ok (.iconst (-1), 1) := by decide +kernel
theorem dX6_offer_19 : decode cX6_offer 19 = .ok (.ixor, 1) := by decide +kernel
theorem dX6_offer_20 : decode cX6_offer 20 = .ok (.iand, 1) := by decide +kernel
theorem dX6_offer_21 : decode cX6_offer 21 = .ok (.ifCond .ne 42, 3) := by decide +kernel
theorem dX6_offer_24 : decode cX6_offer 24 = .ok (.iload_n 3, 1) := by decide +kernel
theorem dX6_offer_25 : decode cX6_offer 25 = .ok (.iload_n 2, 1) := by decide +kernel
theorem dX6_offer_26 : decode cX6_offer 26 = .ok (.iand, 1) := by decide +kernel
theorem dX6_offer_27 : decode cX6_offer 27 = .ok (.iconst 1, 1) := by decide +kernel
theorem dX6_offer_28 : decode cX6_offer 28 = .ok (.iload 4, 2) := by decide +kernel
theorem dX6_offer_30 : decode cX6_offer 30 = .ok (.ishl, 1) := by decide +kernel
theorem dX6_offer_31 : decode cX6_offer 31 = .ok (.iand, 1) := by decide +kernel
theorem dX6_offer_32 : decode cX6_offer 32 = .ok (.ifCond .eq 25, 3) := by decide +kernel
theorem dX6_offer_35 : decode cX6_offer 35 = .ok (.aload_n 0, 1) := by decide +kernel
theorem dX6_offer_36 : decode cX6_offer 36 = .ok (.getfield 15, 3) := by decide +kernel
theorem dX6_offer_39 : decode cX6_offer 39 = .ok (.iload_n 3, 1) := by decide +kernel
theorem dX6_offer_40 : decode cX6_offer 40 = .ok (.dup2, 1) := by decide +kernel
theorem dX6_offer_41 : decode cX6_offer 41 = .ok (.iaload, 1) := by decide +kernel
theorem dX6_offer_42 : decode cX6_offer 42 = .ok (.aload_n 0, 1) := by decide +kernel
theorem dX6_offer_43 : decode cX6_offer 43 = .ok (.getfield 15, 3) := by decide +kernel
theorem dX6_offer_46 : decode cX6_offer 46 = .ok (.iload_n 3, 1) := by decide +kernel
theorem dX6_offer_47 : decode cX6_offer 47 = .ok (.iconst 1, 1) := by decide +kernel
theorem dX6_offer_48 : decode cX6_offer 48 = .ok (.iload 4, 2) := by decide +kernel
theorem dX6_offer_50 : decode cX6_offer 50 = .ok (.ishl, 1) := by decide +kernel
theorem dX6_offer_51 : decode cX6_offer 51 = .ok (.iconst (-1), 1) := by decide +kernel
theorem dX6_offer_52 : decode cX6_offer 52 = .ok (.ixor, 1) := by decide +kernel
theorem dX6_offer_53 : decode cX6_offer 53 = .ok (.iand, 1) := by decide +kernel
theorem dX6_offer_54 : decode cX6_offer 54 = .ok (.iaload, 1) := by decide +kernel
theorem dX6_offer_55 : decode cX6_offer 55 = .ok (.iadd, 1) := by decide +kernel
theorem dX6_offer_56 : decode cX6_offer 56 = .ok (.iastore, 1) := by decide +kernel
theorem dX6_offer_57 : decode cX6_offer 57 = .ok (.iinc 4 1, 3) := by decide +kernel
theorem dX6_offer_60 : decode cX6_offer 60 = .ok (.goto (-51), 3) := by decide +kernel
theorem dX6_offer_63 : decode cX6_offer 63 = .ok (.iinc 3 (-1), 3) := by decide +kernel
theorem dX6_offer_66 : decode cX6_offer 66 = .ok (.goto (-64), 3) := by decide +kernel
theorem dX6_offer_69 : decode cX6_offer 69 = .ok (.return_, 1) := by decide +kernel
theorem dX7_init_0 : decode cX7_init 0 = .ok (.aload_n 0, 1) := by decide +kernel
theorem dX7_init_1 : decode cX7_init 1 = .ok (.invokespecial 3, 3) := by decide +kernel
theorem dX7_init_4 : decode cX7_init 4 = .ok (.aload_n 0, 1) := by decide +kernel
theorem dX7_init_5 : decode cX7_init 5 = .ok (.new 9, 3) := by decide +kernel
theorem dX7_init_8 : decode cX7_init 8 = .ok (.dup, 1) := by decide +kernel
theorem dX7_init_9 : decode cX7_init 9 = .ok (.invokespecial 11, 3) := by decide +kernel
theorem dX7_init_12 : decode cX7_init 12 = .ok (.putfield 12, 3) := by decide +kernel
theorem dX7_init_15 : decode cX7_init 15 = .ok (.aload_n 0, 1) := by decide +kernel
theorem dX7_init_16 : decode cX7_init 16 = .ok (.new 9, 3) := by decide +kernel
theorem dX7_init_19 : decode cX7_init 19 = .ok (.dup, 1) := by decide +kernel
theorem dX7_init_20 : decode cX7_init 20 = .ok (.invokespecial 11, 3) := by decide +kernel
theorem dX7_init_23 : decode cX7_init 23 = .ok (.putfield 16, 3) := by decide +kernel
theorem dX7_init_26 : decode cX7_init 26 = .ok (.aload_n 0, 1) := by decide +kernel
theorem dX7_init_27 : decode cX7_init 27 = .ok (.new 9, 3) := by decide +kernel
theorem dX7_init_30 : decode cX7_init 30 = .ok (.dup, 1) := by decide +kernel
theorem dX7_init_31 : decode cX7_init 31 = .ok (.invokespecial 11, 3) := by decide +kernel
theorem dX7_init_34 : decode cX7_init 34 = .ok (.putfield 19, 3) := by decide +kernel
theorem dX7_init_37 : decode cX7_init 37 = .ok (.aload_n 0, 1) := by decide +kernel
theorem dX7_init_38 : decode cX7_init 38 = .ok (.new 22, 3) := by decide +kernel
theorem dX7_init_41 : decode cX7_init 41 = .ok (.dup, 1) := by decide +kernel
theorem dX7_init_42 : decode cX7_init 42 = .ok (.invokespecial 24, 3) := by decide +kernel
theorem dX7_init_45 : decode cX7_init 45 = .ok (.putfield 25, 3) := by decide +kernel
theorem dX7_init_48 : decode cX7_init 48 = .ok (.aload_n 0, 1) := by decide +kernel
theorem dX7_init_49 : decode cX7_init 49 = .ok (.new 29, 3) := by decide +kernel
theorem dX7_init_52 : decode cX7_init 52 = .ok (.dup, 1) := by decide +kernel
theorem dX7_init_53 : decode cX7_init 53 = .ok (.invokespecial 31, 3) := by decide +kernel
theorem dX7_init_56 : decode cX7_init 56 = .ok (.putfield 32, 3) := by decide +kernel
theorem dX7_init_59 : decode cX7_init 59 = .ok (.aload_n 0, 1) := by decide +kernel
theorem dX7_init_60 : decode cX7_init 60 = .ok (.new 36, 3) := by decide +kernel
theorem dX7_init_63 : decode cX7_init 63 = .ok (.dup, 1) := by decide +kernel
theorem dX7_init_64 : decode cX7_init 64 = .ok (.invokespecial 38, 3) := by decide +kernel
theorem dX7_init_67 : decode cX7_init 67 = .ok (.putfield 39, 3) := by decide +kernel
theorem dX7_init_70 : decode cX7_init 70 = .ok (.aload_n 0, 1) := by decide +kernel
theorem dX7_init_71 : decode cX7_init 71 = .ok (.new 43, 3) := by decide +kernel
theorem dX7_init_74 : decode cX7_init 74 = .ok (.dup, 1) := by decide +kernel
theorem dX7_init_75 : decode cX7_init 75 = .ok (.aload_n 0, 1) := by decide +kernel
theorem dX7_init_76 : decode cX7_init 76 = .ok (.getfield 39, 3) := by decide +kernel
theorem dX7_init_79 : decode cX7_init 79 = .ok (.aload_n 0, 1) := by decide +kernel
theorem dX7_init_80 : decode cX7_init 80 = .ok (.getfield 19, 3) := by decide +kernel
theorem dX7_init_83 : decode cX7_init 83 = .ok (.invokespecial 45, 3) := by decide +kernel
theorem dX7_init_86 : decode cX7_init 86 = .ok (.putfield 48, 3) := by decide +kernel
theorem dX7_init_89 : decode cX7_init 89 = .ok (.aload_n 0, 1) := by decide +kernel
theorem dX7_init_90 : decode cX7_init 90 = .ok (.iconst 4, 1) := by decide +kernel
theorem dX7_init_91 : decode cX7_init 91 = .ok (.anewarray 52, 3) := by decide +kernel
theorem dX7_init_94 : decode cX7_init 94 = .ok (.putfield 54, 3) := by decide +kernel
theorem dX7_init_97 : decode cX7_init 97 = .ok (.aload_n 0, 1) := by decide +kernel
theorem dX7_init_98 : decode cX7_init 98 = .ok (.bipush 7, 2) := by decide +kernel
theorem dX7_init_100 : decode cX7_init 100 = .ok (.newarray .int, 2) := by decide +kernel
theorem dX7_init_102 : decode cX7_init 102 = .ok (.putfield 58, 3) := by decide +kernel
theorem dX7_init_105 : decode cX7_init 105 = .ok (.iconst 0, 1) := by decide +kernel
theorem dX7_init_106 : decode cX7_init 106 = .ok (.istore_n 1, 1) := by decide +kernel
theorem dX7_init_107 : decode cX7_init 107 = .ok (.iload_n 1, 1) := by decide +kernel
theorem dX7_init_108 : decode cX7_init 108 = .ok (.iconst 4, 1) := by decide +kernel
theorem dX7_init_109 : decode cX7_init 109 = .ok (.if_icmp .ge 22, 3) := by decide +kernel
theorem dX7_init_112 : decode cX7_init 112 = .ok (.aload_n 0, 1) := by decide +kernel
theorem dX7_init_113 : decode cX7_init 113 = .ok (.getfield 54, 3) := by decide +kernel
theorem dX7_init_116 : decode cX7_init 116 = .ok (.iload_n 1, 1) := by decide +kernel
theorem dX7_init_117 : decode cX7_init 117 = .ok (.new 52, 3) := by decide +kernel
theorem dX7_init_120 : decode cX7_init 120 = .ok (.dup, 1) := by decide +kernel
theorem dX7_init_121 : decode cX7_init 121 = .ok (.invokespecial 62, 3) := by decide +kernel
theorem dX7_init_124 : decode cX7_init 124 = .ok (.aastore, 1) := by decide +kernel
theorem dX7_init_125 : decode cX7_init 125 = .ok (.iinc 1 1, 3) := by decide +kernel
theorem dX7_init_128 : decode cX7_init 128 = .ok (.goto (-21), 3) := by decide +kernel
theorem dX7_init_131 : decode cX7_init 131 = .ok (.return_, 1) := by decide +kernel
theorem dX7_part_0 : decode cX7_part 0 = .ok (.iload_n 1, 1) := by decide +kernel
theorem dX7_part_1 : decode cX7_part 1 = .ok (.invokestatic 63, 3) := by decide +kernel
theorem dX7_part_4 : decode cX7_part 4 = .ok (.ifCond .ne 10, 3) := by decide +kernel
theorem dX7_part_7 : decode cX7_part 7 = .ok (.aload_n 0, 1) := by decide +kernel
theorem dX7_part_8 : decode cX7_part 8 = .ok (.ldc 67, 2) := by decide +kernel
theorem dX7_part_10 : decode cX7_part 10 = .ok (.invokevirtual 68, 3) := by decide +kernel
theorem dX7_part_13 : decode cX7_part 13 = .ok (.ireturn, 1) := by decide +kernel
theorem dX7_part_14 : decode cX7_part 14 = .ok (.aload_n 0, 1) := by decide +kernel
theorem dX7_part_15 : decode cX7_part 15 = .ok (.getfield 12, 3) := by decide +kernel
theorem dX7_part_18 : decode cX7_part 18 = .ok (.getfield 72, 3) := by decide +kernel
theorem dX7_part_21 : decode cX7_part 21 = .ok (.bipush 10, 2) := by decide +kernel
theorem dX7_part_23 : decode cX7_part 23 = .ok (.if_icmp .lt 10, 3) := by decide +kernel
theorem dX7_part_26 : decode cX7_part 26 = .ok (.aload_n 0, 1) := by decide +kernel
theorem dX7_part_27 : decode cX7_part 27 = .ok (.ldc 76, 2) := by decide +kernel
theorem dX7_part_29 : decode cX7_part 29 = .ok (.invokevirtual 68, 3) := by decide +kernel
theorem dX7_part_32 : decode cX7_part 32 = .ok (.ireturn, 1) := by decide +kernel
theorem dX7_part_33 : decode cX7_part 33 = .ok (.aload_n 0, 1) := by decide +kernel
theorem dX7_part_34 : decode cX7_part 34 = .ok (.getfield 12, 3) := by decide +kernel
theorem dX7_part_37 : decode cX7_part 37 = .ok (.iload_n 1, 1) := by decide +kernel
theorem dX7_part_38 : decode cX7_part 38 = .ok (.iconst 0, 1) := by decide +kernel
theorem dX7_part_39 : decode cX7_part 39 = .ok (.bipush 10, 2) := by decide +kernel
theorem dX7_part_41 : decode cX7_part 41 = .ok (.iconst (-1), 1) := by decide +kernel
theorem dX7_part_42 : decode cX7_part 42 = .ok (.invokevirtual 77, 3) := by decide +kernel
theorem dX7_part_45 : decode cX7_part 45 = .ok (.ireturn, 1) := by decide +kernel
theorem dX7_of_0 : decode cX7_of 0 = .ok (.aload_n 0, 1) := by decide +kernel
theorem dX7_of_1 : decode cX7_of 1 = .ok (.getfield 12, 3) := by decide +kernel
theorem dX7_of_4 : decode cX7_of 4 = .ok (.iload_n 2, 1) := by decide +kernel
theorem dX7_of_5 : decode cX7_of 5 = .ok (.invokevirtual 81, 3) := by decide +kernel
theorem dX7_of_8 : decode cX7_of 8 = .ok (.astore_n 3, 1) := by decide +kernel
theorem dX7_of_9 : decode cX7_of 9 = .ok (.aload_n 0, 1) := by decide +kernel
theorem dX7_of_10 : decode cX7_of 10 = .ok (.getfield 12, 3) := by decide +kernel
theorem dX7_of_13 : decode cX7_of 13 = .ok (.iload_n 1, 1) := by decide +kernel
theorem dX7_of_14 : decode cX7_of 14 = .ok (.invokevirtual 85, 3) := by decide +kernel
theorem dX7_of_17 : decode cX7_of 17 = .ok (.ifCond .eq 7, 3) := by decide +kernel
theorem dX7_of_20 : decode cX7_of 20 = .ok (.aload_n 3, 1) := by decide +kernel
theorem dX7_of_21 : decode cX7_of 21 = .ok (.ifnonnull 10, 3) := by decide +kernel
theorem dX7_of_24 : decode cX7_of 24 = .ok (.aload_n 0, 1) := by decide +kernel
theorem dX7_of_25 : decode cX7_of 25 = .ok (.ldc 67, 2) := by decide +kernel
theorem dX7_of_27 : decode cX7_of 27 = .ok (.invokevirtual 68, 3) := by decide +kernel
theorem dX7_of_30 : decode cX7_of 30 = .ok (.ireturn, 1) := by decide +kernel
theorem dX7_of_31 : decode cX7_of 31 = .ok (.aload_n 3, 1) := by decide +kernel
theorem dX7_of_32 : decode cX7_of 32 = .ok (.iload_n 1, 1) := by decide +kernel
theorem dX7_of_33 : decode cX7_of 33 = .ok (.iaload, 1) := by decide +kernel
theorem dX7_of_34 : decode cX7_of 34 = .ok (.ireturn, 1) := by decide +kernel
theorem dX7_change_0 : decode cX7_change 0 = .ok (.aload_n 0, 1) := by decide +kernel
theorem dX7_change_1 : decode cX7_change 1 = .ok (.getfield 12, 3) := by decide +kernel
theorem dX7_change_4 : decode cX7_change 4 = .ok (.iload_n 2, 1) := by decide +kernel
theorem dX7_change_5 : decode cX7_change 5 = .ok (.invokevirtual 81, 3) := by decide +kernel
theorem dX7_change_8 : decode cX7_change 8 = .ok (.astore 4, 2) := by decide +kernel
theorem dX7_change_10 : decode cX7_change 10 = .ok (.aload_n 0, 1) := by decide +kernel
theorem dX7_change_11 : decode cX7_change 11 = .ok (.getfield 12, 3) := by decide +kernel
theorem dX7_change_14 : decode cX7_change 14 = .ok (.iload_n 1, 1) := by decide +kernel
theorem dX7_change_15 : decode cX7_change 15 = .ok (.invokevirtual 85, 3) := by decide +kernel
theorem dX7_change_18 : decode cX7_change 18 = .ok (.ifCond .eq 25, 3) := by decide +kernel
theorem dX7_change_21 : decode cX7_change 21 = .ok (.aload 4, 2) := by decide +kernel
theorem dX7_change_23 : decode cX7_change 23 = .ok (.ifnull 20, 3) := by decide +kernel
theorem dX7_change_26 : decode cX7_change 26 = .ok (.iload_n 3, 1) := by decide +kernel
theorem dX7_change_27 : decode cX7_change 27 = .ok (.getstatic 88, 3) := by decide +kernel
theorem dX7_change_30 : decode cX7_change 30 = .ok (.iload_n 2, 1) := by decide +kernel
theorem dX7_change_31 : decode cX7_change 31 = .ok (.iaload, 1) := by decide +kernel
theorem dX7_change_32 : decode cX7_change 32 = .ok (.getstatic 91, 3) := by decide +kernel
theorem dX7_change_35 : decode cX7_change 35 = .ok (.iload_n 2, 1) := by decide +kernel
theorem dX7_change_36 : decode cX7_change 36 = .ok (.iaload, 1) := by decide +kernel
theorem dX7_change_37 : decode cX7_change 37 = .ok (.invokestatic 94, 3) := by decide +kernel
theorem dX7_change_40 : decode cX7_change 40 = .ok (.ifCond .ne 10, 3) := by decide +kernel
theorem dX7_change_43 : decode cX7_change 43 = .ok (.aload_n 0, 1) := by decide +kernel
theorem dX7_change_44 : decode cX7_change 44 = .ok (.ldc 67, 2) := by decide +kernel
theorem dX7_change_46 : decode cX7_change 46 = .ok (.invokevirtual 68, 3) := by decide +kernel
theorem dX7_change_49 : decode cX7_change 49 = .ok (.ireturn, 1) := by decide +kernel
theorem dX7_change_50 : decode cX7_change 50 = .ok (.aload 4, 2) := by decide +kernel
theorem dX7_change_52 : decode cX7_change 52 = .ok (.iload_n 1, 1) := by decide +kernel
theorem dX7_change_53 : decode cX7_change 53 = .ok (.iaload, 1) := by decide +kernel
theorem dX7_change_54 : decode cX7_change 54 = .ok (.istore 5, 2) := by decide +kernel
theorem dX7_change_56 : decode cX7_change 56 = .ok (.aload 4, 2) := by decide +kernel
theorem dX7_change_58 : decode cX7_change 58 = .ok (.iload_n 1, 1) := by decide +kernel
theorem dX7_change_59 : decode cX7_change 59 = .ok (.iload_n 3, 1) := by decide +kernel
theorem dX7_change_60 : decode cX7_change 60 = .ok (.iastore, 1) := by decide +kernel
theorem dX7_change_61 : decode cX7_change 61 = .ok (.iload 5, 2) := by decide +kernel
theorem dX7_change_63 : decode cX7_change 63 = .ok (.ireturn, 1) := by decide +kernel
theorem dX7_face_0 : decode cX7_face 0 = .ok (.iload_n 1, 1) := by decide +kernel
theorem dX7_face_1 : decode cX7_face 1 = .ok (.invokestatic 98, 3) := by decide +kernel
theorem dX7_face_4 : decode cX7_face 4 = .ok (.ifCond .eq 32, 3) := by decide +kernel
theorem dX7_face_7 : decode cX7_face 7 = .ok (.iload_n 2, 1) := by decide +kernel
theorem dX7_face_8 : decode cX7_face 8 = .ok (.iconst 0, 1) := by decide +kernel
theorem dX7_face_9 : decode cX7_face 9 = .ok (.iconst 1, 1) := by decide +kernel
theorem dX7_face_10 : decode cX7_face 10 = .ok (.invokestatic 94, 3) := by decide +kernel
theorem dX7_face_13 : decode cX7_face 13 = .ok (.ifCond .eq 23, 3) := by decide +kernel
theorem dX7_face_16 : decode cX7_face 16 = .ok (.iload_n 3, 1) := by decide +kernel
theorem dX7_face_17 : decode cX7_face 17 = .ok (.iconst 0, 1) := by decide +kernel
theorem dX7_face_18 : decode cX7_face 18 = .ok (.iload_n 2, 1) := by decide +kernel
theorem dX7_face_19 : decode cX7_face 19 = .ok (.ifCond .ne 9, 3) := by decide +kernel
theorem dX7_face_22 : decode cX7_face 22 = .ok (.sipush 255, 3) := by decide +kernel
theorem dX7_face_25 : decode cX7_face 25 = .ok (.goto 5, 3) := by decide +kernel
theorem dX7_face_28 : decode cX7_face 28 = .ok (.bipush 99, 2) := by decide +kernel
theorem dX7_face_30 : decode cX7_face 30 = .ok (.invokestatic 94, 3) := by decide +kernel
theorem dX7_face_33 : decode cX7_face 33 = .ok (.ifCond .ne 10, 3) := by decide +kernel
theorem dX7_face_36 : decode cX7_face 36 = .ok (.aload_n 0, 1) := by decide +kernel
theorem dX7_face_37 : decode cX7_face 37 = .ok (.ldc 67, 2) := by decide +kernel
theorem dX7_face_39 : decode cX7_face 39 = .ok (.invokevirtual 68, 3) := by decide +kernel
theorem dX7_face_42 : decode cX7_face 42 = .ok (.ireturn, 1) := by decide +kernel
theorem dX7_face_43 : decode cX7_face 43 = .ok (.iload_n 2, 1) := by decide +kernel
theorem dX7_face_44 : decode cX7_face 44 = .ok (.ifCond .ne 13, 3) := by decide +kernel
theorem dX7_face_47 : decode cX7_face 47 = .ok (.aload_n 0, 1) := by decide +kernel
theorem dX7_face_48 : decode cX7_face 48 = .ok (.getfield 12, 3) := by decide +kernel
theorem dX7_face_51 : decode cX7_face 51 = .ok (.getfield 101, 3) := by decide +kernel
theorem dX7_face_54 : decode cX7_face 54 = .ok (.goto 10, 3) := by decide +kernel
theorem dX7_face_57 : decode cX7_face 57 = .ok (.aload_n 0, 1) := by decide +kernel
theorem dX7_face_58 : decode cX7_face 58 = .ok (.getfield 12, 3) := by decide +kernel
theorem dX7_face_61 : decode cX7_face 61 = .ok (.getfield 104, 3) := by decide +kernel
theorem dX7_face_64 : decode cX7_face 64 = .ok (.astore 4, 2) := by decide +kernel
theorem dX7_face_66 : decode cX7_face 66 = .ok (.aload 4, 2) := by decide +kernel
theorem dX7_face_68 : decode cX7_face 68 = .ok (.iload_n 1, 1) := by decide +kernel
theorem dX7_face_69 : decode cX7_face 69 = .ok (.iaload, 1) := by decide +kernel
theorem dX7_face_70 : decode cX7_face 70 = .ok (.istore 5, 2) := by decide +kernel
theorem dX7_face_72 : decode cX7_face 72 = .ok (.aload 4, 2) := by decide +kernel
theorem dX7_face_74 : decode cX7_face 74 = .ok (.iload_n 1, 1) := by decide +kernel
theorem dX7_face_75 : decode cX7_face 75 = .ok (.iload_n 3, 1) := by decide +kernel
theorem dX7_face_76 : decode cX7_face 76 = .ok (.iastore, 1) := by decide +kernel
theorem dX7_face_77 : decode cX7_face 77 = .ok (.iload 5, 2) := by decide +kernel
theorem dX7_face_79 : decode cX7_face 79 = .ok (.ireturn, 1) := by decide +kernel
theorem dX7_show_0 : decode cX7_show 0 = .ok (.iload_n 1, 1) := by decide +kernel
theorem dX7_show_1 : decode cX7_show 1 = .ok (.invokestatic 107, 3) := by decide +kernel
theorem dX7_show_4 : decode cX7_show 4 = .ok (.ifCond .eq 15, 3) := by decide +kernel
theorem dX7_show_7 : decode cX7_show 7 = .ok (.iload_n 2, 1) := by decide +kernel
theorem dX7_show_8 : decode cX7_show 8 = .ok (.invokestatic 98, 3) := by decide +kernel
theorem dX7_show_11 : decode cX7_show 11 = .ok (.ifCond .ne 15, 3) := by decide +kernel
theorem dX7_show_14 : decode cX7_show 14 = .ok (.iload_n 2, 1) := by decide +kernel
theorem dX7_show_15 : decode cX7_show 15 = .ok (.iconst (-1), 1) := by decide +kernel
theorem dX7_show_16 : decode cX7_show 16 = .ok (.if_icmp .eq 10, 3) := by decide +kernel
theorem dX7_show_19 : decode cX7_show 19 = .ok (.aload_n 0, 1) := by decide +kernel
theorem dX7_show_20 : decode cX7_show 20 = .ok (.ldc 67, 2) := by decide +kernel
theorem dX7_show_22 : decode cX7_show 22 = .ok (.invokevirtual 68, 3) := by decide +kernel
theorem dX7_show_25 : decode cX7_show 25 = .ok (.ireturn, 1) := by decide +kernel
theorem dX7_show_26 : decode cX7_show 26 = .ok (.aload_n 0, 1) := by decide +kernel
theorem dX7_show_27 : decode cX7_show 27 = .ok (.getfield 12, 3) := by decide +kernel
theorem dX7_show_30 : decode cX7_show 30 = .ok (.getfield 110, 3) := by decide +kernel
theorem dX7_show_33 : decode cX7_show 33 = .ok (.iload_n 1, 1) := by decide +kernel
theorem dX7_show_34 : decode cX7_show 34 = .ok (.iaload, 1) := by decide +kernel
theorem dX7_show_35 : decode cX7_show 35 = .ok (.istore_n 3, 1) := by decide +kernel
theorem dX7_show_36 : decode cX7_show 36 = .ok (.aload_n 0, 1) := by decide +kernel
theorem dX7_show_37 : decode cX7_show 37 = .ok (.getfield 12, 3) := by decide +kernel
theorem dX7_show_40 : decode cX7_show 40 = .ok (.getfield 110, 3) := by decide +kernel
theorem dX7_show_43 : decode cX7_show 43 = .ok (.iload_n 1, 1) := by decide +kernel
theorem dX7_show_44 : decode cX7_show 44 = .ok (.iload_n 2, 1) := by decide +kernel
theorem dX7_show_45 : decode cX7_show 45 = .ok (.iastore, 1) := by decide +kernel
theorem dX7_show_46 : decode cX7_show 46 = .ok (.iload_n 3, 1) := by decide +kernel
theorem dX7_show_47 : decode cX7_show 47 = .ok (.ireturn, 1) := by decide +kernel
theorem dX7_pace_0 : decode cX7_pace 0 = .ok (.iload_n 1, 1) := by decide +kernel
theorem dX7_pace_1 : decode cX7_pace 1 = .ok (.iconst 1, 1) := by decide +kernel
theorem dX7_pace_2 : decode cX7_pace 2 = .ok (.bipush 20, 2) := by decide +kernel
theorem dX7_pace_4 : decode cX7_pace 4 = .ok (.invokestatic 94, 3) := by decide +kernel
theorem dX7_pace_7 : decode cX7_pace 7 = .ok (.ifCond .ne 10, 3) := by decide +kernel
theorem dX7_pace_10 : decode cX7_pace 10 = .ok (.aload_n 0, 1) := by decide +kernel
theorem dX7_pace_11 : decode cX7_pace 11 = .ok (.ldc 67, 2) := by decide +kernel
theorem dX7_pace_13 : decode cX7_pace 13 = .ok (.invokevirtual 68, 3) := by decide +kernel
theorem dX7_pace_16 : decode cX7_pace 16 = .ok (.ireturn, 1) := by decide +kernel
theorem dX7_pace_17 : decode cX7_pace 17 = .ok (.aload_n 0, 1) := by decide +kernel
theorem dX7_pace_18 : decode cX7_pace 18 = .ok (.getfield 12, 3) := by decide +kernel
theorem dX7_pace_21 : decode cX7_pace 21 = .ok (.getfield 113, 3) := by decide +kernel
theorem dX7_pace_24 : decode cX7_pace 24 = .ok (.istore_n 2, 1) := by decide +kernel
theorem dX7_pace_25 : decode cX7_pace 25 = .ok (.aload_n 0, 1) := by decide +kernel
theorem dX7_pace_26 : decode cX7_pace 26 = .ok (.getfield 12, 3) := by decide +kernel
theorem dX7_pace_29 : decode cX7_pace 29 = .ok (.iload_n 1, 1) := by decide +kernel
theorem dX7_pace_30 : decode cX7_pace 30 = .ok (.putfield 113, 3) := by decide +kernel
theorem dX7_pace_33 : decode cX7_pace 33 = .ok (.iload_n 2, 1) := by decide +kernel
theorem dX7_pace_34 : decode cX7_pace 34 = .ok (.ireturn, 1) := by decide +kernel
theorem dX7_room_0 : decode cX7_room 0 = .ok (.iload_n 1, 1) := by decide +kernel
theorem dX7_room_1 : decode cX7_room 1 = .ok (.invokestatic 107, 3) := by decide +kernel
theorem dX7_room_4 : decode cX7_room 4 = .ok (.ifCond .ne 10, 3) := by decide +kernel
theorem dX7_room_7 : decode cX7_room 7 = .ok (.aload_n 0, 1) := by decide +kernel
theorem dX7_room_8 : decode cX7_room 8 = .ok (.ldc 67, 2) := by decide +kernel
theorem dX7_room_10 : decode cX7_room 10 = .ok (.invokevirtual 68, 3) := by decide +kernel
theorem dX7_room_13 : decode cX7_room 13 = .ok (.ireturn, 1) := by decide +kernel
theorem dX7_room_14 : decode cX7_room 14 = .ok (.iload_n 2, 1) := by decide +kernel
theorem dX7_room_15 : decode cX7_room 15 = .ok (.tableswitch 66 0 3 #[29, 39, 48, 57], 29) := by decide +kernel
theorem dX7_room_44 : decode cX7_room 44 = .ok (.aload_n 0, 1) := by decide +kernel
theorem dX7_room_45 : decode cX7_room 45 = .ok (.getfield 12, 3) := by decide +kernel
theorem dX7_room_48 : decode cX7_room 48 = .ok (.getfield 110, 3) := by decide +kernel
theorem dX7_room_51 : decode cX7_room 51 = .ok (.iload_n 1, 1) := by decide +kernel
theorem dX7_room_52 : decode cX7_room 52 = .ok (.iaload, 1) := by decide +kernel
theorem dX7_room_53 : decode cX7_room 53 = .ok (.ireturn, 1) := by decide +kernel
theorem dX7_room_54 : decode cX7_room 54 = .ok (.aload_n 0, 1) := by decide +kernel
theorem dX7_room_55 : decode cX7_room 55 = .ok (.getfield 12, 3) := by decide +kernel
theorem dX7_room_58 : decode cX7_room 58 = .ok (.iload_n 1, 1) := by decide +kernel
theorem dX7_room_59 : decode cX7_room 59 = .ok (.invokevirtual 116, 3) := by decide +kernel
theorem dX7_room_62 : decode cX7_room 62 = .ok (.ireturn, 1) := by decide +kernel
theorem dX7_room_63 : decode cX7_room 63 = .ok (.aload_n 0, 1) := by decide +kernel
theorem dX7_room_64 : decode cX7_room 64 = .ok (.getfield 12, 3) := by decide +kernel
theorem dX7_room_67 : decode cX7_room 67 = .ok (.iload_n 1, 1) := by decide +kernel
theorem dX7_room_68 : decode cX7_room 68 = .ok (.invokevirtual 119, 3) := by decide +kernel
theorem dX7_room_71 : decode cX7_room 71 = .ok (.ireturn, 1) := by decide +kernel
theorem dX7_room_72 : decode cX7_room 72 = .ok (.aload_n 0, 1) := by decide +kernel
theorem dX7_room_73 : decode cX7_room 73 = .ok (.getfield 12, 3) := by decide +kernel
theorem dX7_room_76 : decode cX7_room 76 = .ok (.iload_n 1, 1) := by decide +kernel
theorem dX7_room_77 : decode cX7_room 77 = .ok (.invokevirtual 122, 3) := by decide +kernel
theorem dX7_room_80 : decode cX7_room 80 = .ok (.ireturn, 1) := by decide +kernel
theorem dX7_room_81 : decode cX7_room 81 = .ok (.aload_n 0, 1) := by decide +kernel
theorem dX7_room_82 : decode cX7_room 82 = .ok (.ldc 67, 2) := by decide +kernel
theorem dX7_room_84 : decode cX7_room 84 = .ok (.invokevirtual 68, 3) := by decide +kernel
theorem dX7_room_87 : decode cX7_room 87 = .ok (.ireturn, 1) := by decide +kernel
theorem dX7_like_0 : decode cX7_like 0 = .ok (.aload_n 0, 1) := by decide +kernel
theorem dX7_like_1 : decode cX7_like 1 = .ok (.getfield 12, 3) := by decide +kernel
theorem dX7_like_4 : decode cX7_like 4 = .ok (.iload_n 1, 1) := by decide +kernel
theorem dX7_like_5 : decode cX7_like 5 = .ok (.invokevirtual 85, 3) := by decide +kernel
theorem dX7_like_8 : decode cX7_like 8 = .ok (.ifCond .eq 10, 3) := by decide +kernel
theorem dX7_like_11 : decode cX7_like 11 = .ok (.iload_n 2, 1) := by decide +kernel
theorem dX7_like_12 : decode cX7_like 12 = .ok (.invokestatic 98, 3) := by decide +kernel
theorem dX7_like_15 : decode cX7_like 15 = .ok (.ifCond .ne 10, 3) := by decide +kernel
theorem dX7_like_18 : decode cX7_like 18 = .ok (.aload_n 0, 1) := by decide +kernel
theorem dX7_like_19 : decode cX7_like 19 = .ok (.ldc 67, 2) := by decide +kernel
theorem dX7_like_21 : decode cX7_like 21 = .ok (.invokevirtual 68, 3) := by decide +kernel
theorem dX7_like_24 : decode cX7_like 24 = .ok (.ireturn, 1) := by decide +kernel
theorem dX7_like_25 : decode cX7_like 25 = .ok (.aload_n 0, 1) := by decide +kernel
theorem dX7_like_26 : decode cX7_like 26 = .ok (.getfield 12, 3) := by decide +kernel
theorem dX7_like_29 : decode cX7_like 29 = .ok (.iload_n 1, 1) := by decide +kernel
theorem dX7_like_30 : decode cX7_like 30 = .ok (.iload_n 2, 1) := by decide +kernel
theorem dX7_like_31 : decode cX7_like 31 = .ok (.invokevirtual 125, 3) := by decide +kernel
theorem dX7_like_34 : decode cX7_like 34 = .ok (.ireturn, 1) := by decide +kernel
theorem dX7_carries_0 : decode cX7_carries 0 = .ok (.aload_n 0, 1) := by decide +kernel
theorem dX7_carries_1 : decode cX7_carries 1 = .ok (.getfield 12, 3) := by decide +kernel
theorem dX7_carries_4 : decode cX7_carries 4 = .ok (.iload_n 1, 1) := by decide +kernel
theorem dX7_carries_5 : decode cX7_carries 5 = .ok (.invokevirtual 85, 3) := by decide +kernel
theorem dX7_carries_8 : decode cX7_carries 8 = .ok (.ifCond .eq 10, 3) := by decide +kernel
theorem dX7_carries_11 : decode cX7_carries 11 = .ok (.iload_n 2, 1) := by decide +kernel
theorem dX7_carries_12 : decode cX7_carries 12 = .ok (.invokestatic 129, 3) := by decide +kernel
theorem dX7_carries_15 : decode cX7_carries 15 = .ok (.ifCond .ne 10, 3) := by decide +kernel
theorem dX7_carries_18 : decode cX7_carries 18 = .ok (.aload_n 0, 1) := by decide +kernel
theorem dX7_carries_19 : decode cX7_carries 19 = .ok (.ldc 67, 2) := by decide +kernel
theorem dX7_carries_21 : decode cX7_carries 21 = .ok (.invokevirtual 68, 3) := by decide +kernel
theorem dX7_carries_24 : decode cX7_carries 24 = .ok (.ireturn, 1) := by decide +kernel
theorem dX7_carries_25 : decode cX7_carries 25 = .ok (.aload_n 0, 1) := by decide +kernel
theorem dX7_carries_26 : decode cX7_carries 26 = .ok (.getfield 12, 3) := by decide +kernel
theorem dX7_carries_29 : decode cX7_carries 29 = .ok (.getfield 132, 3) := by decide +kernel
theorem dX7_carries_32 : decode cX7_carries 32 = .ok (.iload_n 1, 1) := by decide +kernel
theorem dX7_carries_33 : decode cX7_carries 33 = .ok (.iaload, 1) := by decide +kernel
theorem dX7_carries_34 : decode cX7_carries 34 = .ok (.iload_n 2, 1) := by decide +kernel
theorem dX7_carries_35 : decode cX7_carries 35 = .ok (.if_icmp .ne 10, 3) := by decide +kernel
theorem dX7_carries_38 : decode cX7_carries 38 = .ok (.aload_n 0, 1) := by decide +kernel
theorem dX7_carries_39 : decode cX7_carries 39 = .ok (.ldc 135, 2) := by decide +kernel
theorem dX7_carries_41 : decode cX7_carries 41 = .ok (.invokevirtual 68, 3) := by decide +kernel
theorem dX7_carries_44 : decode cX7_carries 44 = .ok (.ireturn, 1) := by decide +kernel
theorem dX7_carries_45 : decode cX7_carries 45 = .ok (.aload_n 0, 1) := by decide +kernel
theorem dX7_carries_46 : decode cX7_carries 46 = .ok (.getfield 12, 3) := by decide +kernel
theorem dX7_carries_49 : decode cX7_carries 49 = .ok (.iload_n 1, 1) := by decide +kernel
theorem dX7_carries_50 : decode cX7_carries 50 = .ok (.iload_n 2, 1) := by decide +kernel
theorem dX7_carries_51 : decode cX7_carries 51 = .ok (.invokevirtual 136, 3) := by decide +kernel
theorem dX7_carries_54 : decode cX7_carries 54 = .ok (.ireturn, 1) := by decide +kernel
theorem dX7_visitor_0 : decode cX7_visitor 0 = .ok (.aload_n 0, 1) := by decide +kernel
theorem dX7_visitor_1 : decode cX7_visitor 1 = .ok (.getfield 12, 3) := by decide +kernel
theorem dX7_visitor_4 : decode cX7_visitor 4 = .ok (.getfield 139, 3) := by decide +kernel
theorem dX7_visitor_7 : decode cX7_visitor 7 = .ok (.iconst 4, 1) := by decide +kernel
theorem dX7_visitor_8 : decode cX7_visitor 8 = .ok (.if_icmp .lt 10, 3) := by decide +kernel
theorem dX7_visitor_11 : decode cX7_visitor 11 = .ok (.aload_n 0, 1) := by decide +kernel
theorem dX7_visitor_12 : decode cX7_visitor 12 = .ok (.ldc 76, 2) := by decide +kernel
theorem dX7_visitor_14 : decode cX7_visitor 14 = .ok (.invokevirtual 68, 3) := by decide +kernel
theorem dX7_visitor_17 : decode cX7_visitor 17 = .ok (.ireturn, 1) := by decide +kernel
theorem dX7_visitor_18 : decode cX7_visitor 18 = .ok (.aload_n 0, 1) := by decide +kernel
theorem dX7_visitor_19 : decode cX7_visitor 19 = .ok (.getfield 12, 3) := by decide +kernel
theorem dX7_visitor_22 : decode cX7_visitor 22 = .ok (.invokevirtual 142, 3) := by decide +kernel
theorem dX7_visitor_25 : decode cX7_visitor 25 = .ok (.ireturn, 1) := by decide +kernel
theorem dX7_seen_0 : decode cX7_seen 0 = .ok (.aload_n 0, 1) := by decide +kernel
theorem dX7_seen_1 : decode cX7_seen 1 = .ok (.getfield 12, 3) := by decide +kernel
theorem dX7_seen_4 : decode cX7_seen 4 = .ok (.iload_n 1, 1) := by decide +kernel
theorem dX7_seen_5 : decode cX7_seen 5 = .ok (.invokevirtual 146, 3) := by decide +kernel
theorem dX7_seen_8 : decode cX7_seen 8 = .ok (.ifCond .ne 10, 3) := by decide +kernel
theorem dX7_seen_11 : decode cX7_seen 11 = .ok (.aload_n 0, 1) := by decide +kernel
theorem dX7_seen_12 : decode cX7_seen 12 = .ok (.ldc 67, 2) := by decide +kernel
theorem dX7_seen_14 : decode cX7_seen 14 = .ok (.invokevirtual 68, 3) := by decide +kernel
theorem dX7_seen_17 : decode cX7_seen 17 = .ok (.ireturn, 1) := by decide +kernel
theorem dX7_seen_18 : decode cX7_seen 18 = .ok (.iload_n 2, 1) := by decide +kernel
theorem dX7_seen_19 : decode cX7_seen 19 = .ok (.tableswitch 54 0 2 #[25, 34, 44], 25) := by decide +kernel
theorem dX7_seen_44 : decode cX7_seen 44 = .ok (.aload_n 0, 1) := by decide +kernel
theorem dX7_seen_45 : decode cX7_seen 45 = .ok (.getfield 12, 3) := by decide +kernel
theorem dX7_seen_48 : decode cX7_seen 48 = .ok (.iload_n 1, 1) := by decide +kernel
theorem dX7_seen_49 : decode cX7_seen 49 = .ok (.invokevirtual 149, 3) := by decide +kernel
theorem dX7_seen_52 : decode cX7_seen 52 = .ok (.ireturn, 1) := by decide +kernel
theorem dX7_seen_53 : decode cX7_seen 53 = .ok (.aload_n 0, 1) := by decide +kernel
theorem dX7_seen_54 : decode cX7_seen 54 = .ok (.getfield 12, 3) := by decide +kernel
theorem dX7_seen_57 : decode cX7_seen 57 = .ok (.iload_n 1, 1) := by decide +kernel
theorem dX7_seen_58 : decode cX7_seen 58 = .ok (.iconst 1, 1) := by decide +kernel
theorem dX7_seen_59 : decode cX7_seen 59 = .ok (.invokevirtual 152, 3) := by decide +kernel
theorem dX7_seen_62 : decode cX7_seen 62 = .ok (.ireturn, 1) := by decide +kernel
theorem dX7_seen_63 : decode cX7_seen 63 = .ok (.aload_n 0, 1) := by decide +kernel
theorem dX7_seen_64 : decode cX7_seen 64 = .ok (.getfield 12, 3) := by decide +kernel
theorem dX7_seen_67 : decode cX7_seen 67 = .ok (.iload_n 1, 1) := by decide +kernel
theorem dX7_seen_68 : decode cX7_seen 68 = .ok (.iconst 2, 1) := by decide +kernel
theorem dX7_seen_69 : decode cX7_seen 69 = .ok (.invokevirtual 152, 3) := by decide +kernel
theorem dX7_seen_72 : decode cX7_seen 72 = .ok (.ireturn, 1) := by decide +kernel
theorem dX7_seen_73 : decode cX7_seen 73 = .ok (.aload_n 0, 1) := by decide +kernel
theorem dX7_seen_74 : decode cX7_seen 74 = .ok (.ldc 67, 2) := by decide +kernel
theorem dX7_seen_76 : decode cX7_seen 76 = .ok (.invokevirtual 68, 3) := by decide +kernel
theorem dX7_seen_79 : decode cX7_seen 79 = .ok (.ireturn, 1) := by decide +kernel
theorem dX7_move_0 : decode cX7_move 0 = .ok (.aload_n 0, 1) := by decide +kernel
theorem dX7_move_1 : decode cX7_move 1 = .ok (.getfield 12, 3) := by decide +kernel
theorem dX7_move_4 : decode cX7_move 4 = .ok (.iload_n 1, 1) := by decide +kernel
theorem dX7_move_5 : decode cX7_move 5 = .ok (.invokevirtual 85, 3) := by decide +kernel
theorem dX7_move_8 : decode cX7_move 8 = .ok (.ifCond .eq 10, 3) := by decide +kernel
theorem dX7_move_11 : decode cX7_move 11 = .ok (.iload_n 2, 1) := by decide +kernel
theorem dX7_move_12 : decode cX7_move 12 = .ok (.invokestatic 129, 3) := by decide +kernel
theorem dX7_move_15 : decode cX7_move 15 = .ok (.ifCond .ne 10, 3) := by decide +kernel
theorem dX7_move_18 : decode cX7_move 18 = .ok (.aload_n 0, 1) := by decide +kernel
theorem dX7_move_19 : decode cX7_move 19 = .ok (.ldc 67, 2) := by decide +kernel
theorem dX7_move_21 : decode cX7_move 21 = .ok (.invokevirtual 68, 3) := by decide +kernel
theorem dX7_move_24 : decode cX7_move 24 = .ok (.ireturn, 1) := by decide +kernel
theorem dX7_move_25 : decode cX7_move 25 = .ok (.aload_n 0, 1) := by decide +kernel
theorem dX7_move_26 : decode cX7_move 26 = .ok (.getfield 12, 3) := by decide +kernel
theorem dX7_move_29 : decode cX7_move 29 = .ok (.getfield 132, 3) := by decide +kernel
theorem dX7_move_32 : decode cX7_move 32 = .ok (.iload_n 1, 1) := by decide +kernel
theorem dX7_move_33 : decode cX7_move 33 = .ok (.iaload, 1) := by decide +kernel
theorem dX7_move_34 : decode cX7_move 34 = .ok (.iload_n 2, 1) := by decide +kernel
theorem dX7_move_35 : decode cX7_move 35 = .ok (.if_icmp .eq 26, 3) := by decide +kernel
theorem dX7_move_38 : decode cX7_move 38 = .ok (.aload_n 0, 1) := by decide +kernel
theorem dX7_move_39 : decode cX7_move 39 = .ok (.getfield 12, 3) := by decide +kernel
theorem dX7_move_42 : decode cX7_move 42 = .ok (.getfield 155, 3) := by decide +kernel
theorem dX7_move_45 : decode cX7_move 45 = .ok (.aload_n 0, 1) := by decide +kernel
theorem dX7_move_46 : decode cX7_move 46 = .ok (.getfield 12, 3) := by decide +kernel
theorem dX7_move_49 : decode cX7_move 49 = .ok (.iload_n 1, 1) := by decide +kernel
theorem dX7_move_50 : decode cX7_move 50 = .ok (.iload_n 2, 1) := by decide +kernel
theorem dX7_move_51 : decode cX7_move 51 = .ok (.invokevirtual 136, 3) := by decide +kernel
theorem dX7_move_54 : decode cX7_move 54 = .ok (.iadd, 1) := by decide +kernel
theorem dX7_move_55 : decode cX7_move 55 = .ok (.sipush 9999, 3) := by decide +kernel
theorem dX7_move_58 : decode cX7_move 58 = .ok (.if_icmp .le 10, 3) := by decide +kernel
theorem dX7_move_61 : decode cX7_move 61 = .ok (.aload_n 0, 1) := by decide +kernel
theorem dX7_move_62 : decode cX7_move 62 = .ok (.ldc 135, 2) := by decide +kernel
theorem dX7_move_64 : decode cX7_move 64 = .ok (.invokevirtual 68, 3) := by decide +kernel
theorem dX7_move_67 : decode cX7_move 67 = .ok (.ireturn, 1) := by decide +kernel
theorem dX7_move_68 : decode cX7_move 68 = .ok (.aload_n 0, 1) := by decide +kernel
theorem dX7_move_69 : decode cX7_move 69 = .ok (.getfield 12, 3) := by decide +kernel
theorem dX7_move_72 : decode cX7_move 72 = .ok (.iload_n 1, 1) := by decide +kernel
theorem dX7_move_73 : decode cX7_move 73 = .ok (.iload_n 2, 1) := by decide +kernel
theorem dX7_move_74 : decode cX7_move 74 = .ok (.invokevirtual 158, 3) := by decide +kernel
theorem dX7_move_77 : decode cX7_move 77 = .ok (.aload_n 0, 1) := by decide +kernel
theorem dX7_move_78 : decode cX7_move 78 = .ok (.getfield 12, 3) := by decide +kernel
theorem dX7_move_81 : decode cX7_move 81 = .ok (.getfield 155, 3) := by decide +kernel
theorem dX7_move_84 : decode cX7_move 84 = .ok (.ireturn, 1) := by decide +kernel
theorem dX7_waits_0 : decode cX7_waits 0 = .ok (.iload_n 1, 1) := by decide +kernel
theorem dX7_waits_1 : decode cX7_waits 1 = .ok (.iconst 1, 1) := by decide +kernel
theorem dX7_waits_2 : decode cX7_waits 2 = .ok (.bipush 60, 2) := by decide +kernel
theorem dX7_waits_4 : decode cX7_waits 4 = .ok (.invokestatic 94, 3) := by decide +kernel
theorem dX7_waits_7 : decode cX7_waits 7 = .ok (.ifCond .ne 10, 3) := by decide +kernel
theorem dX7_waits_10 : decode cX7_waits 10 = .ok (.aload_n 0, 1) := by decide +kernel
theorem dX7_waits_11 : decode cX7_waits 11 = .ok (.ldc 67, 2) := by decide +kernel
theorem dX7_waits_13 : decode cX7_waits 13 = .ok (.invokevirtual 68, 3) := by decide +kernel
theorem dX7_waits_16 : decode cX7_waits 16 = .ok (.ireturn, 1) := by decide +kernel
theorem dX7_waits_17 : decode cX7_waits 17 = .ok (.aload_n 0, 1) := by decide +kernel
theorem dX7_waits_18 : decode cX7_waits 18 = .ok (.getfield 12, 3) := by decide +kernel
theorem dX7_waits_21 : decode cX7_waits 21 = .ok (.getfield 155, 3) := by decide +kernel
theorem dX7_waits_24 : decode cX7_waits 24 = .ok (.iload_n 1, 1) := by decide +kernel
theorem dX7_waits_25 : decode cX7_waits 25 = .ok (.iadd, 1) := by decide +kernel
theorem dX7_waits_26 : decode cX7_waits 26 = .ok (.sipush 9999, 3) := by decide +kernel
theorem dX7_waits_29 : decode cX7_waits 29 = .ok (.if_icmp .le 10, 3) := by decide +kernel
theorem dX7_waits_32 : decode cX7_waits 32 = .ok (.aload_n 0, 1) := by decide +kernel
theorem dX7_waits_33 : decode cX7_waits 33 = .ok (.ldc 135, 2) := by decide +kernel
theorem dX7_waits_35 : decode cX7_waits 35 = .ok (.invokevirtual 68, 3) := by decide +kernel
theorem dX7_waits_38 : decode cX7_waits 38 = .ok (.ireturn, 1) := by decide +kernel
theorem dX7_waits_39 : decode cX7_waits 39 = .ok (.aload_n 0, 1) := by decide +kernel
theorem dX7_waits_40 : decode cX7_waits 40 = .ok (.getfield 12, 3) := by decide +kernel
theorem dX7_waits_43 : decode cX7_waits 43 = .ok (.iload_n 1, 1) := by decide +kernel
theorem dX7_waits_44 : decode cX7_waits 44 = .ok (.invokevirtual 162, 3) := by decide +kernel
theorem dX7_waits_47 : decode cX7_waits 47 = .ok (.aload_n 0, 1) := by decide +kernel
theorem dX7_waits_48 : decode cX7_waits 48 = .ok (.getfield 12, 3) := by decide +kernel
theorem dX7_waits_51 : decode cX7_waits 51 = .ok (.invokevirtual 166, 3) := by decide +kernel
theorem dX7_waits_54 : decode cX7_waits 54 = .ok (.invokestatic 169, 3) := by decide +kernel
theorem dX7_waits_57 : decode cX7_waits 57 = .ok (.ireturn, 1) := by decide +kernel
theorem dX7_now_0 : decode cX7_now 0 = .ok (.iload_n 1, 1) := by decide +kernel
theorem dX7_now_1 : decode cX7_now 1 = .ok (.tableswitch 88 0 5 #[39, 47, 55, 63, 71, 80], 39) := by decide +kernel
theorem dX7_now_40 : decode cX7_now 40 = .ok (.aload_n 0, 1) := by decide +kernel
theorem dX7_now_41 : decode cX7_now 41 = .ok (.getfield 12, 3) := by decide +kernel
theorem dX7_now_44 : decode cX7_now 44 = .ok (.getfield 155, 3) := by decide +kernel
theorem dX7_now_47 : decode cX7_now 47 = .ok (.ireturn, 1) := by decide +kernel
theorem dX7_now_48 : decode cX7_now 48 = .ok (.aload_n 0, 1) := by decide +kernel
theorem dX7_now_49 : decode cX7_now 49 = .ok (.getfield 12, 3) := by decide +kernel
theorem dX7_now_52 : decode cX7_now 52 = .ok (.getfield 113, 3) := by decide +kernel
theorem dX7_now_55 : decode cX7_now 55 = .ok (.ireturn, 1) := by decide +kernel
theorem dX7_now_56 : decode cX7_now 56 = .ok (.aload_n 0, 1) := by decide +kernel
theorem dX7_now_57 : decode cX7_now 57 = .ok (.getfield 12, 3) := by decide +kernel
theorem dX7_now_60 : decode cX7_now 60 = .ok (.invokevirtual 174, 3) := by decide +kernel
theorem dX7_now_63 : decode cX7_now 63 = .ok (.ireturn, 1) := by decide +kernel
theorem dX7_now_64 : decode cX7_now 64 = .ok (.aload_n 0, 1) := by decide +kernel
theorem dX7_now_65 : decode cX7_now 65 = .ok (.getfield 12, 3) := by decide +kernel
theorem dX7_now_68 : decode cX7_now 68 = .ok (.invokevirtual 177, 3) := by decide +kernel
theorem dX7_now_71 : decode cX7_now 71 = .ok (.ireturn, 1) := by decide +kernel
theorem dX7_now_72 : decode cX7_now 72 = .ok (.aload_n 0, 1) := by decide +kernel
theorem dX7_now_73 : decode cX7_now 73 = .ok (.getfield 12, 3) := by decide +kernel
theorem dX7_now_76 : decode cX7_now 76 = .ok (.iconst (-1), 1) := by decide +kernel
theorem dX7_now_77 : decode cX7_now 77 = .ok (.invokevirtual 116, 3) := by decide +kernel
theorem dX7_now_80 : decode cX7_now 80 = .ok (.ireturn, 1) := by decide +kernel
theorem dX7_now_81 : decode cX7_now 81 = .ok (.aload_n 0, 1) := by decide +kernel
theorem dX7_now_82 : decode cX7_now 82 = .ok (.getfield 12, 3) := by decide +kernel
theorem dX7_now_85 : decode cX7_now 85 = .ok (.invokevirtual 166, 3) := by decide +kernel
theorem dX7_now_88 : decode cX7_now 88 = .ok (.ireturn, 1) := by decide +kernel
theorem dX7_now_89 : decode cX7_now 89 = .ok (.aload_n 0, 1) := by decide +kernel
theorem dX7_now_90 : decode cX7_now 90 = .ok (.ldc 67, 2) := by decide +kernel
theorem dX7_now_92 : decode cX7_now 92 = .ok (.invokevirtual 68, 3) := by decide +kernel
theorem dX7_now_95 : decode cX7_now 95 = .ok (.ireturn, 1) := by decide +kernel
theorem dX7_most_0 : decode cX7_most 0 = .ok (.aload_n 0, 1) := by decide +kernel
theorem dX7_most_1 : decode cX7_most 1 = .ok (.getfield 25, 3) := by decide +kernel
theorem dX7_most_4 : decode cX7_most 4 = .ok (.aload_n 0, 1) := by decide +kernel
theorem dX7_most_5 : decode cX7_most 5 = .ok (.getfield 12, 3) := by decide +kernel
theorem dX7_most_8 : decode cX7_most 8 = .ok (.invokevirtual 180, 3) := by decide +kernel
theorem dX7_most_11 : decode cX7_most 11 = .ok (.ireturn, 1) := by decide +kernel
theorem dX7_given_0 : decode cX7_given 0 = .ok (.iload_n 1, 1) := by decide +kernel
theorem dX7_given_1 : decode cX7_given 1 = .ok (.invokestatic 107, 3) := by decide +kernel
theorem dX7_given_4 : decode cX7_given 4 = .ok (.ifCond .ne 10, 3) := by decide +kernel
theorem dX7_given_7 : decode cX7_given 7 = .ok (.aload_n 0, 1) := by decide +kernel
theorem dX7_given_8 : decode cX7_given 8 = .ok (.ldc 67, 2) := by decide +kernel
theorem dX7_given_10 : decode cX7_given 10 = .ok (.invokevirtual 68, 3) := by decide +kernel
theorem dX7_given_13 : decode cX7_given 13 = .ok (.ireturn, 1) := by decide +kernel
theorem dX7_given_14 : decode cX7_given 14 = .ok (.aload_n 0, 1) := by decide +kernel
theorem dX7_given_15 : decode cX7_given 15 = .ok (.getfield 25, 3) := by decide +kernel
theorem dX7_given_18 : decode cX7_given 18 = .ok (.aload_n 0, 1) := by decide +kernel
theorem dX7_given_19 : decode cX7_given 19 = .ok (.getfield 12, 3) := by decide +kernel
theorem dX7_given_22 : decode cX7_given 22 = .ok (.iload_n 1, 1) := by decide +kernel
theorem dX7_given_23 : decode cX7_given 23 = .ok (.invokevirtual 184, 3) := by decide +kernel
theorem dX7_given_26 : decode cX7_given 26 = .ok (.ireturn, 1) := by decide +kernel
theorem dX7_likest_0 : decode cX7_likest 0 = .ok (.iload_n 1, 1) := by decide +kernel
theorem dX7_likest_1 : decode cX7_likest 1 = .ok (.invokestatic 98, 3) := by decide +kernel
theorem dX7_likest_4 : decode cX7_likest 4 = .ok (.ifCond .ne 10, 3) := by decide +kernel
theorem dX7_likest_7 : decode cX7_likest 7 = .ok (.aload_n 0, 1) := by decide +kernel
theorem dX7_likest_8 : decode cX7_likest 8 = .ok (.ldc 67, 2) := by decide +kernel
theorem dX7_likest_10 : decode cX7_likest 10 = .ok (.invokevirtual 68, 3) := by decide +kernel
theorem dX7_likest_13 : decode cX7_likest 13 = .ok (.ireturn, 1) := by decide +kernel
theorem dX7_likest_14 : decode cX7_likest 14 = .ok (.aload_n 0, 1) := by decide +kernel
theorem dX7_likest_15 : decode cX7_likest 15 = .ok (.getfield 12, 3) := by decide +kernel
theorem dX7_likest_18 : decode cX7_likest 18 = .ok (.getfield 72, 3) := by decide +kernel
theorem dX7_likest_21 : decode cX7_likest 21 = .ok (.ifCond .ne 10, 3) := by decide +kernel
theorem dX7_likest_24 : decode cX7_likest 24 = .ok (.aload_n 0, 1) := by decide +kernel
theorem dX7_likest_25 : decode cX7_likest 25 = .ok (.ldc 188, 2) := by decide +kernel
theorem dX7_likest_27 : decode cX7_likest 27 = .ok (.invokevirtual 68, 3) := by decide +kernel
theorem dX7_likest_30 : decode cX7_likest 30 = .ok (.ireturn, 1) := by decide +kernel
theorem dX7_likest_31 : decode cX7_likest 31 = .ok (.aload_n 0, 1) := by decide +kernel
theorem dX7_likest_32 : decode cX7_likest 32 = .ok (.getfield 12, 3) := by decide +kernel
theorem dX7_likest_35 : decode cX7_likest 35 = .ok (.iload_n 1, 1) := by decide +kernel
theorem dX7_likest_36 : decode cX7_likest 36 = .ok (.invokevirtual 189, 3) := by decide +kernel
theorem dX7_likest_39 : decode cX7_likest 39 = .ok (.ireturn, 1) := by decide +kernel
theorem dX7_whom_0 : decode cX7_whom 0 = .ok (.aload_n 0, 1) := by decide +kernel
theorem dX7_whom_1 : decode cX7_whom 1 = .ok (.getfield 12, 3) := by decide +kernel
theorem dX7_whom_4 : decode cX7_whom 4 = .ok (.iload_n 1, 1) := by decide +kernel
theorem dX7_whom_5 : decode cX7_whom 5 = .ok (.invokevirtual 85, 3) := by decide +kernel
theorem dX7_whom_8 : decode cX7_whom 8 = .ok (.ifCond .ne 10, 3) := by decide +kernel
theorem dX7_whom_11 : decode cX7_whom 11 = .ok (.aload_n 0, 1) := by decide +kernel
theorem dX7_whom_12 : decode cX7_whom 12 = .ok (.ldc 67, 2) := by decide +kernel
theorem dX7_whom_14 : decode cX7_whom 14 = .ok (.invokevirtual 68, 3) := by decide +kernel
theorem dX7_whom_17 : decode cX7_whom 17 = .ok (.ireturn, 1) := by decide +kernel
theorem dX7_whom_18 : decode cX7_whom 18 = .ok (.aload_n 0, 1) := by decide +kernel
theorem dX7_whom_19 : decode cX7_whom 19 = .ok (.getfield 12, 3) := by decide +kernel
theorem dX7_whom_22 : decode cX7_whom 22 = .ok (.iload_n 1, 1) := by decide +kernel
theorem dX7_whom_23 : decode cX7_whom 23 = .ok (.invokevirtual 192, 3) := by decide +kernel
theorem dX7_whom_26 : decode cX7_whom 26 = .ok (.ireturn, 1) := by decide +kernel
theorem dX7_missed_0 : decode cX7_missed 0 = .ok (.aload_n 0, 1) := by decide +kernel
theorem dX7_missed_1 : decode cX7_missed 1 = .ok (.getfield 12, 3) := by decide +kernel
theorem dX7_missed_4 : decode cX7_missed 4 = .ok (.iload_n 1, 1) := by decide +kernel
theorem dX7_missed_5 : decode cX7_missed 5 = .ok (.invokevirtual 85, 3) := by decide +kernel
theorem dX7_missed_8 : decode cX7_missed 8 = .ok (.ifCond .ne 10, 3) := by decide +kernel
theorem dX7_missed_11 : decode cX7_missed 11 = .ok (.aload_n 0, 1) := by decide +kernel
theorem dX7_missed_12 : decode cX7_missed 12 = .ok (.ldc 67, 2) := by decide +kernel
theorem dX7_missed_14 : decode cX7_missed 14 = .ok (.invokevirtual 68, 3) := by decide +kernel
theorem dX7_missed_17 : decode cX7_missed 17 = .ok (.ireturn, 1) := by decide +kernel
theorem dX7_missed_18 : decode cX7_missed 18 = .ok (.aload_n 0, 1) := by decide +kernel
theorem dX7_missed_19 : decode cX7_missed 19 = .ok (.getfield 25, 3) := by decide +kernel
theorem dX7_missed_22 : decode cX7_missed 22 = .ok (.aload_n 0, 1) := by decide +kernel
theorem dX7_missed_23 : decode cX7_missed 23 = .ok (.getfield 12, 3) := by decide +kernel
theorem dX7_missed_26 : decode cX7_missed 26 = .ok (.iload_n 1, 1) := by decide +kernel
theorem dX7_missed_27 : decode cX7_missed 27 = .ok (.invokevirtual 195, 3) := by decide +kernel
theorem dX7_missed_30 : decode cX7_missed 30 = .ok (.ireturn, 1) := by decide +kernel
theorem dX7_recast_0 : decode cX7_recast 0 = .ok (.aload_n 0, 1) := by decide +kernel
theorem dX7_recast_1 : decode cX7_recast 1 = .ok (.getfield 12, 3) := by decide +kernel
theorem dX7_recast_4 : decode cX7_recast 4 = .ok (.iload_n 1, 1) := by decide +kernel
theorem dX7_recast_5 : decode cX7_recast 5 = .ok (.invokevirtual 85, 3) := by decide +kernel
theorem dX7_recast_8 : decode cX7_recast 8 = .ok (.ifCond .ne 10, 3) := by decide +kernel
theorem dX7_recast_11 : decode cX7_recast 11 = .ok (.aload_n 0, 1) := by decide +kernel
theorem dX7_recast_12 : decode cX7_recast 12 = .ok (.ldc 67, 2) := by decide +kernel
theorem dX7_recast_14 : decode cX7_recast 14 = .ok (.invokevirtual 68, 3) := by decide +kernel
theorem dX7_recast_17 : decode cX7_recast 17 = .ok (.ireturn, 1) := by decide +kernel
theorem dX7_recast_18 : decode cX7_recast 18 = .ok (.aload_n 0, 1) := by decide +kernel
theorem dX7_recast_19 : decode cX7_recast 19 = .ok (.getfield 12, 3) := by decide +kernel
theorem dX7_recast_22 : decode cX7_recast 22 = .ok (.iload_n 1, 1) := by decide +kernel
theorem dX7_recast_23 : decode cX7_recast 23 = .ok (.invokevirtual 198, 3) := by decide +kernel
theorem dX7_recast_26 : decode cX7_recast 26 = .ok (.ifCond .ne 10, 3) := by decide +kernel
theorem dX7_recast_29 : decode cX7_recast 29 = .ok (.aload_n 0, 1) := by decide +kernel
theorem dX7_recast_30 : decode cX7_recast 30 = .ok (.ldc 201, 2) := by decide +kernel
theorem dX7_recast_32 : decode cX7_recast 32 = .ok (.invokevirtual 68, 3) := by decide +kernel
theorem dX7_recast_35 : decode cX7_recast 35 = .ok (.ireturn, 1) := by decide +kernel
theorem dX7_recast_36 : decode cX7_recast 36 = .ok (.aload_n 0, 1) := by decide +kernel
theorem dX7_recast_37 : decode cX7_recast 37 = .ok (.getfield 25, 3) := by decide +kernel
theorem dX7_recast_40 : decode cX7_recast 40 = .ok (.aload_n 0, 1) := by decide +kernel
theorem dX7_recast_41 : decode cX7_recast 41 = .ok (.getfield 12, 3) := by decide +kernel
theorem dX7_recast_44 : decode cX7_recast 44 = .ok (.iload_n 1, 1) := by decide +kernel
theorem dX7_recast_45 : decode cX7_recast 45 = .ok (.invokevirtual 202, 3) := by decide +kernel
theorem dX7_recast_48 : decode cX7_recast 48 = .ok (.ireturn, 1) := by decide +kernel
theorem dX7_kindFor_0 : decode cX7_kindFor 0 = .ok (.aload_n 0, 1) := by decide +kernel
theorem dX7_kindFor_1 : decode cX7_kindFor 1 = .ok (.getfield 12, 3) := by decide +kernel
theorem dX7_kindFor_4 : decode cX7_kindFor 4 = .ok (.iload_n 1, 1) := by decide +kernel
theorem dX7_kindFor_5 : decode cX7_kindFor 5 = .ok (.invokevirtual 85, 3) := by decide +kernel
theorem dX7_kindFor_8 : decode cX7_kindFor 8 = .ok (.ifCond .ne 10, 3) := by decide +kernel
theorem dX7_kindFor_11 : decode cX7_kindFor 11 = .ok (.aload_n 0, 1) := by decide +kernel
theorem dX7_kindFor_12 : decode cX7_kindFor 12 = .ok (.ldc 67, 2) := by decide +kernel
theorem dX7_kindFor_14 : decode cX7_kindFor 14 = .ok (.invokevirtual 68, 3) := by decide +kernel
theorem dX7_kindFor_17 : decode cX7_kindFor 17 = .ok (.ireturn, 1) := by decide +kernel
theorem dX7_kindFor_18 : decode cX7_kindFor 18 = .ok (.aload_n 0, 1) := by decide +kernel
theorem dX7_kindFor_19 : decode cX7_kindFor 19 = .ok (.getfield 25, 3) := by decide +kernel
theorem dX7_kindFor_22 : decode cX7_kindFor 22 = .ok (.aload_n 0, 1) := by decide +kernel
theorem dX7_kindFor_23 : decode cX7_kindFor 23 = .ok (.getfield 12, 3) := by decide +kernel
theorem dX7_kindFor_26 : decode cX7_kindFor 26 = .ok (.iload_n 1, 1) := by decide +kernel
theorem dX7_kindFor_27 : decode cX7_kindFor 27 = .ok (.invokevirtual 205, 3) := by decide +kernel
theorem dX7_kindFor_30 : decode cX7_kindFor 30 = .ok (.ireturn, 1) := by decide +kernel
theorem dX7_unseen_0 : decode cX7_unseen 0 = .ok (.aload_n 0, 1) := by decide +kernel
theorem dX7_unseen_1 : decode cX7_unseen 1 = .ok (.getfield 12, 3) := by decide +kernel
theorem dX7_unseen_4 : decode cX7_unseen 4 = .ok (.iload_n 1, 1) := by decide +kernel
theorem dX7_unseen_5 : decode cX7_unseen 5 = .ok (.invokevirtual 85, 3) := by decide +kernel
theorem dX7_unseen_8 : decode cX7_unseen 8 = .ok (.ifCond .eq 10, 3) := by decide +kernel
theorem dX7_unseen_11 : decode cX7_unseen 11 = .ok (.iload_n 2, 1) := by decide +kernel
theorem dX7_unseen_12 : decode cX7_unseen 12 = .ok (.invokestatic 129, 3) := by decide +kernel
theorem dX7_unseen_15 : decode cX7_unseen 15 = .ok (.ifCond .ne 10, 3) := by decide +kernel
theorem dX7_unseen_18 : decode cX7_unseen 18 = .ok (.aload_n 0, 1) := by decide +kernel
theorem dX7_unseen_19 : decode cX7_unseen 19 = .ok (.ldc 67, 2) := by decide +kernel
theorem dX7_unseen_21 : decode cX7_unseen 21 = .ok (.invokevirtual 68, 3) := by decide +kernel
theorem dX7_unseen_24 : decode cX7_unseen 24 = .ok (.ireturn, 1) := by decide +kernel
theorem dX7_unseen_25 : decode cX7_unseen 25 = .ok (.aload_n 0, 1) := by decide +kernel
theorem dX7_unseen_26 : decode cX7_unseen 26 = .ok (.getfield 12, 3) := by decide +kernel
theorem dX7_unseen_29 : decode cX7_unseen 29 = .ok (.getfield 132, 3) := by decide +kernel
theorem dX7_unseen_32 : decode cX7_unseen 32 = .ok (.iload_n 1, 1) := by decide +kernel
theorem dX7_unseen_33 : decode cX7_unseen 33 = .ok (.iaload, 1) := by decide +kernel
theorem dX7_unseen_34 : decode cX7_unseen 34 = .ok (.iload_n 2, 1) := by decide +kernel
theorem dX7_unseen_35 : decode cX7_unseen 35 = .ok (.if_icmp .eq 16, 3) := by decide +kernel
theorem dX7_unseen_38 : decode cX7_unseen 38 = .ok (.aload_n 0, 1) := by decide +kernel
theorem dX7_unseen_39 : decode cX7_unseen 39 = .ok (.getfield 12, 3) := by decide +kernel
theorem dX7_unseen_42 : decode cX7_unseen 42 = .ok (.getfield 155, 3) := by decide +kernel
theorem dX7_unseen_45 : decode cX7_unseen 45 = .ok (.sipush 9000, 3) := by decide +kernel
theorem dX7_unseen_48 : decode cX7_unseen 48 = .ok (.if_icmp .le 10, 3) := by decide +kernel
theorem dX7_unseen_51 : decode cX7_unseen 51 = .ok (.aload_n 0, 1) := by decide +kernel
theorem dX7_unseen_52 : decode cX7_unseen 52 = .ok (.ldc 135, 2) := by decide +kernel
theorem dX7_unseen_54 : decode cX7_unseen 54 = .ok (.invokevirtual 68, 3) := by decide +kernel
theorem dX7_unseen_57 : decode cX7_unseen 57 = .ok (.ireturn, 1) := by decide +kernel
theorem dX7_unseen_58 : decode cX7_unseen 58 = .ok (.iconst 0, 1) := by decide +kernel
theorem dX7_unseen_59 : decode cX7_unseen 59 = .ok (.istore_n 3, 1) := by decide +kernel
theorem dX7_unseen_60 : decode cX7_unseen 60 = .ok (.iload_n 3, 1) := by decide +kernel
theorem dX7_unseen_61 : decode cX7_unseen 61 = .ok (.bipush 60, 2) := by decide +kernel
theorem dX7_unseen_63 : decode cX7_unseen 63 = .ok (.if_icmp .gt 24, 3) := by decide +kernel
theorem dX7_unseen_66 : decode cX7_unseen 66 = .ok (.aload_n 0, 1) := by decide +kernel
theorem dX7_unseen_67 : decode cX7_unseen 67 = .ok (.getfield 12, 3) := by decide +kernel
theorem dX7_unseen_70 : decode cX7_unseen 70 = .ok (.iload_n 1, 1) := by decide +kernel
theorem dX7_unseen_71 : decode cX7_unseen 71 = .ok (.iload_n 2, 1) := by decide +kernel
theorem dX7_unseen_72 : decode cX7_unseen 72 = .ok (.iload_n 3, 1) := by decide +kernel
theorem dX7_unseen_73 : decode cX7_unseen 73 = .ok (.invokevirtual 208, 3) := by decide +kernel
theorem dX7_unseen_76 : decode cX7_unseen 76 = .ok (.ifCond .eq 5, 3) := by decide +kernel
theorem dX7_unseen_79 : decode cX7_unseen 79 = .ok (.iload_n 3, 1) := by decide +kernel
theorem dX7_unseen_80 : decode cX7_unseen 80 = .ok (.ireturn, 1) := by decide +kernel
theorem dX7_unseen_81 : decode cX7_unseen 81 = .ok (.iinc 3 1, 3) := by decide +kernel
theorem dX7_unseen_84 : decode cX7_unseen 84 = .ok (.goto (-24), 3) := by decide +kernel
theorem dX7_unseen_87 : decode cX7_unseen 87 = .ok (.aload_n 0, 1) := by decide +kernel
theorem dX7_unseen_88 : decode cX7_unseen 88 = .ok (.ldc 188, 2) := by decide +kernel
theorem dX7_unseen_90 : decode cX7_unseen 90 = .ok (.invokevirtual 68, 3) := by decide +kernel
theorem dX7_unseen_93 : decode cX7_unseen 93 = .ok (.ireturn, 1) := by decide +kernel
theorem dX7_hidden_0 : decode cX7_hidden 0 = .ok (.iload_n 1, 1) := by decide +kernel
theorem dX7_hidden_1 : decode cX7_hidden 1 = .ok (.invokestatic 129, 3) := by decide +kernel
theorem dX7_hidden_4 : decode cX7_hidden 4 = .ok (.ifCond .ne 10, 3) := by decide +kernel
theorem dX7_hidden_7 : decode cX7_hidden 7 = .ok (.aload_n 0, 1) := by decide +kernel
theorem dX7_hidden_8 : decode cX7_hidden 8 = .ok (.ldc 67, 2) := by decide +kernel
theorem dX7_hidden_10 : decode cX7_hidden 10 = .ok (.invokevirtual 68, 3) := by decide +kernel
theorem dX7_hidden_13 : decode cX7_hidden 13 = .ok (.ireturn, 1) := by decide +kernel
theorem dX7_hidden_14 : decode cX7_hidden 14 = .ok (.aload_n 0, 1) := by decide +kernel
theorem dX7_hidden_15 : decode cX7_hidden 15 = .ok (.getfield 12, 3) := by decide +kernel
theorem dX7_hidden_18 : decode cX7_hidden 18 = .ok (.getfield 155, 3) := by decide +kernel
theorem dX7_hidden_21 : decode cX7_hidden 21 = .ok (.sipush 9000, 3) := by decide +kernel
theorem dX7_hidden_24 : decode cX7_hidden 24 = .ok (.if_icmp .le 10, 3) := by decide +kernel
theorem dX7_hidden_27 : decode cX7_hidden 27 = .ok (.aload_n 0, 1) := by decide +kernel
theorem dX7_hidden_28 : decode cX7_hidden 28 = .ok (.ldc 135, 2) := by decide +kernel
theorem dX7_hidden_30 : decode cX7_hidden 30 = .ok (.invokevirtual 68, 3) := by decide +kernel
theorem dX7_hidden_33 : decode cX7_hidden 33 = .ok (.ireturn, 1) := by decide +kernel
theorem dX7_hidden_34 : decode cX7_hidden 34 = .ok (.iconst 0, 1) := by decide +kernel
theorem dX7_hidden_35 : decode cX7_hidden 35 = .ok (.istore_n 2, 1) := by decide +kernel
theorem dX7_hidden_36 : decode cX7_hidden 36 = .ok (.iconst 0, 1) := by decide +kernel
theorem dX7_hidden_37 : decode cX7_hidden 37 = .ok (.istore_n 3, 1) := by decide +kernel
theorem dX7_hidden_38 : decode cX7_hidden 38 = .ok (.iload_n 3, 1) := by decide +kernel
theorem dX7_hidden_39 : decode cX7_hidden 39 = .ok (.aload_n 0, 1) := by decide +kernel
theorem dX7_hidden_40 : decode cX7_hidden 40 = .ok (.getfield 12, 3) := by decide +kernel
theorem dX7_hidden_43 : decode cX7_hidden 43 = .ok (.getfield 72, 3) := by decide +kernel
theorem dX7_hidden_46 : decode cX7_hidden 46 = .ok (.if_icmp .ge 41, 3) := by decide +kernel
theorem dX7_hidden_49 : decode cX7_hidden 49 = .ok (.aload_n 0, 1) := by decide +kernel
theorem dX7_hidden_50 : decode cX7_hidden 50 = .ok (.getfield 12, 3) := by decide +kernel
theorem dX7_hidden_53 : decode cX7_hidden 53 = .ok (.getfield 132, 3) := by decide +kernel
theorem dX7_hidden_56 : decode cX7_hidden 56 = .ok (.iload_n 3, 1) := by decide +kernel
theorem dX7_hidden_57 : decode cX7_hidden 57 = .ok (.iaload, 1) := by decide +kernel
theorem dX7_hidden_58 : decode cX7_hidden 58 = .ok (.iload_n 1, 1) := by decide +kernel
theorem dX7_hidden_59 : decode cX7_hidden 59 = .ok (.if_icmp .eq 22, 3) := by decide +kernel
theorem dX7_hidden_62 : decode cX7_hidden 62 = .ok (.aload_n 0, 1) := by decide +kernel
theorem dX7_hidden_63 : decode cX7_hidden 63 = .ok (.getfield 12, 3) := by decide +kernel
theorem dX7_hidden_66 : decode cX7_hidden 66 = .ok (.iload_n 3, 1) := by decide +kernel
theorem dX7_hidden_67 : decode cX7_hidden 67 = .ok (.iload_n 1, 1) := by decide +kernel
theorem dX7_hidden_68 : decode cX7_hidden 68 = .ok (.iconst 0, 1) := by decide +kernel
theorem dX7_hidden_69 : decode cX7_hidden 69 = .ok (.invokevirtual 208, 3) := by decide +kernel
theorem dX7_hidden_72 : decode cX7_hidden 72 = .ok (.ifCond .eq 9, 3) := by decide +kernel
theorem dX7_hidden_75 : decode cX7_hidden 75 = .ok (.iload_n 2, 1) := by decide +kernel
theorem dX7_hidden_76 : decode cX7_hidden 76 = .ok (.iconst 1, 1) := by decide +kernel
theorem dX7_hidden_77 : decode cX7_hidden 77 = .ok (.iload_n 3, 1) := by decide +kernel
theorem dX7_hidden_78 : decode cX7_hidden 78 = .ok (.ishl, 1) := by decide +kernel
theorem dX7_hidden_79 : decode cX7_hidden 79 = .ok (.ior, 1) := by decide +kernel
theorem dX7_hidden_80 : decode cX7_hidden 80 = .ok (.istore_n 2, 1) := by decide +kernel
theorem dX7_hidden_81 : decode cX7_hidden 81 = .ok (.iinc 3 1, 3) := by decide +kernel
theorem dX7_hidden_84 : decode cX7_hidden 84 = .ok (.goto (-46), 3) := by decide +kernel
theorem dX7_hidden_87 : decode cX7_hidden 87 = .ok (.iload_n 2, 1) := by decide +kernel
theorem dX7_hidden_88 : decode cX7_hidden 88 = .ok (.ireturn, 1) := by decide +kernel
theorem dX7_empty_0 : decode cX7_empty 0 = .ok (.aload_n 0, 1) := by decide +kernel
theorem dX7_empty_1 : decode cX7_empty 1 = .ok (.getfield 12, 3) := by decide +kernel
theorem dX7_empty_4 : decode cX7_empty 4 = .ok (.invokevirtual 211, 3) := by decide +kernel
theorem dX7_empty_7 : decode cX7_empty 7 = .ok (.ireturn, 1) := by decide +kernel
theorem dX7_worth_0 : decode cX7_worth 0 = .ok (.iload_n 1, 1) := by decide +kernel
theorem dX7_worth_1 : decode cX7_worth 1 = .ok (.iconst 0, 1) := by decide +kernel
theorem dX7_worth_2 : decode cX7_worth 2 = .ok (.sipush 255, 3) := by decide +kernel
theorem dX7_worth_5 : decode cX7_worth 5 = .ok (.invokestatic 94, 3) := by decide +kernel
theorem dX7_worth_8 : decode cX7_worth 8 = .ok (.ifCond .eq 12, 3) := by decide +kernel
theorem dX7_worth_11 : decode cX7_worth 11 = .ok (.iload_n 2, 1) := by decide +kernel
theorem dX7_worth_12 : decode cX7_worth 12 = .ok (.iconst 0, 1) := by decide +kernel
theorem dX7_worth_13 : decode cX7_worth 13 = .ok (.iconst 1, 1) := by decide +kernel
theorem dX7_worth_14 : decode cX7_worth 14 = .ok (.invokestatic 94, 3) := by decide +kernel
theorem dX7_worth_17 : decode cX7_worth 17 = .ok (.ifCond .ne 10, 3) := by decide +kernel
theorem dX7_worth_20 : decode cX7_worth 20 = .ok (.aload_n 0, 1) := by decide +kernel
theorem dX7_worth_21 : decode cX7_worth 21 = .ok (.ldc 67, 2) := by decide +kernel
theorem dX7_worth_23 : decode cX7_worth 23 = .ok (.invokevirtual 68, 3) := by decide +kernel
theorem dX7_worth_26 : decode cX7_worth 26 = .ok (.ireturn, 1) := by decide +kernel
theorem dX7_worth_27 : decode cX7_worth 27 = .ok (.aload_n 0, 1) := by decide +kernel
theorem dX7_worth_28 : decode cX7_worth 28 = .ok (.getfield 12, 3) := by decide +kernel
theorem dX7_worth_31 : decode cX7_worth 31 = .ok (.invokevirtual 214, 3) := by decide +kernel
theorem dX7_worth_34 : decode cX7_worth 34 = .ok (.istore_n 3, 1) := by decide +kernel
theorem dX7_worth_35 : decode cX7_worth 35 = .ok (.iload_n 3, 1) := by decide +kernel
theorem dX7_worth_36 : decode cX7_worth 36 = .ok (.ifCond .ne 10, 3) := by decide +kernel
theorem dX7_worth_39 : decode cX7_worth 39 = .ok (.aload_n 0, 1) := by decide +kernel
theorem dX7_worth_40 : decode cX7_worth 40 = .ok (.ldc 188, 2) := by decide +kernel
theorem dX7_worth_42 : decode cX7_worth 42 = .ok (.invokevirtual 68, 3) := by decide +kernel
theorem dX7_worth_45 : decode cX7_worth 45 = .ok (.ireturn, 1) := by decide +kernel
theorem dX7_worth_46 : decode cX7_worth 46 = .ok (.aload_n 0, 1) := by decide +kernel
theorem dX7_worth_47 : decode cX7_worth 47 = .ok (.getfield 12, 3) := by decide +kernel
theorem dX7_worth_50 : decode cX7_worth 50 = .ok (.iload_n 1, 1) := by decide +kernel
theorem dX7_worth_51 : decode cX7_worth 51 = .ok (.invokevirtual 217, 3) := by decide +kernel
theorem dX7_worth_54 : decode cX7_worth 54 = .ok (.istore 4, 2) := by decide +kernel
theorem dX7_worth_56 : decode cX7_worth 56 = .ok (.iload 4, 2) := by decide +kernel
theorem dX7_worth_58 : decode cX7_worth 58 = .ok (.iload_n 3, 1) := by decide +kernel
theorem dX7_worth_59 : decode cX7_worth 59 = .ok (.invokestatic 220, 3) := by decide +kernel
theorem dX7_worth_62 : decode cX7_worth 62 = .ok (.istore 5, 2) := by decide +kernel
theorem dX7_worth_64 : decode cX7_worth 64 = .ok (.iload_n 2, 1) := by decide +kernel
theorem dX7_worth_65 : decode cX7_worth 65 = .ok (.ifCond .ne 8, 3) := by decide +kernel
theorem dX7_worth_68 : decode cX7_worth 68 = .ok (.iload 4, 2) := by decide +kernel
theorem dX7_worth_70 : decode cX7_worth 70 = .ok (.goto 4, 3) := by decide +kernel
theorem dX7_worth_73 : decode cX7_worth 73 = .ok (.iload_n 3, 1) := by decide +kernel
theorem dX7_worth_74 : decode cX7_worth 74 = .ok (.iload 5, 2) := by decide +kernel
theorem dX7_worth_76 : decode cX7_worth 76 = .ok (.idiv, 1) := by decide +kernel
theorem dX7_worth_77 : decode cX7_worth 77 = .ok (.ireturn, 1) := by decide +kernel
theorem dX7_next_0 : decode cX7_next 0 = .ok (.aload_n 0, 1) := by decide +kernel
theorem dX7_next_1 : decode cX7_next 1 = .ok (.getfield 12, 3) := by decide +kernel
theorem dX7_next_4 : decode cX7_next 4 = .ok (.invokevirtual 214, 3) := by decide +kernel
theorem dX7_next_7 : decode cX7_next 7 = .ok (.ifCond .ne 10, 3) := by decide +kernel
theorem dX7_next_10 : decode cX7_next 10 = .ok (.aload_n 0, 1) := by decide +kernel
theorem dX7_next_11 : decode cX7_next 11 = .ok (.ldc 188, 2) := by decide +kernel
theorem dX7_next_13 : decode cX7_next 13 = .ok (.invokevirtual 68, 3) := by decide +kernel
theorem dX7_next_16 : decode cX7_next 16 = .ok (.ireturn, 1) := by decide +kernel
theorem dX7_next_17 : decode cX7_next 17 = .ok (.iconst 0, 1) := by decide +kernel
theorem dX7_next_18 : decode cX7_next 18 = .ok (.istore_n 1, 1) := by decide +kernel
theorem dX7_next_19 : decode cX7_next 19 = .ok (.iconst (-1), 1) := by decide +kernel
theorem dX7_next_20 : decode cX7_next 20 = .ok (.istore_n 2, 1) := by decide +kernel
theorem dX7_next_21 : decode cX7_next 21 = .ok (.iconst 0, 1) := by decide +kernel
theorem dX7_next_22 : decode cX7_next 22 = .ok (.istore_n 3, 1) := by decide +kernel
theorem dX7_next_23 : decode cX7_next 23 = .ok (.iload_n 3, 1) := by decide +kernel
theorem dX7_next_24 : decode cX7_next 24 = .ok (.sipush 255, 3) := by decide +kernel
theorem dX7_next_27 : decode cX7_next 27 = .ok (.if_icmp .gt 30, 3) := by decide +kernel
theorem dX7_next_30 : decode cX7_next 30 = .ok (.aload_n 0, 1) := by decide +kernel
theorem dX7_next_31 : decode cX7_next 31 = .ok (.getfield 12, 3) := by decide +kernel
theorem dX7_next_34 : decode cX7_next 34 = .ok (.iload_n 3, 1) := by decide +kernel
theorem dX7_next_35 : decode cX7_next 35 = .ok (.invokevirtual 217, 3) := by decide +kernel
theorem dX7_next_38 : decode cX7_next 38 = .ok (.istore 4, 2) := by decide +kernel
theorem dX7_next_40 : decode cX7_next 40 = .ok (.iload 4, 2) := by decide +kernel
theorem dX7_next_42 : decode cX7_next 42 = .ok (.iload_n 2, 1) := by decide +kernel
theorem dX7_next_43 : decode cX7_next 43 = .ok (.if_icmp .le 8, 3) := by decide +kernel
theorem dX7_next_46 : decode cX7_next 46 = .ok (.iload 4, 2) := by decide +kernel
theorem dX7_next_48 : decode cX7_next 48 = .ok (.istore_n 2, 1) := by decide +kernel
theorem dX7_next_49 : decode cX7_next 49 = .ok (.iload_n 3, 1) := by decide +kernel
theorem dX7_next_50 : decode cX7_next 50 = .ok (.istore_n 1, 1) := by decide +kernel
theorem dX7_next_51 : decode cX7_next 51 = .ok (.iinc 3 1, 3) := by decide +kernel
theorem dX7_next_54 : decode cX7_next 54 = .ok (.goto (-31), 3) := by decide +kernel
theorem dX7_next_57 : decode cX7_next 57 = .ok (.iload_n 1, 1) := by decide +kernel
theorem dX7_next_58 : decode cX7_next 58 = .ok (.ireturn, 1) := by decide +kernel
theorem dX7_mould_0 : decode cX7_mould 0 = .ok (.iload_n 1, 1) := by decide +kernel
theorem dX7_mould_1 : decode cX7_mould 1 = .ok (.invokestatic 98, 3) := by decide +kernel
theorem dX7_mould_4 : decode cX7_mould 4 = .ok (.ifCond .ne 10, 3) := by decide +kernel
theorem dX7_mould_7 : decode cX7_mould 7 = .ok (.aload_n 0, 1) := by decide +kernel
theorem dX7_mould_8 : decode cX7_mould 8 = .ok (.ldc 67, 2) := by decide +kernel
theorem dX7_mould_10 : decode cX7_mould 10 = .ok (.invokevirtual 68, 3) := by decide +kernel
theorem dX7_mould_13 : decode cX7_mould 13 = .ok (.ireturn, 1) := by decide +kernel
theorem dX7_mould_14 : decode cX7_mould 14 = .ok (.aload_n 0, 1) := by decide +kernel
theorem dX7_mould_15 : decode cX7_mould 15 = .ok (.getfield 12, 3) := by decide +kernel
theorem dX7_mould_18 : decode cX7_mould 18 = .ok (.getfield 72, 3) := by decide +kernel
theorem dX7_mould_21 : decode cX7_mould 21 = .ok (.ifCond .ne 10, 3) := by decide +kernel
theorem dX7_mould_24 : decode cX7_mould 24 = .ok (.aload_n 0, 1) := by decide +kernel
theorem dX7_mould_25 : decode cX7_mould 25 = .ok (.ldc 188, 2) := by decide +kernel
theorem dX7_mould_27 : decode cX7_mould 27 = .ok (.invokevirtual 68, 3) := by decide +kernel
theorem dX7_mould_30 : decode cX7_mould 30 = .ok (.ireturn, 1) := by decide +kernel
theorem dX7_mould_31 : decode cX7_mould 31 = .ok (.aload_n 0, 1) := by decide +kernel
theorem dX7_mould_32 : decode cX7_mould 32 = .ok (.getfield 12, 3) := by decide +kernel
theorem dX7_mould_35 : decode cX7_mould 35 = .ok (.iload_n 1, 1) := by decide +kernel
theorem dX7_mould_36 : decode cX7_mould 36 = .ok (.invokevirtual 223, 3) := by decide +kernel
theorem dX7_mould_39 : decode cX7_mould 39 = .ok (.ireturn, 1) := by decide +kernel
theorem dX7_cuts_0 : decode cX7_cuts 0 = .ok (.iload_n 1, 1) := by decide +kernel
theorem dX7_cuts_1 : decode cX7_cuts 1 = .ok (.invokestatic 98, 3) := by decide +kernel
theorem dX7_cuts_4 : decode cX7_cuts 4 = .ok (.ifCond .ne 10, 3) := by decide +kernel
theorem dX7_cuts_7 : decode cX7_cuts 7 = .ok (.aload_n 0, 1) := by decide +kernel
theorem dX7_cuts_8 : decode cX7_cuts 8 = .ok (.ldc 67, 2) := by decide +kernel
theorem dX7_cuts_10 : decode cX7_cuts 10 = .ok (.invokevirtual 68, 3) := by decide +kernel
theorem dX7_cuts_13 : decode cX7_cuts 13 = .ok (.ireturn, 1) := by decide +kernel
theorem dX7_cuts_14 : decode cX7_cuts 14 = .ok (.aload_n 0, 1) := by decide +kernel
theorem dX7_cuts_15 : decode cX7_cuts 15 = .ok (.getfield 12, 3) := by decide +kernel
theorem dX7_cuts_18 : decode cX7_cuts 18 = .ok (.getfield 72, 3) := by decide +kernel
theorem dX7_cuts_21 : decode cX7_cuts 21 = .ok (.ifCond .ne 10, 3) := by decide +kernel
theorem dX7_cuts_24 : decode cX7_cuts 24 = .ok (.aload_n 0, 1) := by decide +kernel
theorem dX7_cuts_25 : decode cX7_cuts 25 = .ok (.ldc 188, 2) := by decide +kernel
theorem dX7_cuts_27 : decode cX7_cuts 27 = .ok (.invokevirtual 68, 3) := by decide +kernel
theorem dX7_cuts_30 : decode cX7_cuts 30 = .ok (.ireturn, 1) := by decide +kernel
theorem dX7_cuts_31 : decode cX7_cuts 31 = .ok (.aload_n 0, 1) := by decide +kernel
theorem dX7_cuts_32 : decode cX7_cuts 32 = .ok (.getfield 12, 3) := by decide +kernel
theorem dX7_cuts_35 : decode cX7_cuts 35 = .ok (.aload_n 0, 1) := by decide +kernel
theorem dX7_cuts_36 : decode cX7_cuts 36 = .ok (.getfield 12, 3) := by decide +kernel
theorem dX7_cuts_39 : decode cX7_cuts 39 = .ok (.iload_n 1, 1) := by decide +kernel
theorem dX7_cuts_40 : decode cX7_cuts 40 = .ok (.invokevirtual 223, 3) := by decide +kernel
theorem dX7_cuts_43 : decode cX7_cuts 43 = .ok (.iload_n 1, 1) := by decide +kernel
theorem dX7_cuts_44 : decode cX7_cuts 44 = .ok (.invokevirtual 226, 3) := by decide +kernel
theorem dX7_cuts_47 : decode cX7_cuts 47 = .ok (.ireturn, 1) := by decide +kernel
theorem dX7_fits_0 : decode cX7_fits 0 = .ok (.iload_n 1, 1) := by decide +kernel
theorem dX7_fits_1 : decode cX7_fits 1 = .ok (.invokestatic 229, 3) := by decide +kernel
theorem dX7_fits_4 : decode cX7_fits 4 = .ok (.ifCond .ne 10, 3) := by decide +kernel
theorem dX7_fits_7 : decode cX7_fits 7 = .ok (.aload_n 0, 1) := by decide +kernel
theorem dX7_fits_8 : decode cX7_fits 8 = .ok (.ldc 67, 2) := by decide +kernel
theorem dX7_fits_10 : decode cX7_fits 10 = .ok (.invokevirtual 68, 3) := by decide +kernel
theorem dX7_fits_13 : decode cX7_fits 13 = .ok (.ireturn, 1) := by decide +kernel
theorem dX7_fits_14 : decode cX7_fits 14 = .ok (.aload_n 0, 1) := by decide +kernel
theorem dX7_fits_15 : decode cX7_fits 15 = .ok (.getfield 54, 3) := by decide +kernel
theorem dX7_fits_18 : decode cX7_fits 18 = .ok (.iload_n 1, 1) := by decide +kernel
theorem dX7_fits_19 : decode cX7_fits 19 = .ok (.aaload, 1) := by decide +kernel
theorem dX7_fits_20 : decode cX7_fits 20 = .ok (.invokevirtual 232, 3) := by decide +kernel
theorem dX7_fits_23 : decode cX7_fits 23 = .ok (.ifCond .eq 10, 3) := by decide +kernel
theorem dX7_fits_26 : decode cX7_fits 26 = .ok (.aload_n 0, 1) := by decide +kernel
theorem dX7_fits_27 : decode cX7_fits 27 = .ok (.ldc 236, 2) := by decide +kernel
theorem dX7_fits_29 : decode cX7_fits 29 = .ok (.invokevirtual 68, 3) := by decide +kernel
theorem dX7_fits_32 : decode cX7_fits 32 = .ok (.ireturn, 1) := by decide +kernel
theorem dX7_fits_33 : decode cX7_fits 33 = .ok (.aload_n 0, 1) := by decide +kernel
theorem dX7_fits_34 : decode cX7_fits 34 = .ok (.getfield 32, 3) := by decide +kernel
theorem dX7_fits_37 : decode cX7_fits 37 = .ok (.aload_n 0, 1) := by decide +kernel
theorem dX7_fits_38 : decode cX7_fits 38 = .ok (.getfield 12, 3) := by decide +kernel
theorem dX7_fits_41 : decode cX7_fits 41 = .ok (.aload_n 0, 1) := by decide +kernel
theorem dX7_fits_42 : decode cX7_fits 42 = .ok (.getfield 54, 3) := by decide +kernel
theorem dX7_fits_45 : decode cX7_fits 45 = .ok (.iload_n 1, 1) := by decide +kernel
theorem dX7_fits_46 : decode cX7_fits 46 = .ok (.aaload, 1) := by decide +kernel
theorem dX7_fits_47 : decode cX7_fits 47 = .ok (.invokevirtual 237, 3) := by decide +kernel
theorem dX7_fits_50 : decode cX7_fits 50 = .ok (.ireturn, 1) := by decide +kernel
theorem dX7_maybe_0 : decode cX7_maybe 0 = .ok (.iload_n 1, 1) := by decide +kernel
theorem dX7_maybe_1 : decode cX7_maybe 1 = .ok (.invokestatic 229, 3) := by decide +kernel
theorem dX7_maybe_4 : decode cX7_maybe 4 = .ok (.ifCond .ne 10, 3) := by decide +kernel
theorem dX7_maybe_7 : decode cX7_maybe 7 = .ok (.aload_n 0, 1) := by decide +kernel
theorem dX7_maybe_8 : decode cX7_maybe 8 = .ok (.ldc 67, 2) := by decide +kernel
theorem dX7_maybe_10 : decode cX7_maybe 10 = .ok (.invokevirtual 68, 3) := by decide +kernel
theorem dX7_maybe_13 : decode cX7_maybe 13 = .ok (.ireturn, 1) := by decide +kernel
theorem dX7_maybe_14 : decode cX7_maybe 14 = .ok (.aload_n 0, 1) := by decide +kernel
theorem dX7_maybe_15 : decode cX7_maybe 15 = .ok (.getfield 54, 3) := by decide +kernel
theorem dX7_maybe_18 : decode cX7_maybe 18 = .ok (.iload_n 1, 1) := by decide +kernel
theorem dX7_maybe_19 : decode cX7_maybe 19 = .ok (.aaload, 1) := by decide +kernel
theorem dX7_maybe_20 : decode cX7_maybe 20 = .ok (.invokevirtual 232, 3) := by decide +kernel
theorem dX7_maybe_23 : decode cX7_maybe 23 = .ok (.ifCond .eq 10, 3) := by decide +kernel
theorem dX7_maybe_26 : decode cX7_maybe 26 = .ok (.aload_n 0, 1) := by decide +kernel
theorem dX7_maybe_27 : decode cX7_maybe 27 = .ok (.ldc 236, 2) := by decide +kernel
theorem dX7_maybe_29 : decode cX7_maybe 29 = .ok (.invokevirtual 68, 3) := by decide +kernel
theorem dX7_maybe_32 : decode cX7_maybe 32 = .ok (.ireturn, 1) := by decide +kernel
theorem dX7_maybe_33 : decode cX7_maybe 33 = .ok (.iload_n 2, 1) := by decide +kernel
theorem dX7_maybe_34 : decode cX7_maybe 34 = .ok (.invokestatic 98, 3) := by decide +kernel
theorem dX7_maybe_37 : decode cX7_maybe 37 = .ok (.ifCond .eq 16, 3) := by decide +kernel
theorem dX7_maybe_40 : decode cX7_maybe 40 = .ok (.iload_n 2, 1) := by decide +kernel
theorem dX7_maybe_41 : decode cX7_maybe 41 = .ok (.aload_n 0, 1) := by decide +kernel
theorem dX7_maybe_42 : decode cX7_maybe 42 = .ok (.getfield 54, 3) := by decide +kernel
theorem dX7_maybe_45 : decode cX7_maybe 45 = .ok (.iload_n 1, 1) := by decide +kernel
theorem dX7_maybe_46 : decode cX7_maybe 46 = .ok (.aaload, 1) := by decide +kernel
theorem dX7_maybe_47 : decode cX7_maybe 47 = .ok (.getfield 241, 3) := by decide +kernel
theorem dX7_maybe_50 : decode cX7_maybe 50 = .ok (.if_icmp .lt 10, 3) := by decide +kernel
theorem dX7_maybe_53 : decode cX7_maybe 53 = .ok (.aload_n 0, 1) := by decide +kernel
theorem dX7_maybe_54 : decode cX7_maybe 54 = .ok (.ldc 67, 2) := by decide +kernel
theorem dX7_maybe_56 : decode cX7_maybe 56 = .ok (.invokevirtual 68, 3) := by decide +kernel
theorem dX7_maybe_59 : decode cX7_maybe 59 = .ok (.ireturn, 1) := by decide +kernel
theorem dX7_maybe_60 : decode cX7_maybe 60 = .ok (.aload_n 0, 1) := by decide +kernel
theorem dX7_maybe_61 : decode cX7_maybe 61 = .ok (.getfield 32, 3) := by decide +kernel
theorem dX7_maybe_64 : decode cX7_maybe 64 = .ok (.aload_n 0, 1) := by decide +kernel
theorem dX7_maybe_65 : decode cX7_maybe 65 = .ok (.getfield 12, 3) := by decide +kernel
theorem dX7_maybe_68 : decode cX7_maybe 68 = .ok (.aload_n 0, 1) := by decide +kernel
theorem dX7_maybe_69 : decode cX7_maybe 69 = .ok (.getfield 54, 3) := by decide +kernel
theorem dX7_maybe_72 : decode cX7_maybe 72 = .ok (.iload_n 1, 1) := by decide +kernel
theorem dX7_maybe_73 : decode cX7_maybe 73 = .ok (.aaload, 1) := by decide +kernel
theorem dX7_maybe_74 : decode cX7_maybe 74 = .ok (.iload_n 2, 1) := by decide +kernel
theorem dX7_maybe_75 : decode cX7_maybe 75 = .ok (.invokevirtual 244, 3) := by decide +kernel
theorem dX7_maybe_78 : decode cX7_maybe 78 = .ok (.ireturn, 1) := by decide +kernel
theorem dX7_stand_0 : decode cX7_stand 0 = .ok (.iload_n 1, 1) := by decide +kernel
theorem dX7_stand_1 : decode cX7_stand 1 = .ok (.iconst 0, 1) := by decide +kernel
theorem dX7_stand_2 : decode cX7_stand 2 = .ok (.iconst 1, 1) := by decide +kernel
theorem dX7_stand_3 : decode cX7_stand 3 = .ok (.aload_n 0, 1) := by decide +kernel
theorem dX7_stand_4 : decode cX7_stand 4 = .ok (.getfield 12, 3) := by decide +kernel
theorem dX7_stand_7 : decode cX7_stand 7 = .ok (.getfield 72, 3) := by decide +kernel
theorem dX7_stand_10 : decode cX7_stand 10 = .ok (.ishl, 1) := by decide +kernel
theorem dX7_stand_11 : decode cX7_stand 11 = .ok (.iconst 1, 1) := by decide +kernel
theorem dX7_stand_12 : decode cX7_stand 12 = .ok (.isub, 1) := by decide +kernel
theorem dX7_stand_13 : decode cX7_stand 13 = .ok (.invokestatic 94, 3) := by decide +kernel
theorem dX7_stand_16 : decode cX7_stand 16 = .ok (.ifCond .eq 13, 3) := by decide +kernel
theorem dX7_stand_19 : decode cX7_stand 19 = .ok (.iload_n 2, 1) := by decide +kernel
theorem dX7_stand_20 : decode cX7_stand 20 = .ok (.iconst 0, 1) := by decide +kernel
theorem dX7_stand_21 : decode cX7_stand 21 = .ok (.bipush 99, 2) := by decide +kernel
theorem dX7_stand_23 : decode cX7_stand 23 = .ok (.invokestatic 94, 3) := by decide +kernel
theorem dX7_stand_26 : decode cX7_stand 26 = .ok (.ifCond .ne 10, 3) := by decide +kernel
theorem dX7_stand_29 : decode cX7_stand 29 = .ok (.aload_n 0, 1) := by decide +kernel
theorem dX7_stand_30 : decode cX7_stand 30 = .ok (.ldc 67, 2) := by decide +kernel
theorem dX7_stand_32 : decode cX7_stand 32 = .ok (.invokevirtual 68, 3) := by decide +kernel
theorem dX7_stand_35 : decode cX7_stand 35 = .ok (.ireturn, 1) := by decide +kernel
theorem dX7_stand_36 : decode cX7_stand 36 = .ok (.iconst 0, 1) := by decide +kernel
theorem dX7_stand_37 : decode cX7_stand 37 = .ok (.istore_n 3, 1) := by decide +kernel
theorem dX7_stand_38 : decode cX7_stand 38 = .ok (.iconst 0, 1) := by decide +kernel
theorem dX7_stand_39 : decode cX7_stand 39 = .ok (.istore 4, 2) := by decide +kernel
theorem dX7_stand_41 : decode cX7_stand 41 = .ok (.iload 4, 2) := by decide +kernel
theorem dX7_stand_43 : decode cX7_stand 43 = .ok (.bipush 6, 2) := by decide +kernel
theorem dX7_stand_45 : decode cX7_stand 45 = .ok (.if_icmp .ge 33, 3) := by decide +kernel
theorem dX7_stand_48 : decode cX7_stand 48 = .ok (.aload_n 0, 1) := by decide +kernel
theorem dX7_stand_49 : decode cX7_stand 49 = .ok (.getfield 12, 3) := by decide +kernel
theorem dX7_stand_52 : decode cX7_stand 52 = .ok (.iload 4, 2) := by decide +kernel
theorem dX7_stand_54 : decode cX7_stand 54 = .ok (.iload_n 2, 1) := by decide +kernel
theorem dX7_stand_55 : decode cX7_stand 55 = .ok (.invokevirtual 248, 3) := by decide +kernel
theorem dX7_stand_58 : decode cX7_stand 58 = .ok (.iload_n 1, 1) := by decide +kernel
theorem dX7_stand_59 : decode cX7_stand 59 = .ok (.iconst (-1), 1) := by decide +kernel
theorem dX7_stand_60 : decode cX7_stand 60 = .ok (.ixor, 1) := by decide +kernel
theorem dX7_stand_61 : decode cX7_stand 61 = .ok (.iand, 1) := by decide +kernel
theorem dX7_stand_62 : decode cX7_stand 62 = .ok (.ifCond .eq 10, 3) := by decide +kernel
theorem dX7_stand_65 : decode cX7_stand 65 = .ok (.iload_n 3, 1) := by decide +kernel
theorem dX7_stand_66 : decode cX7_stand 66 = .ok (.iconst 1, 1) := by decide +kernel
theorem dX7_stand_67 : decode cX7_stand 67 = .ok (.iload 4, 2) := by decide +kernel
theorem dX7_stand_69 : decode cX7_stand 69 = .ok (.ishl, 1) := by decide +kernel
theorem dX7_stand_70 : decode cX7_stand 70 = .ok (.ior, 1) := by decide +kernel
theorem dX7_stand_71 : decode cX7_stand 71 = .ok (.istore_n 3, 1) := by decide +kernel
theorem dX7_stand_72 : decode cX7_stand 72 = .ok (.iinc 4 1, 3) := by decide +kernel
theorem dX7_stand_75 : decode cX7_stand 75 = .ok (.goto (-34), 3) := by decide +kernel
theorem dX7_stand_78 : decode cX7_stand 78 = .ok (.iload_n 3, 1) := by decide +kernel
theorem dX7_stand_79 : decode cX7_stand 79 = .ok (.ireturn, 1) := by decide +kernel
theorem dX7_fire_0 : decode cX7_fire 0 = .ok (.iload_n 1, 1) := by decide +kernel
theorem dX7_fire_1 : decode cX7_fire 1 = .ok (.invokestatic 98, 3) := by decide +kernel
theorem dX7_fire_4 : decode cX7_fire 4 = .ok (.ifCond .eq 13, 3) := by decide +kernel
theorem dX7_fire_7 : decode cX7_fire 7 = .ok (.iload_n 2, 1) := by decide +kernel
theorem dX7_fire_8 : decode cX7_fire 8 = .ok (.iconst 0, 1) := by decide +kernel
theorem dX7_fire_9 : decode cX7_fire 9 = .ok (.bipush 99, 2) := by decide +kernel
theorem dX7_fire_11 : decode cX7_fire 11 = .ok (.invokestatic 94, 3) := by decide +kernel
theorem dX7_fire_14 : decode cX7_fire 14 = .ok (.ifCond .ne 10, 3) := by decide +kernel
theorem dX7_fire_17 : decode cX7_fire 17 = .ok (.aload_n 0, 1) := by decide +kernel
theorem dX7_fire_18 : decode cX7_fire 18 = .ok (.ldc 67, 2) := by decide +kernel
theorem dX7_fire_20 : decode cX7_fire 20 = .ok (.invokevirtual 68, 3) := by decide +kernel
theorem dX7_fire_23 : decode cX7_fire 23 = .ok (.ireturn, 1) := by decide +kernel
theorem dX7_fire_24 : decode cX7_fire 24 = .ok (.aload_n 0, 1) := by decide +kernel
theorem dX7_fire_25 : decode cX7_fire 25 = .ok (.getfield 12, 3) := by decide +kernel
theorem dX7_fire_28 : decode cX7_fire 28 = .ok (.iload_n 1, 1) := by decide +kernel
theorem dX7_fire_29 : decode cX7_fire 29 = .ok (.iload_n 2, 1) := by decide +kernel
theorem dX7_fire_30 : decode cX7_fire 30 = .ok (.invokevirtual 248, 3) := by decide +kernel
theorem dX7_fire_33 : decode cX7_fire 33 = .ok (.ireturn, 1) := by decide +kernel
theorem dX7_papers_0 : decode cX7_papers 0 = .ok (.iload_n 1, 1) := by decide +kernel
theorem dX7_papers_1 : decode cX7_papers 1 = .ok (.iconst 1, 1) := by decide +kernel
theorem dX7_papers_2 : decode cX7_papers 2 = .ok (.bipush 12, 2) := by decide +kernel
theorem dX7_papers_4 : decode cX7_papers 4 = .ok (.invokestatic 94, 3) := by decide +kernel
theorem dX7_papers_7 : decode cX7_papers 7 = .ok (.ifCond .ne 10, 3) := by decide +kernel
theorem dX7_papers_10 : decode cX7_papers 10 = .ok (.aload_n 0, 1) := by decide +kernel
theorem dX7_papers_11 : decode cX7_papers 11 = .ok (.ldc 67, 2) := by decide +kernel
theorem dX7_papers_13 : decode cX7_papers 13 = .ok (.invokevirtual 68, 3) := by decide +kernel
theorem dX7_papers_16 : decode cX7_papers 16 = .ok (.ireturn, 1) := by decide +kernel
theorem dX7_papers_17 : decode cX7_papers 17 = .ok (.iconst 0, 1) := by decide +kernel
theorem dX7_papers_18 : decode cX7_papers 18 = .ok (.istore_n 2, 1) := by decide +kernel
theorem dX7_papers_19 : decode cX7_papers 19 = .ok (.iload_n 2, 1) := by decide +kernel
theorem dX7_papers_20 : decode cX7_papers 20 = .ok (.iload_n 1, 1) := by decide +kernel
theorem dX7_papers_21 : decode cX7_papers 21 = .ok (.if_icmp .ge 39, 3) := by decide +kernel
theorem dX7_papers_24 : decode cX7_papers 24 = .ok (.aload_n 0, 1) := by decide +kernel
theorem dX7_papers_25 : decode cX7_papers 25 = .ok (.getfield 12, 3) := by decide +kernel
theorem dX7_papers_28 : decode cX7_papers 28 = .ok (.invokevirtual 251, 3) := by decide +kernel
theorem dX7_papers_31 : decode cX7_papers 31 = .ok (.bipush 6, 2) := by decide +kernel
theorem dX7_papers_33 : decode cX7_papers 33 = .ok (.irem, 1) := by decide +kernel
theorem dX7_papers_34 : decode cX7_papers 34 = .ok (.istore_n 3, 1) := by decide +kernel
theorem dX7_papers_35 : decode cX7_papers 35 = .ok (.aload_n 0, 1) := by decide +kernel
theorem dX7_papers_36 : decode cX7_papers 36 = .ok (.getfield 12, 3) := by decide +kernel
theorem dX7_papers_39 : decode cX7_papers 39 = .ok (.getfield 110, 3) := by decide +kernel
theorem dX7_papers_42 : decode cX7_papers 42 = .ok (.iload_n 3, 1) := by decide +kernel
theorem dX7_papers_43 : decode cX7_papers 43 = .ok (.aload_n 0, 1) := by decide +kernel
theorem dX7_papers_44 : decode cX7_papers 44 = .ok (.getfield 12, 3) := by decide +kernel
theorem dX7_papers_47 : decode cX7_papers 47 = .ok (.invokevirtual 251, 3) := by decide +kernel
theorem dX7_papers_50 : decode cX7_papers 50 = .ok (.bipush 6, 2) := by decide +kernel
theorem dX7_papers_52 : decode cX7_papers 52 = .ok (.irem, 1) := by decide +kernel
theorem dX7_papers_53 : decode cX7_papers 53 = .ok (.iastore, 1) := by decide +kernel
theorem dX7_papers_54 : decode cX7_papers 54 = .ok (.iinc 2 1, 3) := by decide +kernel
theorem dX7_papers_57 : decode cX7_papers 57 = .ok (.goto (-38), 3) := by decide +kernel
theorem dX7_papers_60 : decode cX7_papers 60 = .ok (.aload_n 0, 1) := by decide +kernel
theorem dX7_papers_61 : decode cX7_papers 61 = .ok (.getfield 25, 3) := by decide +kernel
theorem dX7_papers_64 : decode cX7_papers 64 = .ok (.aload_n 0, 1) := by decide +kernel
theorem dX7_papers_65 : decode cX7_papers 65 = .ok (.getfield 12, 3) := by decide +kernel
theorem dX7_papers_68 : decode cX7_papers 68 = .ok (.invokevirtual 180, 3) := by decide +kernel
theorem dX7_papers_71 : decode cX7_papers 71 = .ok (.ireturn, 1) := by decide +kernel
theorem dX7_seed_0 : decode cX7_seed 0 = .ok (.aload_n 0, 1) := by decide +kernel
theorem dX7_seed_1 : decode cX7_seed 1 = .ok (.getfield 12, 3) := by decide +kernel
theorem dX7_seed_4 : decode cX7_seed 4 = .ok (.getfield 254, 3) := by decide +kernel
theorem dX7_seed_7 : decode cX7_seed 7 = .ok (.istore_n 2, 1) := by decide +kernel
theorem dX7_seed_8 : decode cX7_seed 8 = .ok (.aload_n 0, 1) := by decide +kernel
theorem dX7_seed_9 : decode cX7_seed 9 = .ok (.getfield 12, 3) := by decide +kernel
theorem dX7_seed_12 : decode cX7_seed 12 = .ok (.iload_n 1, 1) := by decide +kernel
theorem dX7_seed_13 : decode cX7_seed 13 = .ok (.putfield 254, 3) := by decide +kernel
theorem dX7_seed_16 : decode cX7_seed 16 = .ok (.iload_n 2, 1) := by decide +kernel
theorem dX7_seed_17 : decode cX7_seed 17 = .ok (.ireturn, 1) := by decide +kernel
theorem dX7_feed_0 : decode cX7_feed 0 = .ok (.iload_n 2, 1) := by decide +kernel
theorem dX7_feed_1 : decode cX7_feed 1 = .ok (.iconst 1, 1) := by decide +kernel
theorem dX7_feed_2 : decode cX7_feed 2 = .ok (.iconst 4, 1) := by decide +kernel
theorem dX7_feed_3 : decode cX7_feed 3 = .ok (.invokestatic 94, 3) := by decide +kernel
theorem dX7_feed_6 : decode cX7_feed 6 = .ok (.ifCond .ne 10, 3) := by decide +kernel
theorem dX7_feed_9 : decode cX7_feed 9 = .ok (.aload_n 0, 1) := by decide +kernel
theorem dX7_feed_10 : decode cX7_feed 10 = .ok (.ldc 67, 2) := by decide +kernel
theorem dX7_feed_12 : decode cX7_feed 12 = .ok (.invokevirtual 68, 3) := by decide +kernel
theorem dX7_feed_15 : decode cX7_feed 15 = .ok (.ireturn, 1) := by decide +kernel
theorem dX7_feed_16 : decode cX7_feed 16 = .ok (.aload_n 0, 1) := by decide +kernel
theorem dX7_feed_17 : decode cX7_feed 17 = .ok (.getfield 39, 3) := by decide +kernel
theorem dX7_feed_20 : decode cX7_feed 20 = .ok (.getfield 257, 3) := by decide +kernel
theorem dX7_feed_23 : decode cX7_feed 23 = .ok (.iload_n 2, 1) := by decide +kernel
theorem dX7_feed_24 : decode cX7_feed 24 = .ok (.iadd, 1) := by decide +kernel
theorem dX7_feed_25 : decode cX7_feed 25 = .ok (.bipush 120, 2) := by decide +kernel
theorem dX7_feed_27 : decode cX7_feed 27 = .ok (.if_icmp .le 10, 3) := by decide +kernel
theorem dX7_feed_30 : decode cX7_feed 30 = .ok (.aload_n 0, 1) := by decide +kernel
theorem dX7_feed_31 : decode cX7_feed 31 = .ok (.ldc 76, 2) := by decide +kernel
theorem dX7_feed_33 : decode cX7_feed 33 = .ok (.invokevirtual 68, 3) := by decide +kernel
theorem dX7_feed_36 : decode cX7_feed 36 = .ok (.ireturn, 1) := by decide +kernel
theorem dX7_feed_37 : decode cX7_feed 37 = .ok (.iload_n 2, 1) := by decide +kernel
theorem dX7_feed_38 : decode cX7_feed 38 = .ok (.iconst 1, 1) := by decide +kernel
theorem dX7_feed_39 : decode cX7_feed 39 = .ok (.isub, 1) := by decide +kernel
theorem dX7_feed_40 : decode cX7_feed 40 = .ok (.istore_n 3, 1) := by decide +kernel
theorem dX7_feed_41 : decode cX7_feed 41 = .ok (.iload_n 3, 1) := by decide +kernel
theorem dX7_feed_42 : decode cX7_feed 42 = .ok (.ifCond .lt 23, 3) := by decide +kernel
theorem dX7_feed_45 : decode cX7_feed 45 = .ok (.aload_n 0, 1) := by decide +kernel
theorem dX7_feed_46 : decode cX7_feed 46 = .ok (.getfield 39, 3) := by decide +kernel
theorem dX7_feed_49 : decode cX7_feed 49 = .ok (.iload_n 1, 1) := by decide +kernel
theorem dX7_feed_50 : decode cX7_feed 50 = .ok (.bipush 8, 2) := by decide +kernel
theorem dX7_feed_52 : decode cX7_feed 52 = .ok (.iload_n 3, 1) := by decide +kernel
theorem dX7_feed_53 : decode cX7_feed 53 = .ok (.imul, 1) := by decide +kernel
theorem dX7_feed_54 : decode cX7_feed 54 = .ok (.ishr, 1) := by decide +kernel
theorem dX7_feed_55 : decode cX7_feed 55 = .ok (.i2b, 1) := by decide +kernel
theorem dX7_feed_56 : decode cX7_feed 56 = .ok (.invokevirtual 260, 3) := by decide +kernel
theorem dX7_feed_59 : decode cX7_feed 59 = .ok (.iinc 3 (-1), 3) := by decide +kernel
theorem dX7_feed_62 : decode cX7_feed 62 = .ok (.goto (-21), 3) := by decide +kernel
theorem dX7_feed_65 : decode cX7_feed 65 = .ok (.aload_n 0, 1) := by decide +kernel
theorem dX7_feed_66 : decode cX7_feed 66 = .ok (.getfield 39, 3) := by decide +kernel
theorem dX7_feed_69 : decode cX7_feed 69 = .ok (.getfield 257, 3) := by decide +kernel
theorem dX7_feed_72 : decode cX7_feed 72 = .ok (.ireturn, 1) := by decide +kernel
theorem dX7_wipe_0 : decode cX7_wipe 0 = .ok (.aload_n 0, 1) := by decide +kernel
theorem dX7_wipe_1 : decode cX7_wipe 1 = .ok (.getfield 39, 3) := by decide +kernel
theorem dX7_wipe_4 : decode cX7_wipe 4 = .ok (.getfield 257, 3) := by decide +kernel
theorem dX7_wipe_7 : decode cX7_wipe 7 = .ok (.istore_n 1, 1) := by decide +kernel
theorem dX7_wipe_8 : decode cX7_wipe 8 = .ok (.aload_n 0, 1) := by decide +kernel
theorem dX7_wipe_9 : decode cX7_wipe 9 = .ok (.getfield 39, 3) := by decide +kernel
theorem dX7_wipe_12 : decode cX7_wipe 12 = .ok (.iconst 0, 1) := by decide +kernel
theorem dX7_wipe_13 : decode cX7_wipe 13 = .ok (.putfield 257, 3) := by decide +kernel
theorem dX7_wipe_16 : decode cX7_wipe 16 = .ok (.iload_n 1, 1) := by decide +kernel
theorem dX7_wipe_17 : decode cX7_wipe 17 = .ok (.ireturn, 1) := by decide +kernel
theorem dX7_text_0 : decode cX7_text 0 = .ok (.aload_n 0, 1) := by decide +kernel
theorem dX7_text_1 : decode cX7_text 1 = .ok (.getfield 19, 3) := by decide +kernel
theorem dX7_text_4 : decode cX7_text 4 = .ok (.aload_n 0, 1) := by decide +kernel
theorem dX7_text_5 : decode cX7_text 5 = .ok (.getfield 12, 3) := by decide +kernel
theorem dX7_text_8 : decode cX7_text 8 = .ok (.invokevirtual 264, 3) := by decide +kernel
theorem dX7_text_11 : decode cX7_text 11 = .ok (.aload_n 0, 1) := by decide +kernel
theorem dX7_text_12 : decode cX7_text 12 = .ok (.getfield 48, 3) := by decide +kernel
theorem dX7_text_15 : decode cX7_text 15 = .ok (.invokevirtual 268, 3) := by decide +kernel
theorem dX7_text_18 : decode cX7_text 18 = .ok (.istore_n 1, 1) := by decide +kernel
theorem dX7_text_19 : decode cX7_text 19 = .ok (.iload_n 1, 1) := by decide +kernel
theorem dX7_text_20 : decode cX7_text 20 = .ok (.ifCond .lt 14, 3) := by decide +kernel
theorem dX7_text_23 : decode cX7_text 23 = .ok (.aload_n 0, 1) := by decide +kernel
theorem dX7_text_24 : decode cX7_text 24 = .ok (.getfield 12, 3) := by decide +kernel
theorem dX7_text_27 : decode cX7_text 27 = .ok (.aload_n 0, 1) := by decide +kernel
theorem dX7_text_28 : decode cX7_text 28 = .ok (.getfield 19, 3) := by decide +kernel
theorem dX7_text_31 : decode cX7_text 31 = .ok (.invokevirtual 264, 3) := by decide +kernel
theorem dX7_text_34 : decode cX7_text 34 = .ok (.aload_n 0, 1) := by decide +kernel
theorem dX7_text_35 : decode cX7_text 35 = .ok (.getfield 39, 3) := by decide +kernel
theorem dX7_text_38 : decode cX7_text 38 = .ok (.iconst 0, 1) := by decide +kernel
theorem dX7_text_39 : decode cX7_text 39 = .ok (.putfield 257, 3) := by decide +kernel
theorem dX7_text_42 : decode cX7_text 42 = .ok (.iload_n 1, 1) := by decide +kernel
theorem dX7_text_43 : decode cX7_text 43 = .ok (.ireturn, 1) := by decide +kernel
theorem dX7_hold_0 : decode cX7_hold 0 = .ok (.iload_n 1, 1) := by decide +kernel
theorem dX7_hold_1 : decode cX7_hold 1 = .ok (.invokestatic 271, 3) := by decide +kernel
theorem dX7_hold_4 : decode cX7_hold 4 = .ok (.ifCond .eq 19, 3) := by decide +kernel
theorem dX7_hold_7 : decode cX7_hold 7 = .ok (.aload_n 0, 1) := by decide +kernel
theorem dX7_hold_8 : decode cX7_hold 8 = .ok (.getfield 12, 3) := by decide +kernel
theorem dX7_hold_11 : decode cX7_hold 11 = .ok (.iload_n 2, 1) := by decide +kernel
theorem dX7_hold_12 : decode cX7_hold 12 = .ok (.invokevirtual 85, 3) := by decide +kernel
theorem dX7_hold_15 : decode cX7_hold 15 = .ok (.ifCond .ne 15, 3) := by decide +kernel
theorem dX7_hold_18 : decode cX7_hold 18 = .ok (.iload_n 2, 1) := by decide +kernel
theorem dX7_hold_19 : decode cX7_hold 19 = .ok (.iconst (-1), 1) := by decide +kernel
theorem dX7_hold_20 : decode cX7_hold 20 = .ok (.if_icmp .eq 10, 3) := by decide +kernel
theorem dX7_hold_23 : decode cX7_hold 23 = .ok (.aload_n 0, 1) := by decide +kernel
theorem dX7_hold_24 : decode cX7_hold 24 = .ok (.ldc 67, 2) := by decide +kernel
theorem dX7_hold_26 : decode cX7_hold 26 = .ok (.invokevirtual 68, 3) := by decide +kernel
theorem dX7_hold_29 : decode cX7_hold 29 = .ok (.ireturn, 1) := by decide +kernel
theorem dX7_hold_30 : decode cX7_hold 30 = .ok (.aload_n 0, 1) := by decide +kernel
theorem dX7_hold_31 : decode cX7_hold 31 = .ok (.getfield 12, 3) := by decide +kernel
theorem dX7_hold_34 : decode cX7_hold 34 = .ok (.getfield 274, 3) := by decide +kernel
theorem dX7_hold_37 : decode cX7_hold 37 = .ok (.iload_n 1, 1) := by decide +kernel
theorem dX7_hold_38 : decode cX7_hold 38 = .ok (.iload_n 2, 1) := by decide +kernel
theorem dX7_hold_39 : decode cX7_hold 39 = .ok (.iastore, 1) := by decide +kernel
theorem dX7_hold_40 : decode cX7_hold 40 = .ok (.iconst 1, 1) := by decide +kernel
theorem dX7_hold_41 : decode cX7_hold 41 = .ok (.ireturn, 1) := by decide +kernel
theorem dX7_as_0 : decode cX7_as 0 = .ok (.iload_n 1, 1) := by decide +kernel
theorem dX7_as_1 : decode cX7_as 1 = .ok (.invokestatic 271, 3) := by decide +kernel
theorem dX7_as_4 : decode cX7_as 4 = .ok (.ifCond .eq 10, 3) := by decide +kernel
theorem dX7_as_7 : decode cX7_as 7 = .ok (.iload_n 2, 1) := by decide +kernel
theorem dX7_as_8 : decode cX7_as 8 = .ok (.invokestatic 63, 3) := by decide +kernel
theorem dX7_as_11 : decode cX7_as 11 = .ok (.ifCond .ne 10, 3) := by decide +kernel
theorem dX7_as_14 : decode cX7_as 14 = .ok (.aload_n 0, 1) := by decide +kernel
theorem dX7_as_15 : decode cX7_as 15 = .ok (.ldc 67, 2) := by decide +kernel
theorem dX7_as_17 : decode cX7_as 17 = .ok (.invokevirtual 68, 3) := by decide +kernel
theorem dX7_as_20 : decode cX7_as 20 = .ok (.ireturn, 1) := by decide +kernel
theorem dX7_as_21 : decode cX7_as 21 = .ok (.aload_n 0, 1) := by decide +kernel
theorem dX7_as_22 : decode cX7_as 22 = .ok (.getfield 12, 3) := by decide +kernel
theorem dX7_as_25 : decode cX7_as 25 = .ok (.getfield 274, 3) := by decide +kernel
theorem dX7_as_28 : decode cX7_as 28 = .ok (.iload_n 1, 1) := by decide +kernel
theorem dX7_as_29 : decode cX7_as 29 = .ok (.iaload, 1) := by decide +kernel
theorem dX7_as_30 : decode cX7_as 30 = .ok (.istore_n 3, 1) := by decide +kernel
theorem dX7_as_31 : decode cX7_as 31 = .ok (.aload_n 0, 1) := by decide +kernel
theorem dX7_as_32 : decode cX7_as 32 = .ok (.getfield 12, 3) := by decide +kernel
theorem dX7_as_35 : decode cX7_as 35 = .ok (.iload_n 3, 1) := by decide +kernel
theorem dX7_as_36 : decode cX7_as 36 = .ok (.invokevirtual 85, 3) := by decide +kernel
theorem dX7_as_39 : decode cX7_as 39 = .ok (.ifCond .ne 10, 3) := by decide +kernel
theorem dX7_as_42 : decode cX7_as 42 = .ok (.aload_n 0, 1) := by decide +kernel
theorem dX7_as_43 : decode cX7_as 43 = .ok (.ldc 236, 2) := by decide +kernel
theorem dX7_as_45 : decode cX7_as 45 = .ok (.invokevirtual 68, 3) := by decide +kernel
theorem dX7_as_48 : decode cX7_as 48 = .ok (.ireturn, 1) := by decide +kernel
theorem dX7_as_49 : decode cX7_as 49 = .ok (.aload_n 0, 1) := by decide +kernel
theorem dX7_as_50 : decode cX7_as 50 = .ok (.getfield 12, 3) := by decide +kernel
theorem dX7_as_53 : decode cX7_as 53 = .ok (.getfield 277, 3) := by decide +kernel
theorem dX7_as_56 : decode cX7_as 56 = .ok (.iload_n 3, 1) := by decide +kernel
theorem dX7_as_57 : decode cX7_as 57 = .ok (.iaload, 1) := by decide +kernel
theorem dX7_as_58 : decode cX7_as 58 = .ok (.iload_n 2, 1) := by decide +kernel
theorem dX7_as_59 : decode cX7_as 59 = .ok (.invokestatic 280, 3) := by decide +kernel
theorem dX7_as_62 : decode cX7_as 62 = .ok (.ifCond .ne 10, 3) := by decide +kernel
theorem dX7_as_65 : decode cX7_as 65 = .ok (.aload_n 0, 1) := by decide +kernel
theorem dX7_as_66 : decode cX7_as 66 = .ok (.ldc 201, 2) := by decide +kernel
theorem dX7_as_68 : decode cX7_as 68 = .ok (.invokevirtual 68, 3) := by decide +kernel
theorem dX7_as_71 : decode cX7_as 71 = .ok (.ireturn, 1) := by decide +kernel
theorem dX7_as_72 : decode cX7_as 72 = .ok (.iload_n 3, 1) := by decide +kernel
theorem dX7_as_73 : decode cX7_as 73 = .ok (.ireturn, 1) := by decide +kernel
theorem dX7_sheet_0 : decode cX7_sheet 0 = .ok (.iload_n 1, 1) := by decide +kernel
theorem dX7_sheet_1 : decode cX7_sheet 1 = .ok (.invokestatic 229, 3) := by decide +kernel
theorem dX7_sheet_4 : decode cX7_sheet 4 = .ok (.ifCond .eq 25, 3) := by decide +kernel
theorem dX7_sheet_7 : decode cX7_sheet 7 = .ok (.iload_n 2, 1) := by decide +kernel
theorem dX7_sheet_8 : decode cX7_sheet 8 = .ok (.ifCond .eq 28, 3) := by decide +kernel
theorem dX7_sheet_11 : decode cX7_sheet 11 = .ok (.iload_n 2, 1) := by decide +kernel
theorem dX7_sheet_12 : decode cX7_sheet 12 = .ok (.bipush 8, 2) := by decide +kernel
theorem dX7_sheet_14 : decode cX7_sheet 14 = .ok (.if_icmp .eq 22, 3) := by decide +kernel
theorem dX7_sheet_17 : decode cX7_sheet 17 = .ok (.iload_n 2, 1) := by decide +kernel
theorem dX7_sheet_18 : decode cX7_sheet 18 = .ok (.bipush 16, 2) := by decide +kernel
theorem dX7_sheet_20 : decode cX7_sheet 20 = .ok (.if_icmp .eq 16, 3) := by decide +kernel
theorem dX7_sheet_23 : decode cX7_sheet 23 = .ok (.iload_n 2, 1) := by decide +kernel
theorem dX7_sheet_24 : decode cX7_sheet 24 = .ok (.bipush 32, 2) := by decide +kernel
theorem dX7_sheet_26 : decode cX7_sheet 26 = .ok (.if_icmp .eq 10, 3) := by decide +kernel
theorem dX7_sheet_29 : decode cX7_sheet 29 = .ok (.aload_n 0, 1) := by decide +kernel
theorem dX7_sheet_30 : decode cX7_sheet 30 = .ok (.ldc 67, 2) := by decide +kernel
theorem dX7_sheet_32 : decode cX7_sheet 32 = .ok (.invokevirtual 68, 3) := by decide +kernel
theorem dX7_sheet_35 : decode cX7_sheet 35 = .ok (.ireturn, 1) := by decide +kernel
theorem dX7_sheet_36 : decode cX7_sheet 36 = .ok (.iload_n 3, 1) := by decide +kernel
theorem dX7_sheet_37 : decode cX7_sheet 37 = .ok (.ifCond .ge 11, 3) := by decide +kernel
theorem dX7_sheet_40 : decode cX7_sheet 40 = .ok (.aload_n 0, 1) := by decide +kernel
theorem dX7_sheet_41 : decode cX7_sheet 41 = .ok (.ldc_w 286, 3) := by decide +kernel
theorem dX7_sheet_44 : decode cX7_sheet 44 = .ok (.invokevirtual 68, 3) := by decide +kernel
theorem dX7_sheet_47 : decode cX7_sheet 47 = .ok (.ireturn, 1) := by decide +kernel
theorem dX7_sheet_48 : decode cX7_sheet 48 = .ok (.iload_n 3, 1) := by decide +kernel
theorem dX7_sheet_49 : decode cX7_sheet 49 = .ok (.bipush 40, 2) := by decide +kernel
theorem dX7_sheet_51 : decode cX7_sheet 51 = .ok (.if_icmp .le 10, 3) := by decide +kernel
theorem dX7_sheet_54 : decode cX7_sheet 54 = .ok (.aload_n 0, 1) := by decide +kernel
theorem dX7_sheet_55 : decode cX7_sheet 55 = .ok (.ldc 67, 2) := by decide +kernel
theorem dX7_sheet_57 : decode cX7_sheet 57 = .ok (.invokevirtual 68, 3) := by decide +kernel
theorem dX7_sheet_60 : decode cX7_sheet 60 = .ok (.ireturn, 1) := by decide +kernel
theorem dX7_sheet_61 : decode cX7_sheet 61 = .ok (.aload_n 0, 1) := by decide +kernel
theorem dX7_sheet_62 : decode cX7_sheet 62 = .ok (.getfield 54, 3) := by decide +kernel
theorem dX7_sheet_65 : decode cX7_sheet 65 = .ok (.iload_n 1, 1) := by decide +kernel
theorem dX7_sheet_66 : decode cX7_sheet 66 = .ok (.aaload, 1) := by decide +kernel
theorem dX7_sheet_67 : decode cX7_sheet 67 = .ok (.iload_n 2, 1) := by decide +kernel
theorem dX7_sheet_68 : decode cX7_sheet 68 = .ok (.iload_n 3, 1) := by decide +kernel
theorem dX7_sheet_69 : decode cX7_sheet 69 = .ok (.invokevirtual 287, 3) := by decide +kernel
theorem dX7_sheet_72 : decode cX7_sheet 72 = .ok (.aload_n 0, 1) := by decide +kernel
theorem dX7_sheet_73 : decode cX7_sheet 73 = .ok (.getfield 54, 3) := by decide +kernel
theorem dX7_sheet_76 : decode cX7_sheet 76 = .ok (.iload_n 1, 1) := by decide +kernel
theorem dX7_sheet_77 : decode cX7_sheet 77 = .ok (.aaload, 1) := by decide +kernel
theorem dX7_sheet_78 : decode cX7_sheet 78 = .ok (.getfield 241, 3) := by decide +kernel
theorem dX7_sheet_81 : decode cX7_sheet 81 = .ok (.ireturn, 1) := by decide +kernel
theorem dX7_write_0 : decode cX7_write 0 = .ok (.iload_n 1, 1) := by decide +kernel
theorem dX7_write_1 : decode cX7_write 1 = .ok (.invokestatic 229, 3) := by decide +kernel
theorem dX7_write_4 : decode cX7_write 4 = .ok (.ifCond .ne 10, 3) := by decide +kernel
theorem dX7_write_7 : decode cX7_write 7 = .ok (.aload_n 0, 1) := by decide +kernel
theorem dX7_write_8 : decode cX7_write 8 = .ok (.ldc 67, 2) := by decide +kernel
theorem dX7_write_10 : decode cX7_write 10 = .ok (.invokevirtual 68, 3) := by decide +kernel
theorem dX7_write_13 : decode cX7_write 13 = .ok (.ireturn, 1) := by decide +kernel
theorem dX7_write_14 : decode cX7_write 14 = .ok (.aload_n 0, 1) := by decide +kernel
theorem dX7_write_15 : decode cX7_write 15 = .ok (.getfield 54, 3) := by decide +kernel
theorem dX7_write_18 : decode cX7_write 18 = .ok (.iload_n 1, 1) := by decide +kernel
theorem dX7_write_19 : decode cX7_write 19 = .ok (.aaload, 1) := by decide +kernel
theorem dX7_write_20 : decode cX7_write 20 = .ok (.invokevirtual 232, 3) := by decide +kernel
theorem dX7_write_23 : decode cX7_write 23 = .ok (.ifCond .eq 10, 3) := by decide +kernel
theorem dX7_write_26 : decode cX7_write 26 = .ok (.aload_n 0, 1) := by decide +kernel
theorem dX7_write_27 : decode cX7_write 27 = .ok (.ldc 236, 2) := by decide +kernel
theorem dX7_write_29 : decode cX7_write 29 = .ok (.invokevirtual 68, 3) := by decide +kernel
theorem dX7_write_32 : decode cX7_write 32 = .ok (.ireturn, 1) := by decide +kernel
theorem dX7_write_33 : decode cX7_write 33 = .ok (.iload_n 2, 1) := by decide +kernel
theorem dX7_write_34 : decode cX7_write 34 = .ok (.iconst 0, 1) := by decide +kernel
theorem dX7_write_35 : decode cX7_write 35 = .ok (.aload_n 0, 1) := by decide +kernel
theorem dX7_write_36 : decode cX7_write 36 = .ok (.getfield 54, 3) := by decide +kernel
theorem dX7_write_39 : decode cX7_write 39 = .ok (.iload_n 1, 1) := by decide +kernel
theorem dX7_write_40 : decode cX7_write 40 = .ok (.aaload, 1) := by decide +kernel
theorem dX7_write_41 : decode cX7_write 41 = .ok (.getfield 241, 3) := by decide +kernel
theorem dX7_write_44 : decode cX7_write 44 = .ok (.iconst 1, 1) := by decide +kernel
theorem dX7_write_45 : decode cX7_write 45 = .ok (.isub, 1) := by decide +kernel
theorem dX7_write_46 : decode cX7_write 46 = .ok (.invokestatic 94, 3) := by decide +kernel
theorem dX7_write_49 : decode cX7_write 49 = .ok (.ifCond .ne 10, 3) := by decide +kernel
theorem dX7_write_52 : decode cX7_write 52 = .ok (.aload_n 0, 1) := by decide +kernel
theorem dX7_write_53 : decode cX7_write 53 = .ok (.ldc 67, 2) := by decide +kernel
theorem dX7_write_55 : decode cX7_write 55 = .ok (.invokevirtual 68, 3) := by decide +kernel
theorem dX7_write_58 : decode cX7_write 58 = .ok (.ireturn, 1) := by decide +kernel
theorem dX7_write_59 : decode cX7_write 59 = .ok (.aload_n 0, 1) := by decide +kernel
theorem dX7_write_60 : decode cX7_write 60 = .ok (.getfield 54, 3) := by decide +kernel
theorem dX7_write_63 : decode cX7_write 63 = .ok (.iload_n 1, 1) := by decide +kernel
theorem dX7_write_64 : decode cX7_write 64 = .ok (.aaload, 1) := by decide +kernel
theorem dX7_write_65 : decode cX7_write 65 = .ok (.iload_n 2, 1) := by decide +kernel
theorem dX7_write_66 : decode cX7_write 66 = .ok (.iload_n 3, 1) := by decide +kernel
theorem dX7_write_67 : decode cX7_write 67 = .ok (.invokevirtual 290, 3) := by decide +kernel
theorem dX7_write_70 : decode cX7_write 70 = .ok (.iconst 1, 1) := by decide +kernel
theorem dX7_write_71 : decode cX7_write 71 = .ok (.ireturn, 1) := by decide +kernel
theorem dX7_copy_0 : decode cX7_copy 0 = .ok (.iload_n 1, 1) := by decide +kernel
theorem dX7_copy_1 : decode cX7_copy 1 = .ok (.invokestatic 229, 3) := by decide +kernel
theorem dX7_copy_4 : decode cX7_copy 4 = .ok (.ifCond .eq 10, 3) := by decide +kernel
theorem dX7_copy_7 : decode cX7_copy 7 = .ok (.iload_n 3, 1) := by decide +kernel
theorem dX7_copy_8 : decode cX7_copy 8 = .ok (.invokestatic 229, 3) := by decide +kernel
theorem dX7_copy_11 : decode cX7_copy 11 = .ok (.ifCond .ne 10, 3) := by decide +kernel
theorem dX7_copy_14 : decode cX7_copy 14 = .ok (.aload_n 0, 1) := by decide +kernel
theorem dX7_copy_15 : decode cX7_copy 15 = .ok (.ldc 67, 2) := by decide +kernel
theorem dX7_copy_17 : decode cX7_copy 17 = .ok (.invokevirtual 68, 3) := by decide +kernel
theorem dX7_copy_20 : decode cX7_copy 20 = .ok (.ireturn, 1) := by decide +kernel
theorem dX7_copy_21 : decode cX7_copy 21 = .ok (.aload_n 0, 1) := by decide +kernel
theorem dX7_copy_22 : decode cX7_copy 22 = .ok (.getfield 54, 3) := by decide +kernel
theorem dX7_copy_25 : decode cX7_copy 25 = .ok (.iload_n 1, 1) := by decide +kernel
theorem dX7_copy_26 : decode cX7_copy 26 = .ok (.aaload, 1) := by decide +kernel
theorem dX7_copy_27 : decode cX7_copy 27 = .ok (.invokevirtual 232, 3) := by decide +kernel
theorem dX7_copy_30 : decode cX7_copy 30 = .ok (.ifCond .ne 15, 3) := by decide +kernel
theorem dX7_copy_33 : decode cX7_copy 33 = .ok (.aload_n 0, 1) := by decide +kernel
theorem dX7_copy_34 : decode cX7_copy 34 = .ok (.getfield 54, 3) := by decide +kernel
theorem dX7_copy_37 : decode cX7_copy 37 = .ok (.iload_n 3, 1) := by decide +kernel
theorem dX7_copy_38 : decode cX7_copy 38 = .ok (.aaload, 1) := by decide +kernel
theorem dX7_copy_39 : decode cX7_copy 39 = .ok (.invokevirtual 232, 3) := by decide +kernel
theorem dX7_copy_42 : decode cX7_copy 42 = .ok (.ifCond .eq 10, 3) := by decide +kernel
theorem dX7_copy_45 : decode cX7_copy 45 = .ok (.aload_n 0, 1) := by decide +kernel
theorem dX7_copy_46 : decode cX7_copy 46 = .ok (.ldc 236, 2) := by decide +kernel
theorem dX7_copy_48 : decode cX7_copy 48 = .ok (.invokevirtual 68, 3) := by decide +kernel
theorem dX7_copy_51 : decode cX7_copy 51 = .ok (.ireturn, 1) := by decide +kernel
theorem dX7_copy_52 : decode cX7_copy 52 = .ok (.aload_n 0, 1) := by decide +kernel
theorem dX7_copy_53 : decode cX7_copy 53 = .ok (.getfield 54, 3) := by decide +kernel
theorem dX7_copy_56 : decode cX7_copy 56 = .ok (.iload_n 1, 1) := by decide +kernel
theorem dX7_copy_57 : decode cX7_copy 57 = .ok (.aaload, 1) := by decide +kernel
theorem dX7_copy_58 : decode cX7_copy 58 = .ok (.getfield 293, 3) := by decide +kernel
theorem dX7_copy_61 : decode cX7_copy 61 = .ok (.aload_n 0, 1) := by decide +kernel
theorem dX7_copy_62 : decode cX7_copy 62 = .ok (.getfield 54, 3) := by decide +kernel
theorem dX7_copy_65 : decode cX7_copy 65 = .ok (.iload_n 3, 1) := by decide +kernel
theorem dX7_copy_66 : decode cX7_copy 66 = .ok (.aaload, 1) := by decide +kernel
theorem dX7_copy_67 : decode cX7_copy 67 = .ok (.getfield 293, 3) := by decide +kernel
theorem dX7_copy_70 : decode cX7_copy 70 = .ok (.if_icmp .eq 10, 3) := by decide +kernel
theorem dX7_copy_73 : decode cX7_copy 73 = .ok (.aload_n 0, 1) := by decide +kernel
theorem dX7_copy_74 : decode cX7_copy 74 = .ok (.ldc 201, 2) := by decide +kernel
theorem dX7_copy_76 : decode cX7_copy 76 = .ok (.invokevirtual 68, 3) := by decide +kernel
theorem dX7_copy_79 : decode cX7_copy 79 = .ok (.ireturn, 1) := by decide +kernel
theorem dX7_copy_80 : decode cX7_copy 80 = .ok (.aload_n 0, 1) := by decide +kernel
theorem dX7_copy_81 : decode cX7_copy 81 = .ok (.getfield 54, 3) := by decide +kernel
theorem dX7_copy_84 : decode cX7_copy 84 = .ok (.iload_n 1, 1) := by decide +kernel
theorem dX7_copy_85 : decode cX7_copy 85 = .ok (.aaload, 1) := by decide +kernel
theorem dX7_copy_86 : decode cX7_copy 86 = .ok (.iload_n 2, 1) := by decide +kernel
theorem dX7_copy_87 : decode cX7_copy 87 = .ok (.iload 5, 2) := by decide +kernel
theorem dX7_copy_89 : decode cX7_copy 89 = .ok (.invokevirtual 296, 3) := by decide +kernel
theorem dX7_copy_92 : decode cX7_copy 92 = .ok (.ifCond .eq 19, 3) := by decide +kernel
theorem dX7_copy_95 : decode cX7_copy 95 = .ok (.aload_n 0, 1) := by decide +kernel
theorem dX7_copy_96 : decode cX7_copy 96 = .ok (.getfield 54, 3) := by decide +kernel
theorem dX7_copy_99 : decode cX7_copy 99 = .ok (.iload_n 3, 1) := by decide +kernel
theorem dX7_copy_100 : decode cX7_copy 100 = .ok (.aaload, 1) := by decide +kernel
theorem dX7_copy_101 : decode cX7_copy 101 = .ok (.iload 4, 2) := by decide +kernel
theorem dX7_copy_103 : decode cX7_copy 103 = .ok (.iload 5, 2) := by decide +kernel
theorem dX7_copy_105 : decode cX7_copy 105 = .ok (.invokevirtual 296, 3) := by decide +kernel
theorem dX7_copy_108 : decode cX7_copy 108 = .ok (.ifCond .ne 10, 3) := by decide +kernel
theorem dX7_copy_111 : decode cX7_copy 111 = .ok (.aload_n 0, 1) := by decide +kernel
theorem dX7_copy_112 : decode cX7_copy 112 = .ok (.ldc 67, 2) := by decide +kernel
theorem dX7_copy_114 : decode cX7_copy 114 = .ok (.invokevirtual 68, 3) := by decide +kernel
theorem dX7_copy_117 : decode cX7_copy 117 = .ok (.ireturn, 1) := by decide +kernel
theorem dX7_copy_118 : decode cX7_copy 118 = .ok (.aload_n 0, 1) := by decide +kernel
theorem dX7_copy_119 : decode cX7_copy 119 = .ok (.getfield 54, 3) := by decide +kernel
theorem dX7_copy_122 : decode cX7_copy 122 = .ok (.iload_n 1, 1) := by decide +kernel
theorem dX7_copy_123 : decode cX7_copy 123 = .ok (.aaload, 1) := by decide +kernel
theorem dX7_copy_124 : decode cX7_copy 124 = .ok (.getfield 299, 3) := by decide +kernel
theorem dX7_copy_127 : decode cX7_copy 127 = .ok (.iload_n 2, 1) := by decide +kernel
theorem dX7_copy_128 : decode cX7_copy 128 = .ok (.aload_n 0, 1) := by decide +kernel
theorem dX7_copy_129 : decode cX7_copy 129 = .ok (.getfield 54, 3) := by decide +kernel
theorem dX7_copy_132 : decode cX7_copy 132 = .ok (.iload_n 3, 1) := by decide +kernel
theorem dX7_copy_133 : decode cX7_copy 133 = .ok (.aaload, 1) := by decide +kernel
theorem dX7_copy_134 : decode cX7_copy 134 = .ok (.getfield 299, 3) := by decide +kernel
theorem dX7_copy_137 : decode cX7_copy 137 = .ok (.iload 4, 2) := by decide +kernel
theorem dX7_copy_139 : decode cX7_copy 139 = .ok (.iload 5, 2) := by decide +kernel
theorem dX7_copy_141 : decode cX7_copy 141 = .ok (.invokestatic 302, 3) := by decide +kernel
theorem dX7_copy_144 : decode cX7_copy 144 = .ok (.iload 5, 2) := by decide +kernel
theorem dX7_copy_146 : decode cX7_copy 146 = .ok (.ireturn, 1) := by decide +kernel
theorem dX7_load_0 : decode cX7_load 0 = .ok (.iload_n 1, 1) := by decide +kernel
theorem dX7_load_1 : decode cX7_load 1 = .ok (.invokestatic 229, 3) := by decide +kernel
theorem dX7_load_4 : decode cX7_load 4 = .ok (.ifCond .ne 10, 3) := by decide +kernel
theorem dX7_load_7 : decode cX7_load 7 = .ok (.aload_n 0, 1) := by decide +kernel
theorem dX7_load_8 : decode cX7_load 8 = .ok (.ldc 67, 2) := by decide +kernel
theorem dX7_load_10 : decode cX7_load 10 = .ok (.invokevirtual 68, 3) := by decide +kernel
theorem dX7_load_13 : decode cX7_load 13 = .ok (.ireturn, 1) := by decide +kernel
theorem dX7_load_14 : decode cX7_load 14 = .ok (.aload_n 0, 1) := by decide +kernel
theorem dX7_load_15 : decode cX7_load 15 = .ok (.getfield 54, 3) := by decide +kernel
theorem dX7_load_18 : decode cX7_load 18 = .ok (.iload_n 1, 1) := by decide +kernel
theorem dX7_load_19 : decode cX7_load 19 = .ok (.aaload, 1) := by decide +kernel
theorem dX7_load_20 : decode cX7_load 20 = .ok (.invokevirtual 232, 3) := by decide +kernel
theorem dX7_load_23 : decode cX7_load 23 = .ok (.ifCond .eq 10, 3) := by decide +kernel
theorem dX7_load_26 : decode cX7_load 26 = .ok (.aload_n 0, 1) := by decide +kernel
theorem dX7_load_27 : decode cX7_load 27 = .ok (.ldc 236, 2) := by decide +kernel
theorem dX7_load_29 : decode cX7_load 29 = .ok (.invokevirtual 68, 3) := by decide +kernel
theorem dX7_load_32 : decode cX7_load 32 = .ok (.ireturn, 1) := by decide +kernel
theorem dX7_load_33 : decode cX7_load 33 = .ok (.iconst 0, 1) := by decide +kernel
theorem dX7_load_34 : decode cX7_load 34 = .ok (.istore_n 2, 1) := by decide +kernel
theorem dX7_load_35 : decode cX7_load 35 = .ok (.aload_n 0, 1) := by decide +kernel
theorem dX7_load_36 : decode cX7_load 36 = .ok (.getfield 54, 3) := by decide +kernel
theorem dX7_load_39 : decode cX7_load 39 = .ok (.iload_n 1, 1) := by decide +kernel
theorem dX7_load_40 : decode cX7_load 40 = .ok (.aaload, 1) := by decide +kernel
theorem dX7_load_41 : decode cX7_load 41 = .ok (.getfield 241, 3) := by decide +kernel
theorem dX7_load_44 : decode cX7_load 44 = .ok (.aload_n 0, 1) := by decide +kernel
theorem dX7_load_45 : decode cX7_load 45 = .ok (.getfield 12, 3) := by decide +kernel
theorem dX7_load_48 : decode cX7_load 48 = .ok (.getfield 72, 3) := by decide +kernel
theorem dX7_load_51 : decode cX7_load 51 = .ok (.invokestatic 308, 3) := by decide +kernel
theorem dX7_load_54 : decode cX7_load 54 = .ok (.istore_n 3, 1) := by decide +kernel
theorem dX7_load_55 : decode cX7_load 55 = .ok (.iload_n 2, 1) := by decide +kernel
theorem dX7_load_56 : decode cX7_load 56 = .ok (.iload_n 3, 1) := by decide +kernel
theorem dX7_load_57 : decode cX7_load 57 = .ok (.if_icmp .ge 49, 3) := by decide +kernel
theorem dX7_load_60 : decode cX7_load 60 = .ok (.aload_n 0, 1) := by decide +kernel
theorem dX7_load_61 : decode cX7_load 61 = .ok (.getfield 54, 3) := by decide +kernel
theorem dX7_load_64 : decode cX7_load 64 = .ok (.iload_n 1, 1) := by decide +kernel
theorem dX7_load_65 : decode cX7_load 65 = .ok (.aaload, 1) := by decide +kernel
theorem dX7_load_66 : decode cX7_load 66 = .ok (.getfield 299, 3) := by decide +kernel
theorem dX7_load_69 : decode cX7_load 69 = .ok (.iload_n 2, 1) := by decide +kernel
theorem dX7_load_70 : decode cX7_load 70 = .ok (.iaload, 1) := by decide +kernel
theorem dX7_load_71 : decode cX7_load 71 = .ok (.iconst 1, 1) := by decide +kernel
theorem dX7_load_72 : decode cX7_load 72 = .ok (.bipush 60, 2) := by decide +kernel
theorem dX7_load_74 : decode cX7_load 74 = .ok (.invokestatic 94, 3) := by decide +kernel
theorem dX7_load_77 : decode cX7_load 77 = .ok (.ifCond .eq 29, 3) := by decide +kernel
theorem dX7_load_80 : decode cX7_load 80 = .ok (.aload_n 0, 1) := by decide +kernel
theorem dX7_load_81 : decode cX7_load 81 = .ok (.getfield 12, 3) := by decide +kernel
theorem dX7_load_84 : decode cX7_load 84 = .ok (.getfield 313, 3) := by decide +kernel
theorem dX7_load_87 : decode cX7_load 87 = .ok (.iload_n 2, 1) := by decide +kernel
theorem dX7_load_88 : decode cX7_load 88 = .ok (.aload_n 0, 1) := by decide +kernel
theorem dX7_load_89 : decode cX7_load 89 = .ok (.getfield 54, 3) := by decide +kernel
theorem dX7_load_92 : decode cX7_load 92 = .ok (.iload_n 1, 1) := by decide +kernel
theorem dX7_load_93 : decode cX7_load 93 = .ok (.aaload, 1) := by decide +kernel
theorem dX7_load_94 : decode cX7_load 94 = .ok (.getfield 299, 3) := by decide +kernel
theorem dX7_load_97 : decode cX7_load 97 = .ok (.iload_n 2, 1) := by decide +kernel
theorem dX7_load_98 : decode cX7_load 98 = .ok (.iaload, 1) := by decide +kernel
theorem dX7_load_99 : decode cX7_load 99 = .ok (.iastore, 1) := by decide +kernel
theorem dX7_load_100 : decode cX7_load 100 = .ok (.iinc 2 1, 3) := by decide +kernel
theorem dX7_load_103 : decode cX7_load 103 = .ok (.goto (-48), 3) := by decide +kernel
theorem dX7_load_106 : decode cX7_load 106 = .ok (.iload_n 2, 1) := by decide +kernel
theorem dX7_load_107 : decode cX7_load 107 = .ok (.ireturn, 1) := by decide +kernel
theorem dX7_judge_0 : decode cX7_judge 0 = .ok (.iload_n 1, 1) := by decide +kernel
theorem dX7_judge_1 : decode cX7_judge 1 = .ok (.invokestatic 229, 3) := by decide +kernel
theorem dX7_judge_4 : decode cX7_judge 4 = .ok (.ifCond .ne 10, 3) := by decide +kernel
theorem dX7_judge_7 : decode cX7_judge 7 = .ok (.aload_n 0, 1) := by decide +kernel
theorem dX7_judge_8 : decode cX7_judge 8 = .ok (.ldc 67, 2) := by decide +kernel
theorem dX7_judge_10 : decode cX7_judge 10 = .ok (.invokevirtual 68, 3) := by decide +kernel
theorem dX7_judge_13 : decode cX7_judge 13 = .ok (.ireturn, 1) := by decide +kernel
theorem dX7_judge_14 : decode cX7_judge 14 = .ok (.aload_n 0, 1) := by decide +kernel
theorem dX7_judge_15 : decode cX7_judge 15 = .ok (.getfield 54, 3) := by decide +kernel
theorem dX7_judge_18 : decode cX7_judge 18 = .ok (.iload_n 1, 1) := by decide +kernel
theorem dX7_judge_19 : decode cX7_judge 19 = .ok (.aaload, 1) := by decide +kernel
theorem dX7_judge_20 : decode cX7_judge 20 = .ok (.invokevirtual 232, 3) := by decide +kernel
theorem dX7_judge_23 : decode cX7_judge 23 = .ok (.ifCond .eq 10, 3) := by decide +kernel
theorem dX7_judge_26 : decode cX7_judge 26 = .ok (.aload_n 0, 1) := by decide +kernel
theorem dX7_judge_27 : decode cX7_judge 27 = .ok (.ldc 236, 2) := by decide +kernel
theorem dX7_judge_29 : decode cX7_judge 29 = .ok (.invokevirtual 68, 3) := by decide +kernel
theorem dX7_judge_32 : decode cX7_judge 32 = .ok (.ireturn, 1) := by decide +kernel
theorem dX7_judge_33 : decode cX7_judge 33 = .ok (.iconst 0, 1) := by decide +kernel
theorem dX7_judge_34 : decode cX7_judge 34 = .ok (.istore_n 2, 1) := by decide +kernel
theorem dX7_judge_35 : decode cX7_judge 35 = .ok (.iload_n 2, 1) := by decide +kernel
theorem dX7_judge_36 : decode cX7_judge 36 = .ok (.aload_n 0, 1) := by decide +kernel
theorem dX7_judge_37 : decode cX7_judge 37 = .ok (.getfield 54, 3) := by decide +kernel
theorem dX7_judge_40 : decode cX7_judge 40 = .ok (.iload_n 1, 1) := by decide +kernel
theorem dX7_judge_41 : decode cX7_judge 41 = .ok (.aaload, 1) := by decide +kernel
theorem dX7_judge_42 : decode cX7_judge 42 = .ok (.getfield 241, 3) := by decide +kernel
theorem dX7_judge_45 : decode cX7_judge 45 = .ok (.if_icmp .ge 42, 3) := by decide +kernel
theorem dX7_judge_48 : decode cX7_judge 48 = .ok (.iload_n 2, 1) := by decide +kernel
theorem dX7_judge_49 : decode cX7_judge 49 = .ok (.invokestatic 107, 3) := by decide +kernel
theorem dX7_judge_52 : decode cX7_judge 52 = .ok (.ifCond .eq 25, 3) := by decide +kernel
theorem dX7_judge_55 : decode cX7_judge 55 = .ok (.aload_n 0, 1) := by decide +kernel
theorem dX7_judge_56 : decode cX7_judge 56 = .ok (.getfield 54, 3) := by decide +kernel
theorem dX7_judge_59 : decode cX7_judge 59 = .ok (.iload_n 1, 1) := by decide +kernel
theorem dX7_judge_60 : decode cX7_judge 60 = .ok (.aaload, 1) := by decide +kernel
theorem dX7_judge_61 : decode cX7_judge 61 = .ok (.getfield 299, 3) := by decide +kernel
theorem dX7_judge_64 : decode cX7_judge 64 = .ok (.iload_n 2, 1) := by decide +kernel
theorem dX7_judge_65 : decode cX7_judge 65 = .ok (.iaload, 1) := by decide +kernel
theorem dX7_judge_66 : decode cX7_judge 66 = .ok (.aload_n 0, 1) := by decide +kernel
theorem dX7_judge_67 : decode cX7_judge 67 = .ok (.getfield 12, 3) := by decide +kernel
theorem dX7_judge_70 : decode cX7_judge 70 = .ok (.iload_n 2, 1) := by decide +kernel
theorem dX7_judge_71 : decode cX7_judge 71 = .ok (.invokevirtual 119, 3) := by decide +kernel
theorem dX7_judge_74 : decode cX7_judge 74 = .ok (.if_icmp .eq 7, 3) := by decide +kernel
theorem dX7_judge_77 : decode cX7_judge 77 = .ok (.iconst 1, 1) := by decide +kernel
theorem dX7_judge_78 : decode cX7_judge 78 = .ok (.iload_n 2, 1) := by decide +kernel
theorem dX7_judge_79 : decode cX7_judge 79 = .ok (.iadd, 1) := by decide +kernel
theorem dX7_judge_80 : decode cX7_judge 80 = .ok (.ireturn, 1) := by decide +kernel
theorem dX7_judge_81 : decode cX7_judge 81 = .ok (.iinc 2 1, 3) := by decide +kernel
theorem dX7_judge_84 : decode cX7_judge 84 = .ok (.goto (-49), 3) := by decide +kernel
theorem dX7_judge_87 : decode cX7_judge 87 = .ok (.iconst 0, 1) := by decide +kernel
theorem dX7_judge_88 : decode cX7_judge 88 = .ok (.ireturn, 1) := by decide +kernel
theorem dX7_image_0 : decode cX7_image 0 = .ok (.aload_n 0, 1) := by decide +kernel
theorem dX7_image_1 : decode cX7_image 1 = .ok (.getfield 16, 3) := by decide +kernel
theorem dX7_image_4 : decode cX7_image 4 = .ok (.aload_n 0, 1) := by decide +kernel
theorem dX7_image_5 : decode cX7_image 5 = .ok (.getfield 12, 3) := by decide +kernel
theorem dX7_image_8 : decode cX7_image 8 = .ok (.invokevirtual 264, 3) := by decide +kernel
theorem dX7_image_11 : decode cX7_image 11 = .ok (.aload_n 0, 1) := by decide +kernel
theorem dX7_image_12 : decode cX7_image 12 = .ok (.iconst 1, 1) := by decide +kernel
theorem dX7_image_13 : decode cX7_image 13 = .ok (.putfield 316, 3) := by decide +kernel
theorem dX7_image_16 : decode cX7_image 16 = .ok (.iconst 1, 1) := by decide +kernel
theorem dX7_image_17 : decode cX7_image 17 = .ok (.ireturn, 1) := by decide +kernel
theorem dX7_undo_0 : decode cX7_undo 0 = .ok (.aload_n 0, 1) := by decide +kernel
theorem dX7_undo_1 : decode cX7_undo 1 = .ok (.getfield 316, 3) := by decide +kernel
theorem dX7_undo_4 : decode cX7_undo 4 = .ok (.ifCond .ne 10, 3) := by decide +kernel
theorem dX7_undo_7 : decode cX7_undo 7 = .ok (.aload_n 0, 1) := by decide +kernel
theorem dX7_undo_8 : decode cX7_undo 8 = .ok (.ldc 188, 2) := by decide +kernel
theorem dX7_undo_10 : decode cX7_undo 10 = .ok (.invokevirtual 68, 3) := by decide +kernel
theorem dX7_undo_13 : decode cX7_undo 13 = .ok (.ireturn, 1) := by decide +kernel
theorem dX7_undo_14 : decode cX7_undo 14 = .ok (.aload_n 0, 1) := by decide +kernel
theorem dX7_undo_15 : decode cX7_undo 15 = .ok (.getfield 12, 3) := by decide +kernel
theorem dX7_undo_18 : decode cX7_undo 18 = .ok (.aload_n 0, 1) := by decide +kernel
theorem dX7_undo_19 : decode cX7_undo 19 = .ok (.getfield 16, 3) := by decide +kernel
theorem dX7_undo_22 : decode cX7_undo 22 = .ok (.invokevirtual 264, 3) := by decide +kernel
theorem dX7_undo_25 : decode cX7_undo 25 = .ok (.aload_n 0, 1) := by decide +kernel
theorem dX7_undo_26 : decode cX7_undo 26 = .ok (.getfield 12, 3) := by decide +kernel
theorem dX7_undo_29 : decode cX7_undo 29 = .ok (.getfield 155, 3) := by decide +kernel
theorem dX7_undo_32 : decode cX7_undo 32 = .ok (.ireturn, 1) := by decide +kernel
theorem dX7_tear_0 : decode cX7_tear 0 = .ok (.aload_n 0, 1) := by decide +kernel
theorem dX7_tear_1 : decode cX7_tear 1 = .ok (.getfield 316, 3) := by decide +kernel
theorem dX7_tear_4 : decode cX7_tear 4 = .ok (.ifCond .eq 7, 3) := by decide +kernel
theorem dX7_tear_7 : decode cX7_tear 7 = .ok (.iconst 1, 1) := by decide +kernel
theorem dX7_tear_8 : decode cX7_tear 8 = .ok (.goto 4, 3) := by decide +kernel
theorem dX7_tear_11 : decode cX7_tear 11 = .ok (.iconst 0, 1) := by decide +kernel
theorem dX7_tear_12 : decode cX7_tear 12 = .ok (.istore_n 1, 1) := by decide +kernel
theorem dX7_tear_13 : decode cX7_tear 13 = .ok (.aload_n 0, 1) := by decide +kernel
theorem dX7_tear_14 : decode cX7_tear 14 = .ok (.iconst 0, 1) := by decide +kernel
theorem dX7_tear_15 : decode cX7_tear 15 = .ok (.putfield 316, 3) := by decide +kernel
theorem dX7_tear_18 : decode cX7_tear 18 = .ok (.iload_n 1, 1) := by decide +kernel
theorem dX7_tear_19 : decode cX7_tear 19 = .ok (.ireturn, 1) := by decide +kernel
theorem dX7_count_0 : decode cX7_count 0 = .ok (.iload_n 1, 1) := by decide +kernel
theorem dX7_count_1 : decode cX7_count 1 = .ok (.tableswitch 114 0 7 #[47, 55, 63, 71, 82, 90, 98, 106], 47) := by decide +kernel
theorem dX7_count_48 : decode cX7_count 48 = .ok (.aload_n 0, 1) := by decide +kernel
theorem dX7_count_49 : decode cX7_count 49 = .ok (.getfield 12, 3) := by decide +kernel
theorem dX7_count_52 : decode cX7_count 52 = .ok (.getfield 155, 3) := by decide +kernel
theorem dX7_count_55 : decode cX7_count 55 = .ok (.ireturn, 1) := by decide +kernel
theorem dX7_count_56 : decode cX7_count 56 = .ok (.aload_n 0, 1) := by decide +kernel
theorem dX7_count_57 : decode cX7_count 57 = .ok (.getfield 12, 3) := by decide +kernel
theorem dX7_count_60 : decode cX7_count 60 = .ok (.getfield 72, 3) := by decide +kernel
theorem dX7_count_63 : decode cX7_count 63 = .ok (.ireturn, 1) := by decide +kernel
theorem dX7_count_64 : decode cX7_count 64 = .ok (.aload_n 0, 1) := by decide +kernel
theorem dX7_count_65 : decode cX7_count 65 = .ok (.getfield 12, 3) := by decide +kernel
theorem dX7_count_68 : decode cX7_count 68 = .ok (.getfield 139, 3) := by decide +kernel
theorem dX7_count_71 : decode cX7_count 71 = .ok (.ireturn, 1) := by decide +kernel
theorem dX7_count_72 : decode cX7_count 72 = .ok (.aload_n 0, 1) := by decide +kernel
theorem dX7_count_73 : decode cX7_count 73 = .ok (.getfield 12, 3) := by decide +kernel
theorem dX7_count_76 : decode cX7_count 76 = .ok (.invokevirtual 320, 3) := by decide +kernel
theorem dX7_count_79 : decode cX7_count 79 = .ok (.invokestatic 169, 3) := by decide +kernel
theorem dX7_count_82 : decode cX7_count 82 = .ok (.ireturn, 1) := by decide +kernel
theorem dX7_count_83 : decode cX7_count 83 = .ok (.aload_n 0, 1) := by decide +kernel
theorem dX7_count_84 : decode cX7_count 84 = .ok (.getfield 12, 3) := by decide +kernel
theorem dX7_count_87 : decode cX7_count 87 = .ok (.invokevirtual 323, 3) := by decide +kernel
theorem dX7_count_90 : decode cX7_count 90 = .ok (.ireturn, 1) := by decide +kernel
theorem dX7_count_91 : decode cX7_count 91 = .ok (.aload_n 0, 1) := by decide +kernel
theorem dX7_count_92 : decode cX7_count 92 = .ok (.getfield 39, 3) := by decide +kernel
theorem dX7_count_95 : decode cX7_count 95 = .ok (.getfield 257, 3) := by decide +kernel
theorem dX7_count_98 : decode cX7_count 98 = .ok (.ireturn, 1) := by decide +kernel
theorem dX7_count_99 : decode cX7_count 99 = .ok (.aload_n 0, 1) := by decide +kernel
theorem dX7_count_100 : decode cX7_count 100 = .ok (.getfield 12, 3) := by decide +kernel
theorem dX7_count_103 : decode cX7_count 103 = .ok (.getfield 254, 3) := by decide +kernel
theorem dX7_count_106 : decode cX7_count 106 = .ok (.ireturn, 1) := by decide +kernel
theorem dX7_count_107 : decode cX7_count 107 = .ok (.aload_n 0, 1) := by decide +kernel
theorem dX7_count_108 : decode cX7_count 108 = .ok (.getfield 12, 3) := by decide +kernel
theorem dX7_count_111 : decode cX7_count 111 = .ok (.invokevirtual 326, 3) := by decide +kernel
theorem dX7_count_114 : decode cX7_count 114 = .ok (.ireturn, 1) := by decide +kernel
theorem dX7_count_115 : decode cX7_count 115 = .ok (.aload_n 0, 1) := by decide +kernel
theorem dX7_count_116 : decode cX7_count 116 = .ok (.ldc 67, 2) := by decide +kernel
theorem dX7_count_118 : decode cX7_count 118 = .ok (.invokevirtual 68, 3) := by decide +kernel
theorem dX7_count_121 : decode cX7_count 121 = .ok (.ireturn, 1) := by decide +kernel
theorem dX7_status_0 : decode cX7_status 0 = .ok (.iload_n 1, 1) := by decide +kernel
theorem dX7_status_1 : decode cX7_status 1 = .ok (.iconst (-1), 1) := by decide +kernel
theorem dX7_status_2 : decode cX7_status 2 = .ok (.bipush 6, 2) := by decide +kernel
theorem dX7_status_4 : decode cX7_status 4 = .ok (.invokestatic 94, 3) := by decide +kernel
theorem dX7_status_7 : decode cX7_status 7 = .ok (.ifCond .ne 10, 3) := by decide +kernel
theorem dX7_status_10 : decode cX7_status 10 = .ok (.aload_n 0, 1) := by decide +kernel
theorem dX7_status_11 : decode cX7_status 11 = .ok (.ldc 67, 2) := by decide +kernel
theorem dX7_status_13 : decode cX7_status 13 = .ok (.invokevirtual 68, 3) := by decide +kernel
theorem dX7_status_16 : decode cX7_status 16 = .ok (.ireturn, 1) := by decide +kernel
theorem dX7_status_17 : decode cX7_status 17 = .ok (.iload_n 1, 1) := by decide +kernel
theorem dX7_status_18 : decode cX7_status 18 = .ok (.ifCond .lt 10, 3) := by decide +kernel
theorem dX7_status_21 : decode cX7_status 21 = .ok (.aload_n 0, 1) := by decide +kernel
theorem dX7_status_22 : decode cX7_status 22 = .ok (.getfield 58, 3) := by decide +kernel
theorem dX7_status_25 : decode cX7_status 25 = .ok (.iload_n 1, 1) := by decide +kernel
theorem dX7_status_26 : decode cX7_status 26 = .ok (.iaload, 1) := by decide +kernel
theorem dX7_status_27 : decode cX7_status 27 = .ok (.ireturn, 1) := by decide +kernel
theorem dX7_status_28 : decode cX7_status 28 = .ok (.iconst 0, 1) := by decide +kernel
theorem dX7_status_29 : decode cX7_status 29 = .ok (.istore_n 2, 1) := by decide +kernel
theorem dX7_status_30 : decode cX7_status 30 = .ok (.iconst 0, 1) := by decide +kernel
theorem dX7_status_31 : decode cX7_status 31 = .ok (.istore_n 3, 1) := by decide +kernel
theorem dX7_status_32 : decode cX7_status 32 = .ok (.iload_n 3, 1) := by decide +kernel
theorem dX7_status_33 : decode cX7_status 33 = .ok (.bipush 7, 2) := by decide +kernel
theorem dX7_status_35 : decode cX7_status 35 = .ok (.if_icmp .ge 18, 3) := by decide +kernel
theorem dX7_status_38 : decode cX7_status 38 = .ok (.iload_n 2, 1) := by decide +kernel
theorem dX7_status_39 : decode cX7_status 39 = .ok (.aload_n 0, 1) := by decide +kernel
theorem dX7_status_40 : decode cX7_status 40 = .ok (.getfield 58, 3) := by decide +kernel
theorem dX7_status_43 : decode cX7_status 43 = .ok (.iload_n 3, 1) := by decide +kernel
theorem dX7_status_44 : decode cX7_status 44 = .ok (.iaload, 1) := by decide +kernel
theorem dX7_status_45 : decode cX7_status 45 = .ok (.iadd, 1) := by decide +kernel
theorem dX7_status_46 : decode cX7_status 46 = .ok (.istore_n 2, 1) := by decide +kernel
theorem dX7_status_47 : decode cX7_status 47 = .ok (.iinc 3 1, 3) := by decide +kernel
theorem dX7_status_50 : decode cX7_status 50 = .ok (.goto (-18), 3) := by decide +kernel
theorem dX7_status_53 : decode cX7_status 53 = .ok (.iload_n 2, 1) := by decide +kernel
theorem dX7_status_54 : decode cX7_status 54 = .ok (.ireturn, 1) := by decide +kernel
theorem dX7_finding_0 : decode cX7_finding 0 = .ok (.ldc 67, 2) := by decide +kernel
theorem dX7_finding_2 : decode cX7_finding 2 = .ok (.iload_n 1, 1) := by decide +kernel
theorem dX7_finding_3 : decode cX7_finding 3 = .ok (.isub, 1) := by decide +kernel
theorem dX7_finding_4 : decode cX7_finding 4 = .ok (.istore_n 2, 1) := by decide +kernel
theorem dX7_finding_5 : decode cX7_finding 5 = .ok (.iload_n 2, 1) := by decide +kernel
theorem dX7_finding_6 : decode cX7_finding 6 = .ok (.iconst 0, 1) := by decide +kernel
theorem dX7_finding_7 : decode cX7_finding 7 = .ok (.bipush 6, 2) := by decide +kernel
theorem dX7_finding_9 : decode cX7_finding 9 = .ok (.invokestatic 94, 3) := by decide +kernel
theorem dX7_finding_12 : decode cX7_finding 12 = .ok (.ifCond .eq 13, 3) := by decide +kernel
theorem dX7_finding_15 : decode cX7_finding 15 = .ok (.aload_n 0, 1) := by decide +kernel
theorem dX7_finding_16 : decode cX7_finding 16 = .ok (.getfield 58, 3) := by decide +kernel
theorem dX7_finding_19 : decode cX7_finding 19 = .ok (.iload_n 2, 1) := by decide +kernel
theorem dX7_finding_20 : decode cX7_finding 20 = .ok (.dup2, 1) := by decide +kernel
theorem dX7_finding_21 : decode cX7_finding 21 = .ok (.iaload, 1) := by decide +kernel
theorem dX7_finding_22 : decode cX7_finding 22 = .ok (.iconst 1, 1) := by decide +kernel
theorem dX7_finding_23 : decode cX7_finding 23 = .ok (.iadd, 1) := by decide +kernel
theorem dX7_finding_24 : decode cX7_finding 24 = .ok (.iastore, 1) := by decide +kernel
theorem dX7_finding_25 : decode cX7_finding 25 = .ok (.iload_n 1, 1) := by decide +kernel
theorem dX7_finding_26 : decode cX7_finding 26 = .ok (.ireturn, 1) := by decide +kernel
theorem dX7_within_0 : decode cX7_within 0 = .ok (.iload_n 0, 1) := by decide +kernel
theorem dX7_within_1 : decode cX7_within 1 = .ok (.iload_n 1, 1) := by decide +kernel
theorem dX7_within_2 : decode cX7_within 2 = .ok (.if_icmp .lt 12, 3) := by decide +kernel
theorem dX7_within_5 : decode cX7_within 5 = .ok (.iload_n 0, 1) := by decide +kernel
theorem dX7_within_6 : decode cX7_within 6 = .ok (.iload_n 2, 1) := by decide +kernel
theorem dX7_within_7 : decode cX7_within 7 = .ok (.if_icmp .gt 7, 3) := by decide +kernel
theorem dX7_within_10 : decode cX7_within 10 = .ok (.iconst 1, 1) := by decide +kernel
theorem dX7_within_11 : decode cX7_within 11 = .ok (.goto 4, 3) := by decide +kernel
theorem dX7_within_14 : decode cX7_within 14 = .ok (.iconst 0, 1) := by decide +kernel
theorem dX7_within_15 : decode cX7_within 15 = .ok (.ireturn, 1) := by decide +kernel
theorem dX7_isKind_0 : decode cX7_isKind 0 = .ok (.iload_n 0, 1) := by decide +kernel
theorem dX7_isKind_1 : decode cX7_isKind 1 = .ok (.iconst 0, 1) := by decide +kernel
theorem dX7_isKind_2 : decode cX7_isKind 2 = .ok (.bipush 6, 2) := by decide +kernel
theorem dX7_isKind_4 : decode cX7_isKind 4 = .ok (.invokestatic 94, 3) := by decide +kernel
theorem dX7_isKind_7 : decode cX7_isKind 7 = .ok (.ireturn, 1) := by decide +kernel
theorem dX7_isFace_0 : decode cX7_isFace 0 = .ok (.iload_n 0, 1) := by decide +kernel
theorem dX7_isFace_1 : decode cX7_isFace 1 = .ok (.iconst 0, 1) := by decide +kernel
theorem dX7_isFace_2 : decode cX7_isFace 2 = .ok (.iconst 5, 1) := by decide +kernel
theorem dX7_isFace_3 : decode cX7_isFace 3 = .ok (.invokestatic 94, 3) := by decide +kernel
theorem dX7_isFace_6 : decode cX7_isFace 6 = .ok (.ireturn, 1) := by decide +kernel
theorem dX7_isRoom_0 : decode cX7_isRoom 0 = .ok (.iload_n 0, 1) := by decide +kernel
theorem dX7_isRoom_1 : decode cX7_isRoom 1 = .ok (.iconst 0, 1) := by decide +kernel
theorem dX7_isRoom_2 : decode cX7_isRoom 2 = .ok (.iconst 5, 1) := by decide +kernel
theorem dX7_isRoom_3 : decode cX7_isRoom 3 = .ok (.invokestatic 94, 3) := by decide +kernel
theorem dX7_isRoom_6 : decode cX7_isRoom 6 = .ok (.ireturn, 1) := by decide +kernel
theorem dX7_isPlace_0 : decode cX7_isPlace 0 = .ok (.iload_n 0, 1) := by decide +kernel
theorem dX7_isPlace_1 : decode cX7_isPlace 1 = .ok (.iconst (-1), 1) := by decide +kernel
theorem dX7_isPlace_2 : decode cX7_isPlace 2 = .ok (.iconst 5, 1) := by decide +kernel
theorem dX7_isPlace_3 : decode cX7_isPlace 3 = .ok (.invokestatic 94, 3) := by decide +kernel
theorem dX7_isPlace_6 : decode cX7_isPlace 6 = .ok (.ireturn, 1) := by decide +kernel
theorem dX7_isSpot_0 : decode cX7_isSpot 0 = .ok (.iload_n 0, 1) := by decide +kernel
theorem dX7_isSpot_1 : decode cX7_isSpot 1 = .ok (.iconst 0, 1) := by decide +kernel
theorem dX7_isSpot_2 : decode cX7_isSpot 2 = .ok (.bipush 9, 2) := by decide +kernel
theorem dX7_isSpot_4 : decode cX7_isSpot 4 = .ok (.invokestatic 94, 3) := by decide +kernel
theorem dX7_isSpot_7 : decode cX7_isSpot 7 = .ok (.ireturn, 1) := by decide +kernel
theorem dX7_isSheet_0 : decode cX7_isSheet 0 = .ok (.iload_n 0, 1) := by decide +kernel
theorem dX7_isSheet_1 : decode cX7_isSheet 1 = .ok (.iconst 0, 1) := by decide +kernel
theorem dX7_isSheet_2 : decode cX7_isSheet 2 = .ok (.iconst 3, 1) := by decide +kernel
theorem dX7_isSheet_3 : decode cX7_isSheet 3 = .ok (.invokestatic 94, 3) := by decide +kernel
theorem dX7_isSheet_6 : decode cX7_isSheet 6 = .ok (.ireturn, 1) := by decide +kernel
theorem dX7_commonDivisor_0 : decode cX7_commonDivisor 0 = .ok (.iload_n 0, 1) := by decide +kernel
theorem dX7_commonDivisor_1 : decode cX7_commonDivisor 1 = .ok (.istore_n 2, 1) := by decide +kernel
theorem dX7_commonDivisor_2 : decode cX7_commonDivisor 2 = .ok (.iload_n 1, 1) := by decide +kernel
theorem dX7_commonDivisor_3 : decode cX7_commonDivisor 3 = .ok (.istore_n 3, 1) := by decide +kernel
theorem dX7_commonDivisor_4 : decode cX7_commonDivisor 4 = .ok (.iconst 0, 1) := by decide +kernel
theorem dX7_commonDivisor_5 : decode cX7_commonDivisor 5 = .ok (.istore 4, 2) := by decide +kernel
theorem dX7_commonDivisor_7 : decode cX7_commonDivisor 7 = .ok (.iload 4, 2) := by decide +kernel
theorem dX7_commonDivisor_9 : decode cX7_commonDivisor 9 = .ok (.bipush 100, 2) := by decide +kernel
theorem dX7_commonDivisor_11 : decode cX7_commonDivisor 11 = .ok (.if_icmp .ge 23, 3) := by decide +kernel
theorem dX7_commonDivisor_14 : decode cX7_commonDivisor 14 = .ok (.iload_n 3, 1) := by decide +kernel
theorem dX7_commonDivisor_15 : decode cX7_commonDivisor 15 = .ok (.ifCond .eq 19, 3) := by decide +kernel
theorem dX7_commonDivisor_18 : decode cX7_commonDivisor 18 = .ok (.iload_n 2, 1) := by decide +kernel
theorem dX7_commonDivisor_19 : decode cX7_commonDivisor 19 = .ok (.iload_n 3, 1) := by decide +kernel
theorem dX7_commonDivisor_20 : decode cX7_commonDivisor 20 = .ok (.irem, 1) := by decide +kernel
theorem dX7_commonDivisor_21 : decode cX7_commonDivisor 21 = .ok (.istore 5, 2) := by decide +kernel
theorem dX7_commonDivisor_23 : decode cX7_commonDivisor 23 = .ok (.iload_n 3, 1) := by decide +kernel
theorem dX7_commonDivisor_24 : decode cX7_commonDivisor 24 = .ok (.istore_n 2, 1) := by decide +kernel
theorem dX7_commonDivisor_25 : decode cX7_commonDivisor 25 = .ok (.iload 5, 2) := by decide +kernel
theorem dX7_commonDivisor_27 : decode cX7_commonDivisor 27 = .ok (.istore_n 3, 1) := by decide +kernel
theorem dX7_commonDivisor_28 : decode cX7_commonDivisor 28 = .ok (.iinc 4 1, 3) := by decide +kernel
theorem dX7_commonDivisor_31 : decode cX7_commonDivisor 31 = .ok (.goto (-24), 3) := by decide +kernel
theorem dX7_commonDivisor_34 : decode cX7_commonDivisor 34 = .ok (.iload_n 2, 1) := by decide +kernel
theorem dX7_commonDivisor_35 : decode cX7_commonDivisor 35 = .ok (.ifCond .ne 7, 3) := by decide +kernel
theorem dX7_commonDivisor_38 : decode cX7_commonDivisor 38 = .ok (.iconst 1, 1) := by decide +kernel
theorem dX7_commonDivisor_39 : decode cX7_commonDivisor 39 = .ok (.goto 4, 3) := by decide +kernel
theorem dX7_commonDivisor_42 : decode cX7_commonDivisor 42 = .ok (.iload_n 2, 1) := by decide +kernel
theorem dX7_commonDivisor_43 : decode cX7_commonDivisor 43 = .ok (.ireturn, 1) := by decide +kernel
theorem dX8_init_0 : decode cX8_init 0 = .ok (.aload_n 0, 1) := by decide +kernel
theorem dX8_init_1 : decode cX8_init 1 = .ok (.invokespecial 1, 3) := by decide +kernel
theorem dX8_init_4 : decode cX8_init 4 = .ok (.aload_n 0, 1) := by decide +kernel
theorem dX8_init_5 : decode cX8_init 5 = .ok (.bipush 117, 2) := by decide +kernel
theorem dX8_init_7 : decode cX8_init 7 = .ok (.newarray .int, 2) := by decide +kernel
theorem dX8_init_9 : decode cX8_init 9 = .ok (.putfield 9, 3) := by decide +kernel
theorem dX8_init_12 : decode cX8_init 12 = .ok (.aload_n 0, 1) := by decide +kernel
theorem dX8_init_13 : decode cX8_init 13 = .ok (.bipush 117, 2) := by decide +kernel
theorem dX8_init_15 : decode cX8_init 15 = .ok (.newarray .int, 2) := by decide +kernel
theorem dX8_init_17 : decode cX8_init 17 = .ok (.putfield 13, 3) := by decide +kernel
theorem dX8_init_20 : decode cX8_init 20 = .ok (.aload_n 0, 1) := by decide +kernel
theorem dX8_init_21 : decode cX8_init 21 = .ok (.bipush 117, 2) := by decide +kernel
theorem dX8_init_23 : decode cX8_init 23 = .ok (.newarray .int, 2) := by decide +kernel
theorem dX8_init_25 : decode cX8_init 25 = .ok (.putfield 16, 3) := by decide +kernel
theorem dX8_init_28 : decode cX8_init 28 = .ok (.aload_n 0, 1) := by decide +kernel
theorem dX8_init_29 : decode cX8_init 29 = .ok (.bipush 8, 2) := by decide +kernel
theorem dX8_init_31 : decode cX8_init 31 = .ok (.newarray .int, 2) := by decide +kernel
theorem dX8_init_33 : decode cX8_init 33 = .ok (.putfield 19, 3) := by decide +kernel
theorem dX8_init_36 : decode cX8_init 36 = .ok (.aload_n 0, 1) := by decide +kernel
theorem dX8_init_37 : decode cX8_init 37 = .ok (.sipush 7168, 3) := by decide +kernel
theorem dX8_init_40 : decode cX8_init 40 = .ok (.newarray .int, 2) := by decide +kernel
theorem dX8_init_42 : decode cX8_init 42 = .ok (.putfield 22, 3) := by decide +kernel
theorem dX8_init_45 : decode cX8_init 45 = .ok (.aload_n 0, 1) := by decide +kernel
theorem dX8_init_46 : decode cX8_init 46 = .ok (.bipush 120, 2) := by decide +kernel
theorem dX8_init_48 : decode cX8_init 48 = .ok (.newarray .int, 2) := by decide +kernel
theorem dX8_init_50 : decode cX8_init 50 = .ok (.putfield 25, 3) := by decide +kernel
theorem dX8_init_53 : decode cX8_init 53 = .ok (.aload_n 0, 1) := by decide +kernel
theorem dX8_init_54 : decode cX8_init 54 = .ok (.bipush 7, 2) := by decide +kernel
theorem dX8_init_56 : decode cX8_init 56 = .ok (.anewarray 28, 3) := by decide +kernel
theorem dX8_init_59 : decode cX8_init 59 = .ok (.dup, 1) := by decide +kernel
theorem dX8_init_60 : decode cX8_init 60 = .ok (.iconst 0, 1) := by decide +kernel
theorem dX8_init_61 : decode cX8_init 61 = .ok (.ldc 30, 2) := by decide +kernel
theorem dX8_init_63 : decode cX8_init 63 = .ok (.aastore, 1) := by decide +kernel
theorem dX8_init_64 : decode cX8_init 64 = .ok (.dup, 1) := by decide +kernel
theorem dX8_init_65 : decode cX8_init 65 = .ok (.iconst 1, 1) := by decide +kernel
theorem dX8_init_66 : decode cX8_init 66 = .ok (.ldc 32, 2) := by decide +kernel
theorem dX8_init_68 : decode cX8_init 68 = .ok (.aastore, 1) := by decide +kernel
theorem dX8_init_69 : decode cX8_init 69 = .ok (.dup, 1) := by decide +kernel
theorem dX8_init_70 : decode cX8_init 70 = .ok (.iconst 2, 1) := by decide +kernel
theorem dX8_init_71 : decode cX8_init 71 = .ok (.ldc 34, 2) := by decide +kernel
theorem dX8_init_73 : decode cX8_init 73 = .ok (.aastore, 1) := by decide +kernel
theorem dX8_init_74 : decode cX8_init 74 = .ok (.dup, 1) := by decide +kernel
theorem dX8_init_75 : decode cX8_init 75 = .ok (.iconst 3, 1) := by decide +kernel
theorem dX8_init_76 : decode cX8_init 76 = .ok (.ldc 36, 2) := by decide +kernel
theorem dX8_init_78 : decode cX8_init 78 = .ok (.aastore, 1) := by decide +kernel
theorem dX8_init_79 : decode cX8_init 79 = .ok (.dup, 1) := by decide +kernel
theorem dX8_init_80 : decode cX8_init 80 = .ok (.iconst 4, 1) := by decide +kernel
theorem dX8_init_81 : decode cX8_init 81 = .ok (.ldc 38, 2) := by decide +kernel
theorem dX8_init_83 : decode cX8_init 83 = .ok (.aastore, 1) := by decide +kernel
theorem dX8_init_84 : decode cX8_init 84 = .ok (.dup, 1) := by decide +kernel
theorem dX8_init_85 : decode cX8_init 85 = .ok (.iconst 5, 1) := by decide +kernel
theorem dX8_init_86 : decode cX8_init 86 = .ok (.ldc 40, 2) := by decide +kernel
theorem dX8_init_88 : decode cX8_init 88 = .ok (.aastore, 1) := by decide +kernel
theorem dX8_init_89 : decode cX8_init 89 = .ok (.dup, 1) := by decide +kernel
theorem dX8_init_90 : decode cX8_init 90 = .ok (.bipush 6, 2) := by decide +kernel
theorem dX8_init_92 : decode cX8_init 92 = .ok (.ldc 42, 2) := by decide +kernel
theorem dX8_init_94 : decode cX8_init 94 = .ok (.aastore, 1) := by decide +kernel
theorem dX8_init_95 : decode cX8_init 95 = .ok (.putfield 44, 3) := by decide +kernel
theorem dX8_init_98 : decode cX8_init 98 = .ok (.aload_n 0, 1) := by decide +kernel
theorem dX8_init_99 : decode cX8_init 99 = .ok (.sipush 480, 3) := by decide +kernel
theorem dX8_init_102 : decode cX8_init 102 = .ok (.newarray .int, 2) := by decide +kernel
theorem dX8_init_104 : decode cX8_init 104 = .ok (.putfield 48, 3) := by decide +kernel
theorem dX8_init_107 : decode cX8_init 107 = .ok (.aload_n 0, 1) := by decide +kernel
theorem dX8_init_108 : decode cX8_init 108 = .ok (.iconst 4, 1) := by decide +kernel
theorem dX8_init_109 : decode cX8_init 109 = .ok (.newarray .int, 2) := by decide +kernel
theorem dX8_init_111 : decode cX8_init 111 = .ok (.putfield 51, 3) := by decide +kernel
theorem dX8_init_114 : decode cX8_init 114 = .ok (.aload_n 0, 1) := by decide +kernel
theorem dX8_init_115 : decode cX8_init 115 = .ok (.iconst 4, 1) := by decide +kernel
theorem dX8_init_116 : decode cX8_init 116 = .ok (.newarray .int, 2) := by decide +kernel
theorem dX8_init_118 : decode cX8_init 118 = .ok (.putfield 54, 3) := by decide +kernel
theorem dX8_init_121 : decode cX8_init 121 = .ok (.aload_n 0, 1) := by decide +kernel
theorem dX8_init_122 : decode cX8_init 122 = .ok (.sipush 160, 3) := by decide +kernel
theorem dX8_init_125 : decode cX8_init 125 = .ok (.newarray .int, 2) := by decide +kernel
theorem dX8_init_127 : decode cX8_init 127 = .ok (.putfield 57, 3) := by decide +kernel
theorem dX8_init_130 : decode cX8_init 130 = .ok (.aload_n 0, 1) := by decide +kernel
theorem dX8_init_131 : decode cX8_init 131 = .ok (.bipush 40, 2) := by decide +kernel
theorem dX8_init_133 : decode cX8_init 133 = .ok (.newarray .int, 2) := by decide +kernel
theorem dX8_init_135 : decode cX8_init 135 = .ok (.putfield 60, 3) := by decide +kernel
theorem dX8_init_138 : decode cX8_init 138 = .ok (.aload_n 0, 1) := by decide +kernel
theorem dX8_init_139 : decode cX8_init 139 = .ok (.getfield 9, 3) := by decide +kernel
theorem dX8_init_142 : decode cX8_init 142 = .ok (.iconst 1, 1) := by decide +kernel
theorem dX8_init_143 : decode cX8_init 143 = .ok (.iconst 5, 1) := by decide +kernel
theorem dX8_init_144 : decode cX8_init 144 = .ok (.iastore, 1) := by decide +kernel
theorem dX8_init_145 : decode cX8_init 145 = .ok (.aload_n 0, 1) := by decide +kernel
theorem dX8_init_146 : decode cX8_init 146 = .ok (.getfield 9, 3) := by decide +kernel
theorem dX8_init_149 : decode cX8_init 149 = .ok (.iconst 4, 1) := by decide +kernel
theorem dX8_init_150 : decode cX8_init 150 = .ok (.iconst 1, 1) := by decide +kernel
theorem dX8_init_151 : decode cX8_init 151 = .ok (.iastore, 1) := by decide +kernel
theorem dX8_init_152 : decode cX8_init 152 = .ok (.iconst 0, 1) := by decide +kernel
theorem dX8_init_153 : decode cX8_init 153 = .ok (.istore_n 1, 1) := by decide +kernel
theorem dX8_init_154 : decode cX8_init 154 = .ok (.iload_n 1, 1) := by decide +kernel
theorem dX8_init_155 : decode cX8_init 155 = .ok (.bipush 10, 2) := by decide +kernel
theorem dX8_init_157 : decode cX8_init 157 = .ok (.if_icmp .ge 18, 3) := by decide +kernel
theorem dX8_init_160 : decode cX8_init 160 = .ok (.aload_n 0, 1) := by decide +kernel
theorem dX8_init_161 : decode cX8_init 161 = .ok (.getfield 9, 3) := by decide +kernel
theorem dX8_init_164 : decode cX8_init 164 = .ok (.iconst 5, 1) := by decide +kernel
theorem dX8_init_165 : decode cX8_init 165 = .ok (.iload_n 1, 1) := by decide +kernel
theorem dX8_init_166 : decode cX8_init 166 = .ok (.iadd, 1) := by decide +kernel
theorem dX8_init_167 : decode cX8_init 167 = .ok (.iconst (-1), 1) := by decide +kernel
theorem dX8_init_168 : decode cX8_init 168 = .ok (.iastore, 1) := by decide +kernel
theorem dX8_init_169 : decode cX8_init 169 = .ok (.iinc 1 1, 3) := by decide +kernel
theorem dX8_init_172 : decode cX8_init 172 = .ok (.goto (-18), 3) := by decide +kernel
theorem dX8_init_175 : decode cX8_init 175 = .ok (.iconst 0, 1) := by decide +kernel
theorem dX8_init_176 : decode cX8_init 176 = .ok (.istore_n 1, 1) := by decide +kernel
theorem dX8_init_177 : decode cX8_init 177 = .ok (.iload_n 1, 1) := by decide +kernel
theorem dX8_init_178 : decode cX8_init 178 = .ok (.bipush 6, 2) := by decide +kernel
theorem dX8_init_180 : decode cX8_init 180 = .ok (.if_icmp .ge 29, 3) := by decide +kernel
theorem dX8_init_183 : decode cX8_init 183 = .ok (.aload_n 0, 1) := by decide +kernel
theorem dX8_init_184 : decode cX8_init 184 = .ok (.getfield 9, 3) := by decide +kernel
theorem dX8_init_187 : decode cX8_init 187 = .ok (.bipush 21, 2) := by decide +kernel
theorem dX8_init_189 : decode cX8_init 189 = .ok (.iload_n 1, 1) := by decide +kernel
theorem dX8_init_190 : decode cX8_init 190 = .ok (.iadd, 1) := by decide +kernel
theorem dX8_init_191 : decode cX8_init 191 = .ok (.iconst 1, 1) := by decide +kernel
theorem dX8_init_192 : decode cX8_init 192 = .ok (.iastore, 1) := by decide +kernel
theorem dX8_init_193 : decode cX8_init 193 = .ok (.aload_n 0, 1) := by decide +kernel
theorem dX8_init_194 : decode cX8_init 194 = .ok (.getfield 9, 3) := by decide +kernel
theorem dX8_init_197 : decode cX8_init 197 = .ok (.bipush 27, 2) := by decide +kernel
theorem dX8_init_199 : decode cX8_init 199 = .ok (.iload_n 1, 1) := by decide +kernel
theorem dX8_init_200 : decode cX8_init 200 = .ok (.iadd, 1) := by decide +kernel
theorem dX8_init_201 : decode cX8_init 201 = .ok (.iconst (-1), 1) := by decide +kernel
theorem dX8_init_202 : decode cX8_init 202 = .ok (.iastore, 1) := by decide +kernel
theorem dX8_init_203 : decode cX8_init 203 = .ok (.iinc 1 1, 3) := by decide +kernel
theorem dX8_init_206 : decode cX8_init 206 = .ok (.goto (-29), 3) := by decide +kernel
theorem dX8_init_209 : decode cX8_init 209 = .ok (.return_, 1) := by decide +kernel
theorem dX8_finding_0 : decode cX8_finding 0 = .ok (.aload_n 0, 1) := by decide +kernel
theorem dX8_finding_1 : decode cX8_finding 1 = .ok (.getfield 19, 3) := by decide +kernel
theorem dX8_finding_4 : decode cX8_finding 4 = .ok (.ldc 63, 2) := by decide +kernel
theorem dX8_finding_6 : decode cX8_finding 6 = .ok (.iload_n 1, 1) := by decide +kernel
theorem dX8_finding_7 : decode cX8_finding 7 = .ok (.isub, 1) := by decide +kernel
theorem dX8_finding_8 : decode cX8_finding 8 = .ok (.iconst 1, 1) := by decide +kernel
theorem dX8_finding_9 : decode cX8_finding 9 = .ok (.iadd, 1) := by decide +kernel
theorem dX8_finding_10 : decode cX8_finding 10 = .ok (.dup2, 1) := by decide +kernel
theorem dX8_finding_11 : decode cX8_finding 11 = .ok (.iaload, 1) := by decide +kernel
theorem dX8_finding_12 : decode cX8_finding 12 = .ok (.iconst 1, 1) := by decide +kernel
theorem dX8_finding_13 : decode cX8_finding 13 = .ok (.iadd, 1) := by decide +kernel
theorem dX8_finding_14 : decode cX8_finding 14 = .ok (.iastore, 1) := by decide +kernel
theorem dX8_finding_15 : decode cX8_finding 15 = .ok (.aload_n 0, 1) := by decide +kernel
theorem dX8_finding_16 : decode cX8_finding 16 = .ok (.getfield 19, 3) := by decide +kernel
theorem dX8_finding_19 : decode cX8_finding 19 = .ok (.iconst 0, 1) := by decide +kernel
theorem dX8_finding_20 : decode cX8_finding 20 = .ok (.dup2, 1) := by decide +kernel
theorem dX8_finding_21 : decode cX8_finding 21 = .ok (.iaload, 1) := by decide +kernel
theorem dX8_finding_22 : decode cX8_finding 22 = .ok (.iconst 1, 1) := by decide +kernel
theorem dX8_finding_23 : decode cX8_finding 23 = .ok (.iadd, 1) := by decide +kernel
theorem dX8_finding_24 : decode cX8_finding 24 = .ok (.iastore, 1) := by decide +kernel
theorem dX8_finding_25 : decode cX8_finding 25 = .ok (.iload_n 1, 1) := by decide +kernel
theorem dX8_finding_26 : decode cX8_finding 26 = .ok (.ireturn, 1) := by decide +kernel
theorem dX8_within_0 : decode cX8_within 0 = .ok (.iload_n 0, 1) := by decide +kernel
theorem dX8_within_1 : decode cX8_within 1 = .ok (.iload_n 1, 1) := by decide +kernel
theorem dX8_within_2 : decode cX8_within 2 = .ok (.if_icmp .lt 12, 3) := by decide +kernel
theorem dX8_within_5 : decode cX8_within 5 = .ok (.iload_n 0, 1) := by decide +kernel
theorem dX8_within_6 : decode cX8_within 6 = .ok (.iload_n 2, 1) := by decide +kernel
theorem dX8_within_7 : decode cX8_within 7 = .ok (.if_icmp .gt 7, 3) := by decide +kernel
theorem dX8_within_10 : decode cX8_within 10 = .ok (.iconst 1, 1) := by decide +kernel
theorem dX8_within_11 : decode cX8_within 11 = .ok (.goto 4, 3) := by decide +kernel
theorem dX8_within_14 : decode cX8_within 14 = .ok (.iconst 0, 1) := by decide +kernel
theorem dX8_within_15 : decode cX8_within 15 = .ok (.ireturn, 1) := by decide +kernel
theorem dX8_become_0 : decode cX8_become 0 = .ok (.aload_n 0, 1) := by decide +kernel
theorem dX8_become_1 : decode cX8_become 1 = .ok (.getfield 9, 3) := by decide +kernel
theorem dX8_become_4 : decode cX8_become 4 = .ok (.iload_n 1, 1) := by decide +kernel
theorem dX8_become_5 : decode cX8_become 5 = .ok (.iaload, 1) := by decide +kernel
theorem dX8_become_6 : decode cX8_become 6 = .ok (.istore_n 3, 1) := by decide +kernel
theorem dX8_become_7 : decode cX8_become 7 = .ok (.aload_n 0, 1) := by decide +kernel
theorem dX8_become_8 : decode cX8_become 8 = .ok (.getfield 9, 3) := by decide +kernel
theorem dX8_become_11 : decode cX8_become 11 = .ok (.iload_n 1, 1) := by decide +kernel
theorem dX8_become_12 : decode cX8_become 12 = .ok (.iload_n 2, 1) := by decide +kernel
theorem dX8_become_13 : decode cX8_become 13 = .ok (.iastore, 1) := by decide +kernel
theorem dX8_become_14 : decode cX8_become 14 = .ok (.iload_n 3, 1) := by decide +kernel
theorem dX8_become_15 : decode cX8_become 15 = .ok (.ireturn, 1) := by decide +kernel
theorem dX8_copyRow_0 : decode cX8_copyRow 0 = .ok (.iconst 0, 1) := by decide +kernel
theorem dX8_copyRow_1 : decode cX8_copyRow 1 = .ok (.istore_n 2, 1) := by decide +kernel
theorem dX8_copyRow_2 : decode cX8_copyRow 2 = .ok (.iload_n 2, 1) := by decide +kernel
theorem dX8_copyRow_3 : decode cX8_copyRow 3 = .ok (.bipush 117, 2) := by decide +kernel
theorem dX8_copyRow_5 : decode cX8_copyRow 5 = .ok (.if_icmp .ge 15, 3) := by decide +kernel
theorem dX8_copyRow_8 : decode cX8_copyRow 8 = .ok (.aload_n 1, 1) := by decide +kernel
theorem dX8_copyRow_9 : decode cX8_copyRow 9 = .ok (.iload_n 2, 1) := by decide +kernel
theorem dX8_copyRow_10 : decode cX8_copyRow 10 = .ok (.aload_n 0, 1) := by decide +kernel
theorem dX8_copyRow_11 : decode cX8_copyRow 11 = .ok (.iload_n 2, 1) := by decide +kernel
theorem dX8_copyRow_12 : decode cX8_copyRow 12 = .ok (.iaload, 1) := by decide +kernel
theorem dX8_copyRow_13 : decode cX8_copyRow 13 = .ok (.iastore, 1) := by decide +kernel
theorem dX8_copyRow_14 : decode cX8_copyRow 14 = .ok (.iinc 2 1, 3) := by decide +kernel
theorem dX8_copyRow_17 : decode cX8_copyRow 17 = .ok (.goto (-15), 3) := by decide +kernel
theorem dX8_copyRow_20 : decode cX8_copyRow 20 = .ok (.return_, 1) := by decide +kernel
theorem dX8_has_0 : decode cX8_has 0 = .ok (.iload_n 0, 1) := by decide +kernel
theorem dX8_has_1 : decode cX8_has 1 = .ok (.iload_n 1, 1) := by decide +kernel
theorem dX8_has_2 : decode cX8_has 2 = .ok (.ishr, 1) := by decide +kernel
theorem dX8_has_3 : decode cX8_has 3 = .ok (.iconst 1, 1) := by decide +kernel
theorem dX8_has_4 : decode cX8_has 4 = .ok (.iand, 1) := by decide +kernel
theorem dX8_has_5 : decode cX8_has 5 = .ok (.iconst 1, 1) := by decide +kernel
theorem dX8_has_6 : decode cX8_has 6 = .ok (.if_icmp .ne 7, 3) := by decide +kernel
theorem dX8_has_9 : decode cX8_has 9 = .ok (.iconst 1, 1) := by decide +kernel
theorem dX8_has_10 : decode cX8_has 10 = .ok (.goto 4, 3) := by decide +kernel
theorem dX8_has_13 : decode cX8_has 13 = .ok (.iconst 0, 1) := by decide +kernel
theorem dX8_has_14 : decode cX8_has 14 = .ok (.ireturn, 1) := by decide +kernel
theorem dX8_bits_0 : decode cX8_bits 0 = .ok (.iconst 0, 1) := by decide +kernel
theorem dX8_bits_1 : decode cX8_bits 1 = .ok (.istore_n 1, 1) := by decide +kernel
theorem dX8_bits_2 : decode cX8_bits 2 = .ok (.iload_n 0, 1) := by decide +kernel
theorem dX8_bits_3 : decode cX8_bits 3 = .ok (.istore_n 2, 1) := by decide +kernel
theorem dX8_bits_4 : decode cX8_bits 4 = .ok (.iload_n 2, 1) := by decide +kernel
theorem dX8_bits_5 : decode cX8_bits 5 = .ok (.ifCond .eq 15, 3) := by decide +kernel
theorem dX8_bits_8 : decode cX8_bits 8 = .ok (.iinc 1 1, 3) := by decide +kernel
theorem dX8_bits_11 : decode cX8_bits 11 = .ok (.iload_n 2, 1) := by decide +kernel
theorem dX8_bits_12 : decode cX8_bits 12 = .ok (.iload_n 2, 1) := by decide +kernel
theorem dX8_bits_13 : decode cX8_bits 13 = .ok (.iconst 1, 1) := by decide +kernel
theorem dX8_bits_14 : decode cX8_bits 14 = .ok (.isub, 1) := by decide +kernel
theorem dX8_bits_15 : decode cX8_bits 15 = .ok (.iand, 1) := by decide +kernel
theorem dX8_bits_16 : decode cX8_bits 16 = .ok (.istore_n 2, 1) := by decide +kernel
theorem dX8_bits_17 : decode cX8_bits 17 = .ok (.goto (-13), 3) := by decide +kernel
theorem dX8_bits_20 : decode cX8_bits 20 = .ok (.iload_n 1, 1) := by decide +kernel
theorem dX8_bits_21 : decode cX8_bits 21 = .ok (.ireturn, 1) := by decide +kernel
theorem dX8_isFace_0 : decode cX8_isFace 0 = .ok (.iload_n 0, 1) := by decide +kernel
theorem dX8_isFace_1 : decode cX8_isFace 1 = .ok (.iconst 0, 1) := by decide +kernel
theorem dX8_isFace_2 : decode cX8_isFace 2 = .ok (.iconst 5, 1) := by decide +kernel
theorem dX8_isFace_3 : decode cX8_isFace 3 = .ok (.invokestatic 68, 3) := by decide +kernel
theorem dX8_isFace_6 : decode cX8_isFace 6 = .ok (.ireturn, 1) := by decide +kernel
theorem dX8_isRoom_0 : decode cX8_isRoom 0 = .ok (.iload_n 0, 1) := by decide +kernel
theorem dX8_isRoom_1 : decode cX8_isRoom 1 = .ok (.iconst 0, 1) := by decide +kernel
theorem dX8_isRoom_2 : decode cX8_isRoom 2 = .ok (.iconst 5, 1) := by decide +kernel
theorem dX8_isRoom_3 : decode cX8_isRoom 3 = .ok (.invokestatic 68, 3) := by decide +kernel
theorem dX8_isRoom_6 : decode cX8_isRoom 6 = .ok (.ireturn, 1) := by decide +kernel
theorem dX8_isPlace_0 : decode cX8_isPlace 0 = .ok (.iload_n 0, 1) := by decide +kernel
theorem dX8_isPlace_1 : decode cX8_isPlace 1 = .ok (.iconst (-1), 1) := by decide +kernel
theorem dX8_isPlace_2 : decode cX8_isPlace 2 = .ok (.iconst 5, 1) := by decide +kernel
theorem dX8_isPlace_3 : decode cX8_isPlace 3 = .ok (.invokestatic 68, 3) := by decide +kernel
theorem dX8_isPlace_6 : decode cX8_isPlace 6 = .ok (.ireturn, 1) := by decide +kernel
theorem dX8_isLooks_0 : decode cX8_isLooks 0 = .ok (.iload_n 0, 1) := by decide +kernel
theorem dX8_isLooks_1 : decode cX8_isLooks 1 = .ok (.iconst 0, 1) := by decide +kernel
theorem dX8_isLooks_2 : decode cX8_isLooks 2 = .ok (.sipush 255, 3) := by decide +kernel
theorem dX8_isLooks_5 : decode cX8_isLooks 5 = .ok (.invokestatic 68, 3) := by decide +kernel
theorem dX8_isLooks_8 : decode cX8_isLooks 8 = .ok (.ireturn, 1) := by decide +kernel
theorem dX8_isKind_0 : decode cX8_isKind 0 = .ok (.iload_n 0, 1) := by decide +kernel
theorem dX8_isKind_1 : decode cX8_isKind 1 = .ok (.iconst 0, 1) := by decide +kernel
theorem dX8_isKind_2 : decode cX8_isKind 2 = .ok (.bipush 6, 2) := by decide +kernel
theorem dX8_isKind_4 : decode cX8_isKind 4 = .ok (.invokestatic 68, 3) := by decide +kernel
theorem dX8_isKind_7 : decode cX8_isKind 7 = .ok (.ireturn, 1) := by decide +kernel
theorem dX8_isPart_0 : decode cX8_isPart 0 = .ok (.iload_n 1, 1) := by decide +kernel
theorem dX8_isPart_1 : decode cX8_isPart 1 = .ok (.iconst 0, 1) := by decide +kernel
theorem dX8_isPart_2 : decode cX8_isPart 2 = .ok (.aload_n 0, 1) := by decide +kernel
theorem dX8_isPart_3 : decode cX8_isPart 3 = .ok (.getfield 9, 3) := by decide +kernel
theorem dX8_isPart_6 : decode cX8_isPart 6 = .ok (.iconst 2, 1) := by decide +kernel
theorem dX8_isPart_7 : decode cX8_isPart 7 = .ok (.iaload, 1) := by decide +kernel
theorem dX8_isPart_8 : decode cX8_isPart 8 = .ok (.iconst 1, 1) := by decide +kernel
theorem dX8_isPart_9 : decode cX8_isPart 9 = .ok (.isub, 1) := by decide +kernel
theorem dX8_isPart_10 : decode cX8_isPart 10 = .ok (.invokestatic 68, 3) := by decide +kernel
theorem dX8_isPart_13 : decode cX8_isPart 13 = .ok (.ireturn, 1) := by decide +kernel
theorem dX8_at_0 : decode cX8_at 0 = .ok (.bipush 33, 2) := by decide +kernel
theorem dX8_at_2 : decode cX8_at 2 = .ok (.iconst 4, 1) := by decide +kernel
theorem dX8_at_3 : decode cX8_at 3 = .ok (.iload_n 0, 1) := by decide +kernel
theorem dX8_at_4 : decode cX8_at 4 = .ok (.imul, 1) := by decide +kernel
theorem dX8_at_5 : decode cX8_at 5 = .ok (.iadd, 1) := by decide +kernel
theorem dX8_at_6 : decode cX8_at 6 = .ok (.iload_n 1, 1) := by decide +kernel
theorem dX8_at_7 : decode cX8_at 7 = .ok (.iadd, 1) := by decide +kernel
theorem dX8_at_8 : decode cX8_at 8 = .ok (.ireturn, 1) := by decide +kernel
theorem dX8_partIs_0 : decode cX8_partIs 0 = .ok (.aload_n 0, 1) := by decide +kernel
theorem dX8_partIs_1 : decode cX8_partIs 1 = .ok (.getfield 9, 3) := by decide +kernel
theorem dX8_partIs_4 : decode cX8_partIs 4 = .ok (.iload_n 1, 1) := by decide +kernel
theorem dX8_partIs_5 : decode cX8_partIs 5 = .ok (.iload_n 2, 1) := by decide +kernel
theorem dX8_partIs_6 : decode cX8_partIs 6 = .ok (.invokestatic 72, 3) := by decide +kernel
theorem dX8_partIs_9 : decode cX8_partIs 9 = .ok (.iaload, 1) := by decide +kernel
theorem dX8_partIs_10 : decode cX8_partIs 10 = .ok (.ireturn, 1) := by decide +kernel
theorem dX8_comes_0 : decode cX8_comes 0 = .ok (.aload_n 0, 1) := by decide +kernel
theorem dX8_comes_1 : decode cX8_comes 1 = .ok (.getfield 9, 3) := by decide +kernel
theorem dX8_comes_4 : decode cX8_comes 4 = .ok (.iconst 2, 1) := by decide +kernel
theorem dX8_comes_5 : decode cX8_comes 5 = .ok (.iaload, 1) := by decide +kernel
theorem dX8_comes_6 : decode cX8_comes 6 = .ok (.istore 5, 2) := by decide +kernel
theorem dX8_comes_8 : decode cX8_comes 8 = .ok (.aload_n 0, 1) := by decide +kernel
theorem dX8_comes_9 : decode cX8_comes 9 = .ok (.getfield 9, 3) := by decide +kernel
theorem dX8_comes_12 : decode cX8_comes 12 = .ok (.iload 5, 2) := by decide +kernel
theorem dX8_comes_14 : decode cX8_comes 14 = .ok (.iconst 0, 1) := by decide +kernel
theorem dX8_comes_15 : decode cX8_comes 15 = .ok (.invokestatic 72, 3) := by decide +kernel
theorem dX8_comes_18 : decode cX8_comes 18 = .ok (.iload_n 1, 1) := by decide +kernel
theorem dX8_comes_19 : decode cX8_comes 19 = .ok (.iastore, 1) := by decide +kernel
theorem dX8_comes_20 : decode cX8_comes 20 = .ok (.aload_n 0, 1) := by decide +kernel
theorem dX8_comes_21 : decode cX8_comes 21 = .ok (.getfield 9, 3) := by decide +kernel
theorem dX8_comes_24 : decode cX8_comes 24 = .ok (.iload 5, 2) := by decide +kernel
theorem dX8_comes_26 : decode cX8_comes 26 = .ok (.iconst 1, 1) := by decide +kernel
theorem dX8_comes_27 : decode cX8_comes 27 = .ok (.invokestatic 72, 3) := by decide +kernel
theorem dX8_comes_30 : decode cX8_comes 30 = .ok (.iload_n 2, 1) := by decide +kernel
theorem dX8_comes_31 : decode cX8_comes 31 = .ok (.iastore, 1) := by decide +kernel
theorem dX8_comes_32 : decode cX8_comes 32 = .ok (.aload_n 0, 1) := by decide +kernel
theorem dX8_comes_33 : decode cX8_comes 33 = .ok (.getfield 9, 3) := by decide +kernel
theorem dX8_comes_36 : decode cX8_comes 36 = .ok (.iload 5, 2) := by decide +kernel
theorem dX8_comes_38 : decode cX8_comes 38 = .ok (.iconst 2, 1) := by decide +kernel
theorem dX8_comes_39 : decode cX8_comes 39 = .ok (.invokestatic 72, 3) := by decide +kernel
theorem dX8_comes_42 : decode cX8_comes 42 = .ok (.iload_n 3, 1) := by decide +kernel
theorem dX8_comes_43 : decode cX8_comes 43 = .ok (.iastore, 1) := by decide +kernel
theorem dX8_comes_44 : decode cX8_comes 44 = .ok (.aload_n 0, 1) := by decide +kernel
theorem dX8_comes_45 : decode cX8_comes 45 = .ok (.getfield 9, 3) := by decide +kernel
theorem dX8_comes_48 : decode cX8_comes 48 = .ok (.iload 5, 2) := by decide +kernel
theorem dX8_comes_50 : decode cX8_comes 50 = .ok (.iconst 3, 1) := by decide +kernel
theorem dX8_comes_51 : decode cX8_comes 51 = .ok (.invokestatic 72, 3) := by decide +kernel
theorem dX8_comes_54 : decode cX8_comes 54 = .ok (.iload 4, 2) := by decide +kernel
theorem dX8_comes_56 : decode cX8_comes 56 = .ok (.iastore, 1) := by decide +kernel
theorem dX8_comes_57 : decode cX8_comes 57 = .ok (.aload_n 0, 1) := by decide +kernel
theorem dX8_comes_58 : decode cX8_comes 58 = .ok (.getfield 9, 3) := by decide +kernel
theorem dX8_comes_61 : decode cX8_comes 61 = .ok (.iconst 2, 1) := by decide +kernel
theorem dX8_comes_62 : decode cX8_comes 62 = .ok (.dup2, 1) := by decide +kernel
theorem dX8_comes_63 : decode cX8_comes 63 = .ok (.iaload, 1) := by decide +kernel
theorem dX8_comes_64 : decode cX8_comes 64 = .ok (.iconst 1, 1) := by decide +kernel
theorem dX8_comes_65 : decode cX8_comes 65 = .ok (.iadd, 1) := by decide +kernel
theorem dX8_comes_66 : decode cX8_comes 66 = .ok (.iastore, 1) := by decide +kernel
theorem dX8_comes_67 : decode cX8_comes 67 = .ok (.iload 5, 2) := by decide +kernel
theorem dX8_comes_69 : decode cX8_comes 69 = .ok (.ireturn, 1) := by decide +kernel
theorem dX8_part_0 : decode cX8_part 0 = .ok (.iload_n 1, 1) := by decide +kernel
theorem dX8_part_1 : decode cX8_part 1 = .ok (.invokestatic 76, 3) := by decide +kernel
theorem dX8_part_4 : decode cX8_part 4 = .ok (.ifCond .ne 10, 3) := by decide +kernel
theorem dX8_part_7 : decode cX8_part 7 = .ok (.aload_n 0, 1) := by decide +kernel
theorem dX8_part_8 : decode cX8_part 8 = .ok (.ldc 63, 2) := by decide +kernel
theorem dX8_part_10 : decode cX8_part 10 = .ok (.invokevirtual 80, 3) := by decide +kernel
theorem dX8_part_13 : decode cX8_part 13 = .ok (.ireturn, 1) := by decide +kernel
theorem dX8_part_14 : decode cX8_part 14 = .ok (.aload_n 0, 1) := by decide +kernel
theorem dX8_part_15 : decode cX8_part 15 = .ok (.getfield 9, 3) := by decide +kernel
theorem dX8_part_18 : decode cX8_part 18 = .ok (.iconst 2, 1) := by decide +kernel
theorem dX8_part_19 : decode cX8_part 19 = .ok (.iaload, 1) := by decide +kernel
theorem dX8_part_20 : decode cX8_part 20 = .ok (.bipush 10, 2) := by decide +kernel
theorem dX8_part_22 : decode cX8_part 22 = .ok (.if_icmp .ne 12, 3) := by decide +kernel
theorem dX8_part_25 : decode cX8_part 25 = .ok (.aload_n 0, 1) := by decide +kernel
theorem dX8_part_26 : decode cX8_part 26 = .ok (.ldc 84, 2) := by decide +kernel
theorem dX8_part_28 : decode cX8_part 28 = .ok (.invokevirtual 80, 3) := by decide +kernel
theorem dX8_part_31 : decode cX8_part 31 = .ok (.goto 12, 3) := by decide +kernel
theorem dX8_part_34 : decode cX8_part 34 = .ok (.aload_n 0, 1) := by decide +kernel
theorem dX8_part_35 : decode cX8_part 35 = .ok (.iload_n 1, 1) := by decide +kernel
theorem dX8_part_36 : decode cX8_part 36 = .ok (.iconst 0, 1) := by decide +kernel
theorem dX8_part_37 : decode cX8_part 37 = .ok (.bipush 10, 2) := by decide +kernel
theorem dX8_part_39 : decode cX8_part 39 = .ok (.iconst (-1), 1) := by decide +kernel
theorem dX8_part_40 : decode cX8_part 40 = .ok (.invokevirtual 85, 3) := by decide +kernel
theorem dX8_part_43 : decode cX8_part 43 = .ok (.ireturn, 1) := by decide +kernel
theorem dX8_above_0 : decode cX8_above 0 = .ok (.iload_n 0, 1) := by decide +kernel
theorem dX8_above_1 : decode cX8_above 1 = .ok (.ifCond .ne 7, 3) := by decide +kernel
theorem dX8_above_4 : decode cX8_above 4 = .ok (.iconst (-1), 1) := by decide +kernel
theorem dX8_above_5 : decode cX8_above 5 = .ok (.goto 32, 3) := by decide +kernel
theorem dX8_above_8 : decode cX8_above 8 = .ok (.iload_n 0, 1) := by decide +kernel
theorem dX8_above_9 : decode cX8_above 9 = .ok (.iconst 2, 1) := by decide +kernel
theorem dX8_above_10 : decode cX8_above 10 = .ok (.if_icmp .ne 7, 3) := by decide +kernel
theorem dX8_above_13 : decode cX8_above 13 = .ok (.iconst 1, 1) := by decide +kernel
theorem dX8_above_14 : decode cX8_above 14 = .ok (.goto 23, 3) := by decide +kernel
theorem dX8_above_17 : decode cX8_above 17 = .ok (.iload_n 0, 1) := by decide +kernel
theorem dX8_above_18 : decode cX8_above 18 = .ok (.iconst 3, 1) := by decide +kernel
theorem dX8_above_19 : decode cX8_above 19 = .ok (.if_icmp .ne 7, 3) := by decide +kernel
theorem dX8_above_22 : decode cX8_above 22 = .ok (.iconst 2, 1) := by decide +kernel
theorem dX8_above_23 : decode cX8_above 23 = .ok (.goto 14, 3) := by decide +kernel
theorem dX8_above_26 : decode cX8_above 26 = .ok (.iload_n 0, 1) := by decide +kernel
theorem dX8_above_27 : decode cX8_above 27 = .ok (.bipush 6, 2) := by decide +kernel
theorem dX8_above_29 : decode cX8_above 29 = .ok (.if_icmp .ne 7, 3) := by decide +kernel
theorem dX8_above_32 : decode cX8_above 32 = .ok (.iconst 5, 1) := by decide +kernel
theorem dX8_above_33 : decode cX8_above 33 = .ok (.goto 4, 3) := by decide +kernel
theorem dX8_above_36 : decode cX8_above 36 = .ok (.iconst 0, 1) := by decide +kernel
theorem dX8_above_37 : decode cX8_above 37 = .ok (.ireturn, 1) := by decide +kernel
theorem dX8_isUnder_0 : decode cX8_isUnder 0 = .ok (.iload_n 0, 1) := by decide +kernel
theorem dX8_isUnder_1 : decode cX8_isUnder 1 = .ok (.istore_n 2, 1) := by decide +kernel
theorem dX8_isUnder_2 : decode cX8_isUnder 2 = .ok (.iload_n 2, 1) := by decide +kernel
theorem dX8_isUnder_3 : decode cX8_isUnder 3 = .ok (.ifCond .lt 16, 3) := by decide +kernel
theorem dX8_isUnder_6 : decode cX8_isUnder 6 = .ok (.iload_n 2, 1) := by decide +kernel
theorem dX8_isUnder_7 : decode cX8_isUnder 7 = .ok (.iload_n 1, 1) := by decide +kernel
theorem dX8_isUnder_8 : decode cX8_isUnder 8 = .ok (.if_icmp .eq 11, 3) := by decide +kernel
theorem dX8_isUnder_11 : decode cX8_isUnder 11 = .ok (.iload_n 2, 1) := by decide +kernel
theorem dX8_isUnder_12 : decode cX8_isUnder 12 = .ok (.invokestatic 89, 3) := by decide +kernel
theorem dX8_isUnder_15 : decode cX8_isUnder 15 = .ok (.istore_n 2, 1) := by decide +kernel
theorem dX8_isUnder_16 : decode cX8_isUnder 16 = .ok (.goto (-14), 3) := by decide +kernel
theorem dX8_isUnder_19 : decode cX8_isUnder 19 = .ok (.iload_n 2, 1) := by decide +kernel
theorem dX8_isUnder_20 : decode cX8_isUnder 20 = .ok (.ifCond .lt 7, 3) := by decide +kernel
theorem dX8_isUnder_23 : decode cX8_isUnder 23 = .ok (.iconst 1, 1) := by decide +kernel
theorem dX8_isUnder_24 : decode cX8_isUnder 24 = .ok (.goto 4, 3) := by decide +kernel
theorem dX8_isUnder_27 : decode cX8_isUnder 27 = .ok (.iconst 0, 1) := by decide +kernel
theorem dX8_isUnder_28 : decode cX8_isUnder 28 = .ok (.ireturn, 1) := by decide +kernel
theorem dX8_isHead_0 : decode cX8_isHead 0 = .ok (.aload_n 0, 1) := by decide +kernel
theorem dX8_isHead_1 : decode cX8_isHead 1 = .ok (.iload_n 1, 1) := by decide +kernel
theorem dX8_isHead_2 : decode cX8_isHead 2 = .ok (.iconst 0, 1) := by decide +kernel
theorem dX8_isHead_3 : decode cX8_isHead 3 = .ok (.invokevirtual 92, 3) := by decide +kernel
theorem dX8_isHead_6 : decode cX8_isHead 6 = .ok (.iconst 1, 1) := by decide +kernel
theorem dX8_isHead_7 : decode cX8_isHead 7 = .ok (.invokestatic 95, 3) := by decide +kernel
theorem dX8_isHead_10 : decode cX8_isHead 10 = .ok (.ireturn, 1) := by decide +kernel
theorem dX8_of_0 : decode cX8_of 0 = .ok (.aload_n 0, 1) := by decide +kernel
theorem dX8_of_1 : decode cX8_of 1 = .ok (.iload_n 1, 1) := by decide +kernel
theorem dX8_of_2 : decode cX8_of 2 = .ok (.invokevirtual 99, 3) := by decide +kernel
theorem dX8_of_5 : decode cX8_of 5 = .ok (.ifCond .eq 21, 3) := by decide +kernel
theorem dX8_of_8 : decode cX8_of 8 = .ok (.iload_n 2, 1) := by decide +kernel
theorem dX8_of_9 : decode cX8_of 9 = .ok (.iconst 0, 1) := by decide +kernel
theorem dX8_of_10 : decode cX8_of 10 = .ok (.iconst 3, 1) := by decide +kernel
theorem dX8_of_11 : decode cX8_of 11 = .ok (.invokestatic 68, 3) := by decide +kernel
theorem dX8_of_14 : decode cX8_of 14 = .ok (.ifCond .eq 12, 3) := by decide +kernel
theorem dX8_of_17 : decode cX8_of 17 = .ok (.aload_n 0, 1) := by decide +kernel
theorem dX8_of_18 : decode cX8_of 18 = .ok (.iload_n 1, 1) := by decide +kernel
theorem dX8_of_19 : decode cX8_of 19 = .ok (.iload_n 2, 1) := by decide +kernel
theorem dX8_of_20 : decode cX8_of 20 = .ok (.invokevirtual 92, 3) := by decide +kernel
theorem dX8_of_23 : decode cX8_of 23 = .ok (.goto 9, 3) := by decide +kernel
theorem dX8_of_26 : decode cX8_of 26 = .ok (.aload_n 0, 1) := by decide +kernel
theorem dX8_of_27 : decode cX8_of 27 = .ok (.ldc 63, 2) := by decide +kernel
theorem dX8_of_29 : decode cX8_of 29 = .ok (.invokevirtual 80, 3) := by decide +kernel
theorem dX8_of_32 : decode cX8_of 32 = .ok (.ireturn, 1) := by decide +kernel
theorem dX8_change_0 : decode cX8_change 0 = .ok (.iload_n 2, 1) := by decide +kernel
theorem dX8_change_1 : decode cX8_change 1 = .ok (.ifCond .ne 10, 3) := by decide +kernel
theorem dX8_change_4 : decode cX8_change 4 = .ok (.iload_n 3, 1) := by decide +kernel
theorem dX8_change_5 : decode cX8_change 5 = .ok (.invokestatic 76, 3) := by decide +kernel
theorem dX8_change_8 : decode cX8_change 8 = .ok (.ifCond .ne 42, 3) := by decide +kernel
theorem dX8_change_11 : decode cX8_change 11 = .ok (.iload_n 2, 1) := by decide +kernel
theorem dX8_change_12 : decode cX8_change 12 = .ok (.iconst 1, 1) := by decide +kernel
theorem dX8_change_13 : decode cX8_change 13 = .ok (.if_icmp .ne 10, 3) := by decide +kernel
theorem dX8_change_16 : decode cX8_change 16 = .ok (.iload_n 3, 1) := by decide +kernel
theorem dX8_change_17 : decode cX8_change 17 = .ok (.invokestatic 102, 3) := by decide +kernel
theorem dX8_change_20 : decode cX8_change 20 = .ok (.ifCond .ne 30, 3) := by decide +kernel
theorem dX8_change_23 : decode cX8_change 23 = .ok (.iload_n 2, 1) := by decide +kernel
theorem dX8_change_24 : decode cX8_change 24 = .ok (.iconst 2, 1) := by decide +kernel
theorem dX8_change_25 : decode cX8_change 25 = .ok (.if_icmp .ne 13, 3) := by decide +kernel
theorem dX8_change_28 : decode cX8_change 28 = .ok (.iload_n 3, 1) := by decide +kernel
theorem dX8_change_29 : decode cX8_change 29 = .ok (.iconst 1, 1) := by decide +kernel
theorem dX8_change_30 : decode cX8_change 30 = .ok (.bipush 60, 2) := by decide +kernel
theorem dX8_change_32 : decode cX8_change 32 = .ok (.invokestatic 68, 3) := by decide +kernel
theorem dX8_change_35 : decode cX8_change 35 = .ok (.ifCond .ne 15, 3) := by decide +kernel
theorem dX8_change_38 : decode cX8_change 38 = .ok (.iload_n 2, 1) := by decide +kernel
theorem dX8_change_39 : decode cX8_change 39 = .ok (.iconst 3, 1) := by decide +kernel
theorem dX8_change_40 : decode cX8_change 40 = .ok (.if_icmp .ne 14, 3) := by decide +kernel
theorem dX8_change_43 : decode cX8_change 43 = .ok (.iload_n 3, 1) := by decide +kernel
theorem dX8_change_44 : decode cX8_change 44 = .ok (.invokestatic 105, 3) := by decide +kernel
theorem dX8_change_47 : decode cX8_change 47 = .ok (.ifCond .eq 7, 3) := by decide +kernel
theorem dX8_change_50 : decode cX8_change 50 = .ok (.iconst 1, 1) := by decide +kernel
theorem dX8_change_51 : decode cX8_change 51 = .ok (.goto 4, 3) := by decide +kernel
theorem dX8_change_54 : decode cX8_change 54 = .ok (.iconst 0, 1) := by decide +kernel
theorem dX8_change_55 : decode cX8_change 55 = .ok (.istore 4, 2) := by decide +kernel
theorem dX8_change_57 : decode cX8_change 57 = .ok (.aload_n 0, 1) := by decide +kernel
theorem dX8_change_58 : decode cX8_change 58 = .ok (.iload_n 1, 1) := by decide +kernel
theorem dX8_change_59 : decode cX8_change 59 = .ok (.invokevirtual 99, 3) := by decide +kernel
theorem dX8_change_62 : decode cX8_change 62 = .ok (.ifCond .eq 21, 3) := by decide +kernel
theorem dX8_change_65 : decode cX8_change 65 = .ok (.iload 4, 2) := by decide +kernel
theorem dX8_change_67 : decode cX8_change 67 = .ok (.ifCond .eq 16, 3) := by decide +kernel
theorem dX8_change_70 : decode cX8_change 70 = .ok (.aload_n 0, 1) := by decide +kernel
theorem dX8_change_71 : decode cX8_change 71 = .ok (.iload_n 1, 1) := by decide +kernel
theorem dX8_change_72 : decode cX8_change 72 = .ok (.iload_n 2, 1) := by decide +kernel
theorem dX8_change_73 : decode cX8_change 73 = .ok (.invokestatic 72, 3) := by decide +kernel
theorem dX8_change_76 : decode cX8_change 76 = .ok (.iload_n 3, 1) := by decide +kernel
theorem dX8_change_77 : decode cX8_change 77 = .ok (.invokevirtual 108, 3) := by decide +kernel
theorem dX8_change_80 : decode cX8_change 80 = .ok (.goto 9, 3) := by decide +kernel
theorem dX8_change_83 : decode cX8_change 83 = .ok (.aload_n 0, 1) := by decide +kernel
theorem dX8_change_84 : decode cX8_change 84 = .ok (.ldc 63, 2) := by decide +kernel
theorem dX8_change_86 : decode cX8_change 86 = .ok (.invokevirtual 80, 3) := by decide +kernel
theorem dX8_change_89 : decode cX8_change 89 = .ok (.ireturn, 1) := by decide +kernel
theorem dX8_face_0 : decode cX8_face 0 = .ok (.iload_n 2, 1) := by decide +kernel
theorem dX8_face_1 : decode cX8_face 1 = .ok (.ifCond .ne 10, 3) := by decide +kernel
theorem dX8_face_4 : decode cX8_face 4 = .ok (.iload_n 3, 1) := by decide +kernel
theorem dX8_face_5 : decode cX8_face 5 = .ok (.invokestatic 102, 3) := by decide +kernel
theorem dX8_face_8 : decode cX8_face 8 = .ok (.ifCond .ne 18, 3) := by decide +kernel
theorem dX8_face_11 : decode cX8_face 11 = .ok (.iload_n 2, 1) := by decide +kernel
theorem dX8_face_12 : decode cX8_face 12 = .ok (.iconst 1, 1) := by decide +kernel
theorem dX8_face_13 : decode cX8_face 13 = .ok (.if_icmp .ne 17, 3) := by decide +kernel
theorem dX8_face_16 : decode cX8_face 16 = .ok (.iload_n 3, 1) := by decide +kernel
theorem dX8_face_17 : decode cX8_face 17 = .ok (.iconst 0, 1) := by decide +kernel
theorem dX8_face_18 : decode cX8_face 18 = .ok (.bipush 99, 2) := by decide +kernel
theorem dX8_face_20 : decode cX8_face 20 = .ok (.invokestatic 68, 3) := by decide +kernel
theorem dX8_face_23 : decode cX8_face 23 = .ok (.ifCond .eq 7, 3) := by decide +kernel
theorem dX8_face_26 : decode cX8_face 26 = .ok (.iconst 1, 1) := by decide +kernel
theorem dX8_face_27 : decode cX8_face 27 = .ok (.goto 4, 3) := by decide +kernel
theorem dX8_face_30 : decode cX8_face 30 = .ok (.iconst 0, 1) := by decide +kernel
theorem dX8_face_31 : decode cX8_face 31 = .ok (.istore 4, 2) := by decide +kernel
theorem dX8_face_33 : decode cX8_face 33 = .ok (.iload_n 1, 1) := by decide +kernel
theorem dX8_face_34 : decode cX8_face 34 = .ok (.invokestatic 111, 3) := by decide +kernel
theorem dX8_face_37 : decode cX8_face 37 = .ok (.ifCond .eq 25, 3) := by decide +kernel
theorem dX8_face_40 : decode cX8_face 40 = .ok (.iload 4, 2) := by decide +kernel
theorem dX8_face_42 : decode cX8_face 42 = .ok (.ifCond .eq 20, 3) := by decide +kernel
theorem dX8_face_45 : decode cX8_face 45 = .ok (.aload_n 0, 1) := by decide +kernel
theorem dX8_face_46 : decode cX8_face 46 = .ok (.bipush 15, 2) := by decide +kernel
theorem dX8_face_48 : decode cX8_face 48 = .ok (.bipush 6, 2) := by decide +kernel
theorem dX8_face_50 : decode cX8_face 50 = .ok (.iload_n 2, 1) := by decide +kernel
theorem dX8_face_51 : decode cX8_face 51 = .ok (.imul, 1) := by decide +kernel
theorem dX8_face_52 : decode cX8_face 52 = .ok (.iadd, 1) := by decide +kernel
theorem dX8_face_53 : decode cX8_face 53 = .ok (.iload_n 1, 1) := by decide +kernel
theorem dX8_face_54 : decode cX8_face 54 = .ok (.iadd, 1) := by decide +kernel
theorem dX8_face_55 : decode cX8_face 55 = .ok (.iload_n 3, 1) := by decide +kernel
theorem dX8_face_56 : decode cX8_face 56 = .ok (.invokevirtual 108, 3) := by decide +kernel
theorem dX8_face_59 : decode cX8_face 59 = .ok (.goto 9, 3) := by decide +kernel
theorem dX8_face_62 : decode cX8_face 62 = .ok (.aload_n 0, 1) := by decide +kernel
theorem dX8_face_63 : decode cX8_face 63 = .ok (.ldc 63, 2) := by decide +kernel
theorem dX8_face_65 : decode cX8_face 65 = .ok (.invokevirtual 80, 3) := by decide +kernel
theorem dX8_face_68 : decode cX8_face 68 = .ok (.ireturn, 1) := by decide +kernel
theorem dX8_show_0 : decode cX8_show 0 = .ok (.iload_n 1, 1) := by decide +kernel
theorem dX8_show_1 : decode cX8_show 1 = .ok (.invokestatic 114, 3) := by decide +kernel
theorem dX8_show_4 : decode cX8_show 4 = .ok (.ifCond .eq 24, 3) := by decide +kernel
theorem dX8_show_7 : decode cX8_show 7 = .ok (.iload_n 2, 1) := by decide +kernel
theorem dX8_show_8 : decode cX8_show 8 = .ok (.iconst (-1), 1) := by decide +kernel
theorem dX8_show_9 : decode cX8_show 9 = .ok (.iconst 5, 1) := by decide +kernel
theorem dX8_show_10 : decode cX8_show 10 = .ok (.invokestatic 68, 3) := by decide +kernel
theorem dX8_show_13 : decode cX8_show 13 = .ok (.ifCond .eq 15, 3) := by decide +kernel
theorem dX8_show_16 : decode cX8_show 16 = .ok (.aload_n 0, 1) := by decide +kernel
theorem dX8_show_17 : decode cX8_show 17 = .ok (.bipush 27, 2) := by decide +kernel
theorem dX8_show_19 : decode cX8_show 19 = .ok (.iload_n 1, 1) := by decide +kernel
theorem dX8_show_20 : decode cX8_show 20 = .ok (.iadd, 1) := by decide +kernel
theorem dX8_show_21 : decode cX8_show 21 = .ok (.iload_n 2, 1) := by decide +kernel
theorem dX8_show_22 : decode cX8_show 22 = .ok (.invokevirtual 108, 3) := by decide +kernel
theorem dX8_show_25 : decode cX8_show 25 = .ok (.goto 9, 3) := by decide +kernel
theorem dX8_show_28 : decode cX8_show 28 = .ok (.aload_n 0, 1) := by decide +kernel
theorem dX8_show_29 : decode cX8_show 29 = .ok (.ldc 63, 2) := by decide +kernel
theorem dX8_show_31 : decode cX8_show 31 = .ok (.invokevirtual 80, 3) := by decide +kernel
theorem dX8_show_34 : decode cX8_show 34 = .ok (.ireturn, 1) := by decide +kernel
theorem dX8_pace_0 : decode cX8_pace 0 = .ok (.iload_n 1, 1) := by decide +kernel
theorem dX8_pace_1 : decode cX8_pace 1 = .ok (.iconst 1, 1) := by decide +kernel
theorem dX8_pace_2 : decode cX8_pace 2 = .ok (.bipush 20, 2) := by decide +kernel
theorem dX8_pace_4 : decode cX8_pace 4 = .ok (.invokestatic 68, 3) := by decide +kernel
theorem dX8_pace_7 : decode cX8_pace 7 = .ok (.ifCond .eq 12, 3) := by decide +kernel
theorem dX8_pace_10 : decode cX8_pace 10 = .ok (.aload_n 0, 1) := by decide +kernel
theorem dX8_pace_11 : decode cX8_pace 11 = .ok (.iconst 1, 1) := by decide +kernel
theorem dX8_pace_12 : decode cX8_pace 12 = .ok (.iload_n 1, 1) := by decide +kernel
theorem dX8_pace_13 : decode cX8_pace 13 = .ok (.invokevirtual 108, 3) := by decide +kernel
theorem dX8_pace_16 : decode cX8_pace 16 = .ok (.goto 9, 3) := by decide +kernel
theorem dX8_pace_19 : decode cX8_pace 19 = .ok (.aload_n 0, 1) := by decide +kernel
theorem dX8_pace_20 : decode cX8_pace 20 = .ok (.ldc 63, 2) := by decide +kernel
theorem dX8_pace_22 : decode cX8_pace 22 = .ok (.invokevirtual 80, 3) := by decide +kernel
theorem dX8_pace_25 : decode cX8_pace 25 = .ok (.ireturn, 1) := by decide +kernel
theorem dX8_likeBy_0 : decode cX8_likeBy 0 = .ok (.bipush 8, 2) := by decide +kernel
theorem dX8_likeBy_2 : decode cX8_likeBy 2 = .ok (.iload_n 1, 1) := by decide +kernel
theorem dX8_likeBy_3 : decode cX8_likeBy 3 = .ok (.iload_n 2, 1) := by decide +kernel
theorem dX8_likeBy_4 : decode cX8_likeBy 4 = .ok (.ixor, 1) := by decide +kernel
theorem dX8_likeBy_5 : decode cX8_likeBy 5 = .ok (.invokestatic 117, 3) := by decide +kernel
theorem dX8_likeBy_8 : decode cX8_likeBy 8 = .ok (.isub, 1) := by decide +kernel
theorem dX8_likeBy_9 : decode cX8_likeBy 9 = .ok (.istore_n 3, 1) := by decide +kernel
theorem dX8_likeBy_10 : decode cX8_likeBy 10 = .ok (.iload_n 0, 1) := by decide +kernel
theorem dX8_likeBy_11 : decode cX8_likeBy 11 = .ok (.tableswitch 89 1 6 #[37, 41, 47, 73, 77, 81], 37) := by decide +kernel
theorem dX8_likeBy_48 : decode cX8_likeBy 48 = .ok (.iconst 2, 1) := by decide +kernel
theorem dX8_likeBy_49 : decode cX8_likeBy 49 = .ok (.iload_n 3, 1) := by decide +kernel
theorem dX8_likeBy_50 : decode cX8_likeBy 50 = .ok (.imul, 1) := by decide +kernel
theorem dX8_likeBy_51 : decode cX8_likeBy 51 = .ok (.ireturn, 1) := by decide +kernel
theorem dX8_likeBy_52 : decode cX8_likeBy 52 = .ok (.iconst 2, 1) := by decide +kernel
theorem dX8_likeBy_53 : decode cX8_likeBy 53 = .ok (.iload_n 3, 1) := by decide +kernel
theorem dX8_likeBy_54 : decode cX8_likeBy 54 = .ok (.imul, 1) := by decide +kernel
theorem dX8_likeBy_55 : decode cX8_likeBy 55 = .ok (.iconst 2, 1) := by decide +kernel
theorem dX8_likeBy_56 : decode cX8_likeBy 56 = .ok (.iadd, 1) := by decide +kernel
theorem dX8_likeBy_57 : decode cX8_likeBy 57 = .ok (.ireturn, 1) := by decide +kernel
theorem dX8_likeBy_58 : decode cX8_likeBy 58 = .ok (.iconst 0, 1) := by decide +kernel
theorem dX8_likeBy_59 : decode cX8_likeBy 59 = .ok (.iconst 2, 1) := by decide +kernel
theorem dX8_likeBy_60 : decode cX8_likeBy 60 = .ok (.iload_n 3, 1) := by decide +kernel
theorem dX8_likeBy_61 : decode cX8_likeBy 61 = .ok (.imul, 1) := by decide +kernel
theorem dX8_likeBy_62 : decode cX8_likeBy 62 = .ok (.iconst 2, 1) := by decide +kernel
theorem dX8_likeBy_63 : decode cX8_likeBy 63 = .ok (.iadd, 1) := by decide +kernel
theorem dX8_likeBy_64 : decode cX8_likeBy 64 = .ok (.iload_n 2, 1) := by decide +kernel
theorem dX8_likeBy_65 : decode cX8_likeBy 65 = .ok (.bipush 7, 2) := by decide +kernel
theorem dX8_likeBy_67 : decode cX8_likeBy 67 = .ok (.invokestatic 120, 3) := by decide +kernel
theorem dX8_likeBy_70 : decode cX8_likeBy 70 = .ok (.ifCond .eq 7, 3) := by decide +kernel
theorem dX8_likeBy_73 : decode cX8_likeBy 73 = .ok (.iconst 5, 1) := by decide +kernel
theorem dX8_likeBy_74 : decode cX8_likeBy 74 = .ok (.goto 5, 3) := by decide +kernel
theorem dX8_likeBy_77 : decode cX8_likeBy 77 = .ok (.bipush (-5), 2) := by decide +kernel
theorem dX8_likeBy_79 : decode cX8_likeBy 79 = .ok (.iadd, 1) := by decide +kernel
theorem dX8_likeBy_80 : decode cX8_likeBy 80 = .ok (.invokestatic 123, 3) := by decide +kernel
theorem dX8_likeBy_83 : decode cX8_likeBy 83 = .ok (.ireturn, 1) := by decide +kernel
theorem dX8_likeBy_84 : decode cX8_likeBy 84 = .ok (.iload_n 3, 1) := by decide +kernel
theorem dX8_likeBy_85 : decode cX8_likeBy 85 = .ok (.iconst 3, 1) := by decide +kernel
theorem dX8_likeBy_86 : decode cX8_likeBy 86 = .ok (.iadd, 1) := by decide +kernel
theorem dX8_likeBy_87 : decode cX8_likeBy 87 = .ok (.ireturn, 1) := by decide +kernel
theorem dX8_likeBy_88 : decode cX8_likeBy 88 = .ok (.iload_n 3, 1) := by decide +kernel
theorem dX8_likeBy_89 : decode cX8_likeBy 89 = .ok (.iconst 2, 1) := by decide +kernel
theorem dX8_likeBy_90 : decode cX8_likeBy 90 = .ok (.idiv, 1) := by decide +kernel
theorem dX8_likeBy_91 : decode cX8_likeBy 91 = .ok (.ireturn, 1) := by decide +kernel
theorem dX8_likeBy_92 : decode cX8_likeBy 92 = .ok (.iconst 3, 1) := by decide +kernel
theorem dX8_likeBy_93 : decode cX8_likeBy 93 = .ok (.iload_n 3, 1) := by decide +kernel
theorem dX8_likeBy_94 : decode cX8_likeBy 94 = .ok (.iconst 2, 1) := by decide +kernel
theorem dX8_likeBy_95 : decode cX8_likeBy 95 = .ok (.idiv, 1) := by decide +kernel
theorem dX8_likeBy_96 : decode cX8_likeBy 96 = .ok (.invokestatic 123, 3) := by decide +kernel
theorem dX8_likeBy_99 : decode cX8_likeBy 99 = .ok (.ireturn, 1) := by decide +kernel
theorem dX8_likeBy_100 : decode cX8_likeBy 100 = .ok (.iload_n 3, 1) := by decide +kernel
theorem dX8_likeBy_101 : decode cX8_likeBy 101 = .ok (.ireturn, 1) := by decide +kernel
theorem dX8_likeTo_0 : decode cX8_likeTo 0 = .ok (.aload_n 0, 1) := by decide +kernel
theorem dX8_likeTo_1 : decode cX8_likeTo 1 = .ok (.iload_n 1, 1) := by decide +kernel
theorem dX8_likeTo_2 : decode cX8_likeTo 2 = .ok (.iconst 0, 1) := by decide +kernel
theorem dX8_likeTo_3 : decode cX8_likeTo 3 = .ok (.invokevirtual 92, 3) := by decide +kernel
theorem dX8_likeTo_6 : decode cX8_likeTo 6 = .ok (.aload_n 0, 1) := by decide +kernel
theorem dX8_likeTo_7 : decode cX8_likeTo 7 = .ok (.iload_n 1, 1) := by decide +kernel
theorem dX8_likeTo_8 : decode cX8_likeTo 8 = .ok (.iconst 1, 1) := by decide +kernel
theorem dX8_likeTo_9 : decode cX8_likeTo 9 = .ok (.invokevirtual 92, 3) := by decide +kernel
theorem dX8_likeTo_12 : decode cX8_likeTo 12 = .ok (.aload_n 0, 1) := by decide +kernel
theorem dX8_likeTo_13 : decode cX8_likeTo 13 = .ok (.getfield 9, 3) := by decide +kernel
theorem dX8_likeTo_16 : decode cX8_likeTo 16 = .ok (.bipush 15, 2) := by decide +kernel
theorem dX8_likeTo_18 : decode cX8_likeTo 18 = .ok (.iload_n 2, 1) := by decide +kernel
theorem dX8_likeTo_19 : decode cX8_likeTo 19 = .ok (.iadd, 1) := by decide +kernel
theorem dX8_likeTo_20 : decode cX8_likeTo 20 = .ok (.iaload, 1) := by decide +kernel
theorem dX8_likeTo_21 : decode cX8_likeTo 21 = .ok (.invokestatic 128, 3) := by decide +kernel
theorem dX8_likeTo_24 : decode cX8_likeTo 24 = .ok (.ireturn, 1) := by decide +kernel
theorem dX8_likeness_0 : decode cX8_likeness 0 = .ok (.iconst 0, 1) := by decide +kernel
theorem dX8_likeness_1 : decode cX8_likeness 1 = .ok (.istore_n 2, 1) := by decide +kernel
theorem dX8_likeness_2 : decode cX8_likeness 2 = .ok (.iconst 0, 1) := by decide +kernel
theorem dX8_likeness_3 : decode cX8_likeness 3 = .ok (.istore_n 3, 1) := by decide +kernel
theorem dX8_likeness_4 : decode cX8_likeness 4 = .ok (.iload_n 3, 1) := by decide +kernel
theorem dX8_likeness_5 : decode cX8_likeness 5 = .ok (.aload_n 0, 1) := by decide +kernel
theorem dX8_likeness_6 : decode cX8_likeness 6 = .ok (.getfield 9, 3) := by decide +kernel
theorem dX8_likeness_9 : decode cX8_likeness 9 = .ok (.iconst 2, 1) := by decide +kernel
theorem dX8_likeness_10 : decode cX8_likeness 10 = .ok (.iaload, 1) := by decide +kernel
theorem dX8_likeness_11 : decode cX8_likeness 11 = .ok (.if_icmp .ge 52, 3) := by decide +kernel
theorem dX8_likeness_14 : decode cX8_likeness 14 = .ok (.iload_n 2, 1) := by decide +kernel
theorem dX8_likeness_15 : decode cX8_likeness 15 = .ok (.aload_n 0, 1) := by decide +kernel
theorem dX8_likeness_16 : decode cX8_likeness 16 = .ok (.getfield 9, 3) := by decide +kernel
theorem dX8_likeness_19 : decode cX8_likeness 19 = .ok (.bipush 27, 2) := by decide +kernel
theorem dX8_likeness_21 : decode cX8_likeness 21 = .ok (.iload_n 1, 1) := by decide +kernel
theorem dX8_likeness_22 : decode cX8_likeness 22 = .ok (.iadd, 1) := by decide +kernel
theorem dX8_likeness_23 : decode cX8_likeness 23 = .ok (.iaload, 1) := by decide +kernel
theorem dX8_likeness_24 : decode cX8_likeness 24 = .ok (.ifCond .lt 30, 3) := by decide +kernel
theorem dX8_likeness_27 : decode cX8_likeness 27 = .ok (.aload_n 0, 1) := by decide +kernel
theorem dX8_likeness_28 : decode cX8_likeness 28 = .ok (.iload_n 3, 1) := by decide +kernel
theorem dX8_likeness_29 : decode cX8_likeness 29 = .ok (.iconst 3, 1) := by decide +kernel
theorem dX8_likeness_30 : decode cX8_likeness 30 = .ok (.invokevirtual 92, 3) := by decide +kernel
theorem dX8_likeness_33 : decode cX8_likeness 33 = .ok (.iload_n 1, 1) := by decide +kernel
theorem dX8_likeness_34 : decode cX8_likeness 34 = .ok (.if_icmp .ne 20, 3) := by decide +kernel
theorem dX8_likeness_37 : decode cX8_likeness 37 = .ok (.aload_n 0, 1) := by decide +kernel
theorem dX8_likeness_38 : decode cX8_likeness 38 = .ok (.iload_n 3, 1) := by decide +kernel
theorem dX8_likeness_39 : decode cX8_likeness 39 = .ok (.aload_n 0, 1) := by decide +kernel
theorem dX8_likeness_40 : decode cX8_likeness 40 = .ok (.getfield 9, 3) := by decide +kernel
theorem dX8_likeness_43 : decode cX8_likeness 43 = .ok (.bipush 27, 2) := by decide +kernel
theorem dX8_likeness_45 : decode cX8_likeness 45 = .ok (.iload_n 1, 1) := by decide +kernel
theorem dX8_likeness_46 : decode cX8_likeness 46 = .ok (.iadd, 1) := by decide +kernel
theorem dX8_likeness_47 : decode cX8_likeness 47 = .ok (.iaload, 1) := by decide +kernel
theorem dX8_likeness_48 : decode cX8_likeness 48 = .ok (.invokevirtual 132, 3) := by decide +kernel
theorem dX8_likeness_51 : decode cX8_likeness 51 = .ok (.goto 4, 3) := by decide +kernel
theorem dX8_likeness_54 : decode cX8_likeness 54 = .ok (.iconst 0, 1) := by decide +kernel
theorem dX8_likeness_55 : decode cX8_likeness 55 = .ok (.iadd, 1) := by decide +kernel
theorem dX8_likeness_56 : decode cX8_likeness 56 = .ok (.istore_n 2, 1) := by decide +kernel
theorem dX8_likeness_57 : decode cX8_likeness 57 = .ok (.iinc 3 1, 3) := by decide +kernel
theorem dX8_likeness_60 : decode cX8_likeness 60 = .ok (.goto (-56), 3) := by decide +kernel
theorem dX8_likeness_63 : decode cX8_likeness 63 = .ok (.iload_n 2, 1) := by decide +kernel
theorem dX8_likeness_64 : decode cX8_likeness 64 = .ok (.ireturn, 1) := by decide +kernel
end
section
theorem dX8_partsAt_0 : decode cX8_partsAt 0 = .ok (.iconst 0, 1) := by decide +kernel
theorem dX8_partsAt_1 : decode cX8_partsAt 1 = .ok (.istore_n 2, 1) := by decide +kernel
theorem dX8_partsAt_2 : decode cX8_partsAt 2 = .ok (.iconst 0, 1) := by decide +kernel
theorem dX8_partsAt_3 : decode cX8_partsAt 3 = .ok (.istore_n 3, 1) := by decide +kernel
theorem dX8_partsAt_4 : decode cX8_partsAt 4 = .ok (.iload_n 3, 1) := by decide +kernel
theorem dX8_partsAt_5 : decode cX8_partsAt 5 = .ok (.aload_n 0, 1) := by decide +kernel
theorem dX8_partsAt_6 : decode cX8_partsAt 6 = .ok (.getfield 9, 3) := by decide +kernel
theorem dX8_partsAt_9 : decode cX8_partsAt 9 = .ok (.iconst 2, 1) := by decide +kernel
theorem dX8_partsAt_10 : decode cX8_partsAt 10 = .ok (.iaload, 1) := by decide +kernel
theorem dX8_partsAt_11 : decode cX8_partsAt 11 = .ok (.if_icmp .ge 29, 3) := by decide +kernel
theorem dX8_partsAt_14 : decode cX8_partsAt 14 = .ok (.iload_n 2, 1) := by decide +kernel
theorem dX8_partsAt_15 : decode cX8_partsAt 15 = .ok (.aload_n 0, 1) := by decide +kernel
theorem dX8_partsAt_16 : decode cX8_partsAt 16 = .ok (.iload_n 3, 1) := by decide +kernel
theorem dX8_partsAt_17 : decode cX8_partsAt 17 = .ok (.iconst 3, 1) := by decide +kernel
theorem dX8_partsAt_18 : decode cX8_partsAt 18 = .ok (.invokevirtual 92, 3) := by decide +kernel
theorem dX8_partsAt_21 : decode cX8_partsAt 21 = .ok (.iload_n 1, 1) := by decide +kernel
theorem dX8_partsAt_22 : decode cX8_partsAt 22 = .ok (.if_icmp .ne 9, 3) := by decide +kernel
theorem dX8_partsAt_25 : decode cX8_partsAt 25 = .ok (.iconst 1, 1) := by decide +kernel
theorem dX8_partsAt_26 : decode cX8_partsAt 26 = .ok (.iload_n 3, 1) := by decide +kernel
theorem dX8_partsAt_27 : decode cX8_partsAt 27 = .ok (.ishl, 1) := by decide +kernel
theorem dX8_partsAt_28 : decode cX8_partsAt 28 = .ok (.goto 4, 3) := by decide +kernel
theorem dX8_partsAt_31 : decode cX8_partsAt 31 = .ok (.iconst 0, 1) := by decide +kernel
theorem dX8_partsAt_32 : decode cX8_partsAt 32 = .ok (.ior, 1) := by decide +kernel
theorem dX8_partsAt_33 : decode cX8_partsAt 33 = .ok (.istore_n 2, 1) := by decide +kernel
theorem dX8_partsAt_34 : decode cX8_partsAt 34 = .ok (.iinc 3 1, 3) := by decide +kernel
theorem dX8_partsAt_37 : decode cX8_partsAt 37 = .ok (.goto (-33), 3) := by decide +kernel
theorem dX8_partsAt_40 : decode cX8_partsAt 40 = .ok (.iload_n 2, 1) := by decide +kernel
theorem dX8_partsAt_41 : decode cX8_partsAt 41 = .ok (.ireturn, 1) := by decide +kernel
theorem dX8_roomOf_0 : decode cX8_roomOf 0 = .ok (.aload_n 0, 1) := by decide +kernel
theorem dX8_roomOf_1 : decode cX8_roomOf 1 = .ok (.getfield 9, 3) := by decide +kernel
theorem dX8_roomOf_4 : decode cX8_roomOf 4 = .ok (.iconst 0, 1) := by decide +kernel
theorem dX8_roomOf_5 : decode cX8_roomOf 5 = .ok (.iaload, 1) := by decide +kernel
theorem dX8_roomOf_6 : decode cX8_roomOf 6 = .ok (.aload_n 0, 1) := by decide +kernel
theorem dX8_roomOf_7 : decode cX8_roomOf 7 = .ok (.getfield 9, 3) := by decide +kernel
theorem dX8_roomOf_10 : decode cX8_roomOf 10 = .ok (.bipush 73, 2) := by decide +kernel
theorem dX8_roomOf_12 : decode cX8_roomOf 12 = .ok (.iload_n 1, 1) := by decide +kernel
theorem dX8_roomOf_13 : decode cX8_roomOf 13 = .ok (.iadd, 1) := by decide +kernel
theorem dX8_roomOf_14 : decode cX8_roomOf 14 = .ok (.iaload, 1) := by decide +kernel
theorem dX8_roomOf_15 : decode cX8_roomOf 15 = .ok (.isub, 1) := by decide +kernel
theorem dX8_roomOf_16 : decode cX8_roomOf 16 = .ok (.aload_n 0, 1) := by decide +kernel
theorem dX8_roomOf_17 : decode cX8_roomOf 17 = .ok (.getfield 9, 3) := by decide +kernel
theorem dX8_roomOf_20 : decode cX8_roomOf 20 = .ok (.iconst 1, 1) := by decide +kernel
theorem dX8_roomOf_21 : decode cX8_roomOf 21 = .ok (.iaload, 1) := by decide +kernel
theorem dX8_roomOf_22 : decode cX8_roomOf 22 = .ok (.idiv, 1) := by decide +kernel
theorem dX8_roomOf_23 : decode cX8_roomOf 23 = .ok (.istore_n 2, 1) := by decide +kernel
theorem dX8_roomOf_24 : decode cX8_roomOf 24 = .ok (.iload_n 2, 1) := by decide +kernel
theorem dX8_roomOf_25 : decode cX8_roomOf 25 = .ok (.bipush 6, 2) := by decide +kernel
theorem dX8_roomOf_27 : decode cX8_roomOf 27 = .ok (.if_icmp .ge 7, 3) := by decide +kernel
theorem dX8_roomOf_30 : decode cX8_roomOf 30 = .ok (.iload_n 2, 1) := by decide +kernel
theorem dX8_roomOf_31 : decode cX8_roomOf 31 = .ok (.goto 4, 3) := by decide +kernel
theorem dX8_roomOf_34 : decode cX8_roomOf 34 = .ok (.iconst (-1), 1) := by decide +kernel
theorem dX8_roomOf_35 : decode cX8_roomOf 35 = .ok (.ireturn, 1) := by decide +kernel
theorem dX8_visitorsIn_0 : decode cX8_visitorsIn 0 = .ok (.iconst 0, 1) := by decide +kernel
theorem dX8_visitorsIn_1 : decode cX8_visitorsIn 1 = .ok (.istore_n 2, 1) := by decide +kernel
theorem dX8_visitorsIn_2 : decode cX8_visitorsIn 2 = .ok (.iconst 0, 1) := by decide +kernel
theorem dX8_visitorsIn_3 : decode cX8_visitorsIn 3 = .ok (.istore_n 3, 1) := by decide +kernel
theorem dX8_visitorsIn_4 : decode cX8_visitorsIn 4 = .ok (.iload_n 3, 1) := by decide +kernel
theorem dX8_visitorsIn_5 : decode cX8_visitorsIn 5 = .ok (.aload_n 0, 1) := by decide +kernel
theorem dX8_visitorsIn_6 : decode cX8_visitorsIn 6 = .ok (.getfield 9, 3) := by decide +kernel
theorem dX8_visitorsIn_9 : decode cX8_visitorsIn 9 = .ok (.iconst 3, 1) := by decide +kernel
theorem dX8_visitorsIn_10 : decode cX8_visitorsIn 10 = .ok (.iaload, 1) := by decide +kernel
theorem dX8_visitorsIn_11 : decode cX8_visitorsIn 11 = .ok (.if_icmp .ge 28, 3) := by decide +kernel
theorem dX8_visitorsIn_14 : decode cX8_visitorsIn 14 = .ok (.iload_n 2, 1) := by decide +kernel
theorem dX8_visitorsIn_15 : decode cX8_visitorsIn 15 = .ok (.aload_n 0, 1) := by decide +kernel
theorem dX8_visitorsIn_16 : decode cX8_visitorsIn 16 = .ok (.iload_n 3, 1) := by decide +kernel
theorem dX8_visitorsIn_17 : decode cX8_visitorsIn 17 = .ok (.invokevirtual 135, 3) := by decide +kernel
theorem dX8_visitorsIn_20 : decode cX8_visitorsIn 20 = .ok (.iload_n 1, 1) := by decide +kernel
theorem dX8_visitorsIn_21 : decode cX8_visitorsIn 21 = .ok (.if_icmp .ne 9, 3) := by decide +kernel
theorem dX8_visitorsIn_24 : decode cX8_visitorsIn 24 = .ok (.iconst 1, 1) := by decide +kernel
theorem dX8_visitorsIn_25 : decode cX8_visitorsIn 25 = .ok (.iload_n 3, 1) := by decide +kernel
theorem dX8_visitorsIn_26 : decode cX8_visitorsIn 26 = .ok (.ishl, 1) := by decide +kernel
theorem dX8_visitorsIn_27 : decode cX8_visitorsIn 27 = .ok (.goto 4, 3) := by decide +kernel
theorem dX8_visitorsIn_30 : decode cX8_visitorsIn 30 = .ok (.iconst 0, 1) := by decide +kernel
theorem dX8_visitorsIn_31 : decode cX8_visitorsIn 31 = .ok (.ior, 1) := by decide +kernel
theorem dX8_visitorsIn_32 : decode cX8_visitorsIn 32 = .ok (.istore_n 2, 1) := by decide +kernel
theorem dX8_visitorsIn_33 : decode cX8_visitorsIn 33 = .ok (.iinc 3 1, 3) := by decide +kernel
theorem dX8_visitorsIn_36 : decode cX8_visitorsIn 36 = .ok (.goto (-32), 3) := by decide +kernel
theorem dX8_visitorsIn_39 : decode cX8_visitorsIn 39 = .ok (.iload_n 2, 1) := by decide +kernel
theorem dX8_visitorsIn_40 : decode cX8_visitorsIn 40 = .ok (.ireturn, 1) := by decide +kernel
theorem dX8_room_0 : decode cX8_room 0 = .ok (.iload_n 1, 1) := by decide +kernel
theorem dX8_room_1 : decode cX8_room 1 = .ok (.invokestatic 114, 3) := by decide +kernel
theorem dX8_room_4 : decode cX8_room 4 = .ok (.ifCond .eq 12, 3) := by decide +kernel
theorem dX8_room_7 : decode cX8_room 7 = .ok (.iload_n 2, 1) := by decide +kernel
theorem dX8_room_8 : decode cX8_room 8 = .ok (.iconst 0, 1) := by decide +kernel
theorem dX8_room_9 : decode cX8_room 9 = .ok (.iconst 3, 1) := by decide +kernel
theorem dX8_room_10 : decode cX8_room 10 = .ok (.invokestatic 68, 3) := by decide +kernel
theorem dX8_room_13 : decode cX8_room 13 = .ok (.ifCond .ne 10, 3) := by decide +kernel
theorem dX8_room_16 : decode cX8_room 16 = .ok (.aload_n 0, 1) := by decide +kernel
theorem dX8_room_17 : decode cX8_room 17 = .ok (.ldc 63, 2) := by decide +kernel
theorem dX8_room_19 : decode cX8_room 19 = .ok (.invokevirtual 80, 3) := by decide +kernel
theorem dX8_room_22 : decode cX8_room 22 = .ok (.ireturn, 1) := by decide +kernel
theorem dX8_room_23 : decode cX8_room 23 = .ok (.iload_n 2, 1) := by decide +kernel
theorem dX8_room_24 : decode cX8_room 24 = .ok (.ifCond .ne 15, 3) := by decide +kernel
theorem dX8_room_27 : decode cX8_room 27 = .ok (.aload_n 0, 1) := by decide +kernel
theorem dX8_room_28 : decode cX8_room 28 = .ok (.getfield 9, 3) := by decide +kernel
theorem dX8_room_31 : decode cX8_room 31 = .ok (.bipush 27, 2) := by decide +kernel
theorem dX8_room_33 : decode cX8_room 33 = .ok (.iload_n 1, 1) := by decide +kernel
theorem dX8_room_34 : decode cX8_room 34 = .ok (.iadd, 1) := by decide +kernel
theorem dX8_room_35 : decode cX8_room 35 = .ok (.iaload, 1) := by decide +kernel
theorem dX8_room_36 : decode cX8_room 36 = .ok (.goto 34, 3) := by decide +kernel
theorem dX8_room_39 : decode cX8_room 39 = .ok (.iload_n 2, 1) := by decide +kernel
theorem dX8_room_40 : decode cX8_room 40 = .ok (.iconst 1, 1) := by decide +kernel
theorem dX8_room_41 : decode cX8_room 41 = .ok (.if_icmp .ne 11, 3) := by decide +kernel
theorem dX8_room_44 : decode cX8_room 44 = .ok (.aload_n 0, 1) := by decide +kernel
theorem dX8_room_45 : decode cX8_room 45 = .ok (.iload_n 1, 1) := by decide +kernel
theorem dX8_room_46 : decode cX8_room 46 = .ok (.invokevirtual 138, 3) := by decide +kernel
theorem dX8_room_49 : decode cX8_room 49 = .ok (.goto 21, 3) := by decide +kernel
theorem dX8_room_52 : decode cX8_room 52 = .ok (.iload_n 2, 1) := by decide +kernel
theorem dX8_room_53 : decode cX8_room 53 = .ok (.iconst 2, 1) := by decide +kernel
theorem dX8_room_54 : decode cX8_room 54 = .ok (.if_icmp .ne 11, 3) := by decide +kernel
theorem dX8_room_57 : decode cX8_room 57 = .ok (.aload_n 0, 1) := by decide +kernel
theorem dX8_room_58 : decode cX8_room 58 = .ok (.iload_n 1, 1) := by decide +kernel
theorem dX8_room_59 : decode cX8_room 59 = .ok (.invokevirtual 141, 3) := by decide +kernel
theorem dX8_room_62 : decode cX8_room 62 = .ok (.goto 8, 3) := by decide +kernel
theorem dX8_room_65 : decode cX8_room 65 = .ok (.aload_n 0, 1) := by decide +kernel
theorem dX8_room_66 : decode cX8_room 66 = .ok (.iload_n 1, 1) := by decide +kernel
theorem dX8_room_67 : decode cX8_room 67 = .ok (.invokevirtual 144, 3) := by decide +kernel
theorem dX8_room_70 : decode cX8_room 70 = .ok (.ireturn, 1) := by decide +kernel
theorem dX8_like_0 : decode cX8_like 0 = .ok (.aload_n 0, 1) := by decide +kernel
theorem dX8_like_1 : decode cX8_like 1 = .ok (.iload_n 1, 1) := by decide +kernel
theorem dX8_like_2 : decode cX8_like 2 = .ok (.invokevirtual 99, 3) := by decide +kernel
theorem dX8_like_5 : decode cX8_like 5 = .ok (.ifCond .eq 19, 3) := by decide +kernel
theorem dX8_like_8 : decode cX8_like 8 = .ok (.iload_n 2, 1) := by decide +kernel
theorem dX8_like_9 : decode cX8_like 9 = .ok (.invokestatic 111, 3) := by decide +kernel
theorem dX8_like_12 : decode cX8_like 12 = .ok (.ifCond .eq 12, 3) := by decide +kernel
theorem dX8_like_15 : decode cX8_like 15 = .ok (.aload_n 0, 1) := by decide +kernel
theorem dX8_like_16 : decode cX8_like 16 = .ok (.iload_n 1, 1) := by decide +kernel
theorem dX8_like_17 : decode cX8_like 17 = .ok (.iload_n 2, 1) := by decide +kernel
theorem dX8_like_18 : decode cX8_like 18 = .ok (.invokevirtual 132, 3) := by decide +kernel
theorem dX8_like_21 : decode cX8_like 21 = .ok (.goto 9, 3) := by decide +kernel
theorem dX8_like_24 : decode cX8_like 24 = .ok (.aload_n 0, 1) := by decide +kernel
theorem dX8_like_25 : decode cX8_like 25 = .ok (.ldc 63, 2) := by decide +kernel
theorem dX8_like_27 : decode cX8_like 27 = .ok (.invokevirtual 80, 3) := by decide +kernel
theorem dX8_like_30 : decode cX8_like 30 = .ok (.ireturn, 1) := by decide +kernel
theorem dX8_carryOf_0 : decode cX8_carryOf 0 = .ok (.aload_n 0, 1) := by decide +kernel
theorem dX8_carryOf_1 : decode cX8_carryOf 1 = .ok (.iload_n 1, 1) := by decide +kernel
theorem dX8_carryOf_2 : decode cX8_carryOf 2 = .ok (.iconst 3, 1) := by decide +kernel
theorem dX8_carryOf_3 : decode cX8_carryOf 3 = .ok (.invokevirtual 92, 3) := by decide +kernel
theorem dX8_carryOf_6 : decode cX8_carryOf 6 = .ok (.istore_n 3, 1) := by decide +kernel
theorem dX8_carryOf_7 : decode cX8_carryOf 7 = .ok (.iload_n 3, 1) := by decide +kernel
theorem dX8_carryOf_8 : decode cX8_carryOf 8 = .ok (.ifCond .lt 7, 3) := by decide +kernel
theorem dX8_carryOf_11 : decode cX8_carryOf 11 = .ok (.iload_n 2, 1) := by decide +kernel
theorem dX8_carryOf_12 : decode cX8_carryOf 12 = .ok (.ifCond .ge 8, 3) := by decide +kernel
theorem dX8_carryOf_15 : decode cX8_carryOf 15 = .ok (.bipush 6, 2) := by decide +kernel
theorem dX8_carryOf_17 : decode cX8_carryOf 17 = .ok (.goto 9, 3) := by decide +kernel
theorem dX8_carryOf_20 : decode cX8_carryOf 20 = .ok (.iload_n 3, 1) := by decide +kernel
theorem dX8_carryOf_21 : decode cX8_carryOf 21 = .ok (.iload_n 2, 1) := by decide +kernel
theorem dX8_carryOf_22 : decode cX8_carryOf 22 = .ok (.isub, 1) := by decide +kernel
theorem dX8_carryOf_23 : decode cX8_carryOf 23 = .ok (.invokestatic 147, 3) := by decide +kernel
theorem dX8_carryOf_26 : decode cX8_carryOf 26 = .ok (.istore 4, 2) := by decide +kernel
theorem dX8_carryOf_28 : decode cX8_carryOf 28 = .ok (.aload_n 0, 1) := by decide +kernel
theorem dX8_carryOf_29 : decode cX8_carryOf 29 = .ok (.iload_n 1, 1) := by decide +kernel
theorem dX8_carryOf_30 : decode cX8_carryOf 30 = .ok (.iconst 0, 1) := by decide +kernel
theorem dX8_carryOf_31 : decode cX8_carryOf 31 = .ok (.invokevirtual 92, 3) := by decide +kernel
theorem dX8_carryOf_34 : decode cX8_carryOf 34 = .ok (.tableswitch 63 2 6 #[34, 39, 46, 61, 61], 34) := by decide +kernel
theorem dX8_carryOf_68 : decode cX8_carryOf 68 = .ok (.iload 4, 2) := by decide +kernel
theorem dX8_carryOf_70 : decode cX8_carryOf 70 = .ok (.iconst 3, 1) := by decide +kernel
theorem dX8_carryOf_71 : decode cX8_carryOf 71 = .ok (.iadd, 1) := by decide +kernel
theorem dX8_carryOf_72 : decode cX8_carryOf 72 = .ok (.ireturn, 1) := by decide +kernel
theorem dX8_carryOf_73 : decode cX8_carryOf 73 = .ok (.iconst 2, 1) := by decide +kernel
theorem dX8_carryOf_74 : decode cX8_carryOf 74 = .ok (.iload 4, 2) := by decide +kernel
theorem dX8_carryOf_76 : decode cX8_carryOf 76 = .ok (.iconst 3, 1) := by decide +kernel
theorem dX8_carryOf_77 : decode cX8_carryOf 77 = .ok (.iadd, 1) := by decide +kernel
theorem dX8_carryOf_78 : decode cX8_carryOf 78 = .ok (.imul, 1) := by decide +kernel
theorem dX8_carryOf_79 : decode cX8_carryOf 79 = .ok (.ireturn, 1) := by decide +kernel
theorem dX8_carryOf_80 : decode cX8_carryOf 80 = .ok (.iload 4, 2) := by decide +kernel
theorem dX8_carryOf_82 : decode cX8_carryOf 82 = .ok (.iconst 1, 1) := by decide +kernel
theorem dX8_carryOf_83 : decode cX8_carryOf 83 = .ok (.iadd, 1) := by decide +kernel
theorem dX8_carryOf_84 : decode cX8_carryOf 84 = .ok (.aload_n 0, 1) := by decide +kernel
theorem dX8_carryOf_85 : decode cX8_carryOf 85 = .ok (.iload_n 1, 1) := by decide +kernel
theorem dX8_carryOf_86 : decode cX8_carryOf 86 = .ok (.iconst 2, 1) := by decide +kernel
theorem dX8_carryOf_87 : decode cX8_carryOf 87 = .ok (.invokevirtual 92, 3) := by decide +kernel
theorem dX8_carryOf_90 : decode cX8_carryOf 90 = .ok (.bipush 10, 2) := by decide +kernel
theorem dX8_carryOf_92 : decode cX8_carryOf 92 = .ok (.idiv, 1) := by decide +kernel
theorem dX8_carryOf_93 : decode cX8_carryOf 93 = .ok (.iadd, 1) := by decide +kernel
theorem dX8_carryOf_94 : decode cX8_carryOf 94 = .ok (.ireturn, 1) := by decide +kernel
theorem dX8_carryOf_95 : decode cX8_carryOf 95 = .ok (.iconst 1, 1) := by decide +kernel
theorem dX8_carryOf_96 : decode cX8_carryOf 96 = .ok (.ireturn, 1) := by decide +kernel
theorem dX8_carryOf_97 : decode cX8_carryOf 97 = .ok (.iload 4, 2) := by decide +kernel
theorem dX8_carryOf_99 : decode cX8_carryOf 99 = .ok (.iconst 1, 1) := by decide +kernel
theorem dX8_carryOf_100 : decode cX8_carryOf 100 = .ok (.iadd, 1) := by decide +kernel
theorem dX8_carryOf_101 : decode cX8_carryOf 101 = .ok (.ireturn, 1) := by decide +kernel
theorem dX8_carries_0 : decode cX8_carries 0 = .ok (.aload_n 0, 1) := by decide +kernel
theorem dX8_carries_1 : decode cX8_carries 1 = .ok (.iload_n 1, 1) := by decide +kernel
theorem dX8_carries_2 : decode cX8_carries 2 = .ok (.invokevirtual 99, 3) := by decide +kernel
theorem dX8_carries_5 : decode cX8_carries 5 = .ok (.ifCond .eq 10, 3) := by decide +kernel
theorem dX8_carries_8 : decode cX8_carries 8 = .ok (.iload_n 2, 1) := by decide +kernel
theorem dX8_carries_9 : decode cX8_carries 9 = .ok (.invokestatic 105, 3) := by decide +kernel
theorem dX8_carries_12 : decode cX8_carries 12 = .ok (.ifCond .ne 10, 3) := by decide +kernel
theorem dX8_carries_15 : decode cX8_carries 15 = .ok (.aload_n 0, 1) := by decide +kernel
theorem dX8_carries_16 : decode cX8_carries 16 = .ok (.ldc 63, 2) := by decide +kernel
theorem dX8_carries_18 : decode cX8_carries 18 = .ok (.invokevirtual 80, 3) := by decide +kernel
theorem dX8_carries_21 : decode cX8_carries 21 = .ok (.ireturn, 1) := by decide +kernel
theorem dX8_carries_22 : decode cX8_carries 22 = .ok (.aload_n 0, 1) := by decide +kernel
theorem dX8_carries_23 : decode cX8_carries 23 = .ok (.iload_n 1, 1) := by decide +kernel
theorem dX8_carries_24 : decode cX8_carries 24 = .ok (.iconst 3, 1) := by decide +kernel
theorem dX8_carries_25 : decode cX8_carries 25 = .ok (.invokevirtual 92, 3) := by decide +kernel
theorem dX8_carries_28 : decode cX8_carries 28 = .ok (.iload_n 2, 1) := by decide +kernel
theorem dX8_carries_29 : decode cX8_carries 29 = .ok (.if_icmp .ne 12, 3) := by decide +kernel
theorem dX8_carries_32 : decode cX8_carries 32 = .ok (.aload_n 0, 1) := by decide +kernel
theorem dX8_carries_33 : decode cX8_carries 33 = .ok (.ldc 150, 2) := by decide +kernel
theorem dX8_carries_35 : decode cX8_carries 35 = .ok (.invokevirtual 80, 3) := by decide +kernel
theorem dX8_carries_38 : decode cX8_carries 38 = .ok (.goto 9, 3) := by decide +kernel
theorem dX8_carries_41 : decode cX8_carries 41 = .ok (.aload_n 0, 1) := by decide +kernel
theorem dX8_carries_42 : decode cX8_carries 42 = .ok (.iload_n 1, 1) := by decide +kernel
theorem dX8_carries_43 : decode cX8_carries 43 = .ok (.iload_n 2, 1) := by decide +kernel
theorem dX8_carries_44 : decode cX8_carries 44 = .ok (.invokevirtual 151, 3) := by decide +kernel
theorem dX8_carries_47 : decode cX8_carries 47 = .ok (.ireturn, 1) := by decide +kernel
theorem dX8_comesIn_0 : decode cX8_comesIn 0 = .ok (.aload_n 0, 1) := by decide +kernel
theorem dX8_comesIn_1 : decode cX8_comesIn 1 = .ok (.getfield 9, 3) := by decide +kernel
theorem dX8_comesIn_4 : decode cX8_comesIn 4 = .ok (.iconst 3, 1) := by decide +kernel
theorem dX8_comesIn_5 : decode cX8_comesIn 5 = .ok (.iaload, 1) := by decide +kernel
theorem dX8_comesIn_6 : decode cX8_comesIn 6 = .ok (.istore_n 1, 1) := by decide +kernel
theorem dX8_comesIn_7 : decode cX8_comesIn 7 = .ok (.aload_n 0, 1) := by decide +kernel
theorem dX8_comesIn_8 : decode cX8_comesIn 8 = .ok (.getfield 9, 3) := by decide +kernel
theorem dX8_comesIn_11 : decode cX8_comesIn 11 = .ok (.bipush 73, 2) := by decide +kernel
theorem dX8_comesIn_13 : decode cX8_comesIn 13 = .ok (.iload_n 1, 1) := by decide +kernel
theorem dX8_comesIn_14 : decode cX8_comesIn 14 = .ok (.iadd, 1) := by decide +kernel
theorem dX8_comesIn_15 : decode cX8_comesIn 15 = .ok (.aload_n 0, 1) := by decide +kernel
theorem dX8_comesIn_16 : decode cX8_comesIn 16 = .ok (.getfield 9, 3) := by decide +kernel
theorem dX8_comesIn_19 : decode cX8_comesIn 19 = .ok (.iconst 0, 1) := by decide +kernel
theorem dX8_comesIn_20 : decode cX8_comesIn 20 = .ok (.iaload, 1) := by decide +kernel
theorem dX8_comesIn_21 : decode cX8_comesIn 21 = .ok (.iastore, 1) := by decide +kernel
theorem dX8_comesIn_22 : decode cX8_comesIn 22 = .ok (.iconst 0, 1) := by decide +kernel
theorem dX8_comesIn_23 : decode cX8_comesIn 23 = .ok (.istore_n 2, 1) := by decide +kernel
theorem dX8_comesIn_24 : decode cX8_comesIn 24 = .ok (.iload_n 2, 1) := by decide +kernel
theorem dX8_comesIn_25 : decode cX8_comesIn 25 = .ok (.bipush 10, 2) := by decide +kernel
theorem dX8_comesIn_27 : decode cX8_comesIn 27 = .ok (.if_icmp .ge 24, 3) := by decide +kernel
theorem dX8_comesIn_30 : decode cX8_comesIn 30 = .ok (.aload_n 0, 1) := by decide +kernel
theorem dX8_comesIn_31 : decode cX8_comesIn 31 = .ok (.getfield 9, 3) := by decide +kernel
theorem dX8_comesIn_34 : decode cX8_comesIn 34 = .ok (.bipush 77, 2) := by decide +kernel
theorem dX8_comesIn_36 : decode cX8_comesIn 36 = .ok (.bipush 10, 2) := by decide +kernel
theorem dX8_comesIn_38 : decode cX8_comesIn 38 = .ok (.iload_n 1, 1) := by decide +kernel
theorem dX8_comesIn_39 : decode cX8_comesIn 39 = .ok (.imul, 1) := by decide +kernel
theorem dX8_comesIn_40 : decode cX8_comesIn 40 = .ok (.iadd, 1) := by decide +kernel
theorem dX8_comesIn_41 : decode cX8_comesIn 41 = .ok (.iload_n 2, 1) := by decide +kernel
theorem dX8_comesIn_42 : decode cX8_comesIn 42 = .ok (.iadd, 1) := by decide +kernel
theorem dX8_comesIn_43 : decode cX8_comesIn 43 = .ok (.iconst 0, 1) := by decide +kernel
theorem dX8_comesIn_44 : decode cX8_comesIn 44 = .ok (.iastore, 1) := by decide +kernel
theorem dX8_comesIn_45 : decode cX8_comesIn 45 = .ok (.iinc 2 1, 3) := by decide +kernel
theorem dX8_comesIn_48 : decode cX8_comesIn 48 = .ok (.goto (-24), 3) := by decide +kernel
theorem dX8_comesIn_51 : decode cX8_comesIn 51 = .ok (.aload_n 0, 1) := by decide +kernel
theorem dX8_comesIn_52 : decode cX8_comesIn 52 = .ok (.getfield 9, 3) := by decide +kernel
theorem dX8_comesIn_55 : decode cX8_comesIn 55 = .ok (.iconst 3, 1) := by decide +kernel
theorem dX8_comesIn_56 : decode cX8_comesIn 56 = .ok (.dup2, 1) := by decide +kernel
theorem dX8_comesIn_57 : decode cX8_comesIn 57 = .ok (.iaload, 1) := by decide +kernel
theorem dX8_comesIn_58 : decode cX8_comesIn 58 = .ok (.iconst 1, 1) := by decide +kernel
theorem dX8_comesIn_59 : decode cX8_comesIn 59 = .ok (.iadd, 1) := by decide +kernel
theorem dX8_comesIn_60 : decode cX8_comesIn 60 = .ok (.iastore, 1) := by decide +kernel
theorem dX8_comesIn_61 : decode cX8_comesIn 61 = .ok (.iload_n 1, 1) := by decide +kernel
theorem dX8_comesIn_62 : decode cX8_comesIn 62 = .ok (.ireturn, 1) := by decide +kernel
theorem dX8_visitor_0 : decode cX8_visitor 0 = .ok (.aload_n 0, 1) := by decide +kernel
theorem dX8_visitor_1 : decode cX8_visitor 1 = .ok (.getfield 9, 3) := by decide +kernel
theorem dX8_visitor_4 : decode cX8_visitor 4 = .ok (.iconst 3, 1) := by decide +kernel
theorem dX8_visitor_5 : decode cX8_visitor 5 = .ok (.iaload, 1) := by decide +kernel
theorem dX8_visitor_6 : decode cX8_visitor 6 = .ok (.iconst 4, 1) := by decide +kernel
theorem dX8_visitor_7 : decode cX8_visitor 7 = .ok (.if_icmp .ne 12, 3) := by decide +kernel
theorem dX8_visitor_10 : decode cX8_visitor 10 = .ok (.aload_n 0, 1) := by decide +kernel
theorem dX8_visitor_11 : decode cX8_visitor 11 = .ok (.ldc 84, 2) := by decide +kernel
theorem dX8_visitor_13 : decode cX8_visitor 13 = .ok (.invokevirtual 80, 3) := by decide +kernel
theorem dX8_visitor_16 : decode cX8_visitor 16 = .ok (.goto 7, 3) := by decide +kernel
theorem dX8_visitor_19 : decode cX8_visitor 19 = .ok (.aload_n 0, 1) := by decide +kernel
theorem dX8_visitor_20 : decode cX8_visitor 20 = .ok (.invokevirtual 154, 3) := by decide +kernel
theorem dX8_visitor_23 : decode cX8_visitor 23 = .ok (.ireturn, 1) := by decide +kernel
theorem dX8_seenIn_0 : decode cX8_seenIn 0 = .ok (.iconst 0, 1) := by decide +kernel
theorem dX8_seenIn_1 : decode cX8_seenIn 1 = .ok (.istore_n 3, 1) := by decide +kernel
theorem dX8_seenIn_2 : decode cX8_seenIn 2 = .ok (.iconst 0, 1) := by decide +kernel
theorem dX8_seenIn_3 : decode cX8_seenIn 3 = .ok (.istore 4, 2) := by decide +kernel
theorem dX8_seenIn_5 : decode cX8_seenIn 5 = .ok (.iload 4, 2) := by decide +kernel
theorem dX8_seenIn_7 : decode cX8_seenIn 7 = .ok (.bipush 10, 2) := by decide +kernel
theorem dX8_seenIn_9 : decode cX8_seenIn 9 = .ok (.if_icmp .ge 42, 3) := by decide +kernel
theorem dX8_seenIn_12 : decode cX8_seenIn 12 = .ok (.iload_n 3, 1) := by decide +kernel
theorem dX8_seenIn_13 : decode cX8_seenIn 13 = .ok (.aload_n 0, 1) := by decide +kernel
theorem dX8_seenIn_14 : decode cX8_seenIn 14 = .ok (.getfield 9, 3) := by decide +kernel
theorem dX8_seenIn_17 : decode cX8_seenIn 17 = .ok (.bipush 77, 2) := by decide +kernel
theorem dX8_seenIn_19 : decode cX8_seenIn 19 = .ok (.bipush 10, 2) := by decide +kernel
theorem dX8_seenIn_21 : decode cX8_seenIn 21 = .ok (.iload_n 1, 1) := by decide +kernel
theorem dX8_seenIn_22 : decode cX8_seenIn 22 = .ok (.imul, 1) := by decide +kernel
theorem dX8_seenIn_23 : decode cX8_seenIn 23 = .ok (.iadd, 1) := by decide +kernel
theorem dX8_seenIn_24 : decode cX8_seenIn 24 = .ok (.iload 4, 2) := by decide +kernel
theorem dX8_seenIn_26 : decode cX8_seenIn 26 = .ok (.iadd, 1) := by decide +kernel
theorem dX8_seenIn_27 : decode cX8_seenIn 27 = .ok (.iaload, 1) := by decide +kernel
theorem dX8_seenIn_28 : decode cX8_seenIn 28 = .ok (.invokestatic 117, 3) := by decide +kernel
theorem dX8_seenIn_31 : decode cX8_seenIn 31 = .ok (.iload_n 2, 1) := by decide +kernel
theorem dX8_seenIn_32 : decode cX8_seenIn 32 = .ok (.if_icmp .lt 10, 3) := by decide +kernel
theorem dX8_seenIn_35 : decode cX8_seenIn 35 = .ok (.iconst 1, 1) := by decide +kernel
theorem dX8_seenIn_36 : decode cX8_seenIn 36 = .ok (.iload 4, 2) := by decide +kernel
theorem dX8_seenIn_38 : decode cX8_seenIn 38 = .ok (.ishl, 1) := by decide +kernel
theorem dX8_seenIn_39 : decode cX8_seenIn 39 = .ok (.goto 4, 3) := by decide +kernel
theorem dX8_seenIn_42 : decode cX8_seenIn 42 = .ok (.iconst 0, 1) := by decide +kernel
theorem dX8_seenIn_43 : decode cX8_seenIn 43 = .ok (.ior, 1) := by decide +kernel
theorem dX8_seenIn_44 : decode cX8_seenIn 44 = .ok (.istore_n 3, 1) := by decide +kernel
theorem dX8_seenIn_45 : decode cX8_seenIn 45 = .ok (.iinc 4 1, 3) := by decide +kernel
theorem dX8_seenIn_48 : decode cX8_seenIn 48 = .ok (.goto (-43), 3) := by decide +kernel
theorem dX8_seenIn_51 : decode cX8_seenIn 51 = .ok (.iload_n 3, 1) := by decide +kernel
theorem dX8_seenIn_52 : decode cX8_seenIn 52 = .ok (.ireturn, 1) := by decide +kernel
theorem dX8_seen_0 : decode cX8_seen 0 = .ok (.iload_n 1, 1) := by decide +kernel
theorem dX8_seen_1 : decode cX8_seen 1 = .ok (.iconst 0, 1) := by decide +kernel
theorem dX8_seen_2 : decode cX8_seen 2 = .ok (.aload_n 0, 1) := by decide +kernel
theorem dX8_seen_3 : decode cX8_seen 3 = .ok (.getfield 9, 3) := by decide +kernel
theorem dX8_seen_6 : decode cX8_seen 6 = .ok (.iconst 3, 1) := by decide +kernel
theorem dX8_seen_7 : decode cX8_seen 7 = .ok (.iaload, 1) := by decide +kernel
theorem dX8_seen_8 : decode cX8_seen 8 = .ok (.iconst 1, 1) := by decide +kernel
theorem dX8_seen_9 : decode cX8_seen 9 = .ok (.isub, 1) := by decide +kernel
theorem dX8_seen_10 : decode cX8_seen 10 = .ok (.invokestatic 68, 3) := by decide +kernel
theorem dX8_seen_13 : decode cX8_seen 13 = .ok (.ifCond .eq 12, 3) := by decide +kernel
theorem dX8_seen_16 : decode cX8_seen 16 = .ok (.iload_n 2, 1) := by decide +kernel
theorem dX8_seen_17 : decode cX8_seen 17 = .ok (.iconst 0, 1) := by decide +kernel
theorem dX8_seen_18 : decode cX8_seen 18 = .ok (.iconst 2, 1) := by decide +kernel
theorem dX8_seen_19 : decode cX8_seen 19 = .ok (.invokestatic 68, 3) := by decide +kernel
theorem dX8_seen_22 : decode cX8_seen 22 = .ok (.ifCond .ne 10, 3) := by decide +kernel
theorem dX8_seen_25 : decode cX8_seen 25 = .ok (.aload_n 0, 1) := by decide +kernel
theorem dX8_seen_26 : decode cX8_seen 26 = .ok (.ldc 63, 2) := by decide +kernel
theorem dX8_seen_28 : decode cX8_seen 28 = .ok (.invokevirtual 80, 3) := by decide +kernel
theorem dX8_seen_31 : decode cX8_seen 31 = .ok (.ireturn, 1) := by decide +kernel
theorem dX8_seen_32 : decode cX8_seen 32 = .ok (.iload_n 2, 1) := by decide +kernel
theorem dX8_seen_33 : decode cX8_seen 33 = .ok (.ifCond .ne 11, 3) := by decide +kernel
theorem dX8_seen_36 : decode cX8_seen 36 = .ok (.aload_n 0, 1) := by decide +kernel
theorem dX8_seen_37 : decode cX8_seen 37 = .ok (.iload_n 1, 1) := by decide +kernel
theorem dX8_seen_38 : decode cX8_seen 38 = .ok (.invokevirtual 135, 3) := by decide +kernel
theorem dX8_seen_41 : decode cX8_seen 41 = .ok (.goto 9, 3) := by decide +kernel
theorem dX8_seen_44 : decode cX8_seen 44 = .ok (.aload_n 0, 1) := by decide +kernel
theorem dX8_seen_45 : decode cX8_seen 45 = .ok (.iload_n 1, 1) := by decide +kernel
theorem dX8_seen_46 : decode cX8_seen 46 = .ok (.iload_n 2, 1) := by decide +kernel
theorem dX8_seen_47 : decode cX8_seen 47 = .ok (.invokevirtual 158, 3) := by decide +kernel
theorem dX8_seen_50 : decode cX8_seen 50 = .ok (.ireturn, 1) := by decide +kernel
theorem dX8_minute_0 : decode cX8_minute 0 = .ok (.iconst 0, 1) := by decide +kernel
theorem dX8_minute_1 : decode cX8_minute 1 = .ok (.istore_n 1, 1) := by decide +kernel
theorem dX8_minute_2 : decode cX8_minute 2 = .ok (.iload_n 1, 1) := by decide +kernel
theorem dX8_minute_3 : decode cX8_minute 3 = .ok (.aload_n 0, 1) := by decide +kernel
theorem dX8_minute_4 : decode cX8_minute 4 = .ok (.getfield 9, 3) := by decide +kernel
theorem dX8_minute_7 : decode cX8_minute 7 = .ok (.iconst 3, 1) := by decide +kernel
theorem dX8_minute_8 : decode cX8_minute 8 = .ok (.iaload, 1) := by decide +kernel
theorem dX8_minute_9 : decode cX8_minute 9 = .ok (.if_icmp .ge 71, 3) := by decide +kernel
theorem dX8_minute_12 : decode cX8_minute 12 = .ok (.aload_n 0, 1) := by decide +kernel
theorem dX8_minute_13 : decode cX8_minute 13 = .ok (.iload_n 1, 1) := by decide +kernel
theorem dX8_minute_14 : decode cX8_minute 14 = .ok (.invokevirtual 135, 3) := by decide +kernel
theorem dX8_minute_17 : decode cX8_minute 17 = .ok (.istore_n 2, 1) := by decide +kernel
theorem dX8_minute_18 : decode cX8_minute 18 = .ok (.iconst 0, 1) := by decide +kernel
theorem dX8_minute_19 : decode cX8_minute 19 = .ok (.istore_n 3, 1) := by decide +kernel
theorem dX8_minute_20 : decode cX8_minute 20 = .ok (.iload_n 3, 1) := by decide +kernel
theorem dX8_minute_21 : decode cX8_minute 21 = .ok (.aload_n 0, 1) := by decide +kernel
theorem dX8_minute_22 : decode cX8_minute 22 = .ok (.getfield 9, 3) := by decide +kernel
theorem dX8_minute_25 : decode cX8_minute 25 = .ok (.iconst 2, 1) := by decide +kernel
theorem dX8_minute_26 : decode cX8_minute 26 = .ok (.iaload, 1) := by decide +kernel
theorem dX8_minute_27 : decode cX8_minute 27 = .ok (.if_icmp .ge 47, 3) := by decide +kernel
theorem dX8_minute_30 : decode cX8_minute 30 = .ok (.aload_n 0, 1) := by decide +kernel
theorem dX8_minute_31 : decode cX8_minute 31 = .ok (.getfield 9, 3) := by decide +kernel
theorem dX8_minute_34 : decode cX8_minute 34 = .ok (.bipush 77, 2) := by decide +kernel
theorem dX8_minute_36 : decode cX8_minute 36 = .ok (.bipush 10, 2) := by decide +kernel
theorem dX8_minute_38 : decode cX8_minute 38 = .ok (.iload_n 1, 1) := by decide +kernel
theorem dX8_minute_39 : decode cX8_minute 39 = .ok (.imul, 1) := by decide +kernel
theorem dX8_minute_40 : decode cX8_minute 40 = .ok (.iadd, 1) := by decide +kernel
theorem dX8_minute_41 : decode cX8_minute 41 = .ok (.iload_n 3, 1) := by decide +kernel
theorem dX8_minute_42 : decode cX8_minute 42 = .ok (.iadd, 1) := by decide +kernel
theorem dX8_minute_43 : decode cX8_minute 43 = .ok (.dup2, 1) := by decide +kernel
theorem dX8_minute_44 : decode cX8_minute 44 = .ok (.iaload, 1) := by decide +kernel
theorem dX8_minute_45 : decode cX8_minute 45 = .ok (.iload_n 2, 1) := by decide +kernel
theorem dX8_minute_46 : decode cX8_minute 46 = .ok (.ifCond .lt 19, 3) := by decide +kernel
theorem dX8_minute_49 : decode cX8_minute 49 = .ok (.aload_n 0, 1) := by decide +kernel
theorem dX8_minute_50 : decode cX8_minute 50 = .ok (.iload_n 3, 1) := by decide +kernel
theorem dX8_minute_51 : decode cX8_minute 51 = .ok (.iconst 3, 1) := by decide +kernel
theorem dX8_minute_52 : decode cX8_minute 52 = .ok (.invokevirtual 92, 3) := by decide +kernel
theorem dX8_minute_55 : decode cX8_minute 55 = .ok (.iload_n 2, 1) := by decide +kernel
theorem dX8_minute_56 : decode cX8_minute 56 = .ok (.if_icmp .ne 9, 3) := by decide +kernel
theorem dX8_minute_59 : decode cX8_minute 59 = .ok (.iconst 1, 1) := by decide +kernel
theorem dX8_minute_60 : decode cX8_minute 60 = .ok (.iload_n 2, 1) := by decide +kernel
theorem dX8_minute_61 : decode cX8_minute 61 = .ok (.ishl, 1) := by decide +kernel
theorem dX8_minute_62 : decode cX8_minute 62 = .ok (.goto 4, 3) := by decide +kernel
theorem dX8_minute_65 : decode cX8_minute 65 = .ok (.iconst 0, 1) := by decide +kernel
theorem dX8_minute_66 : decode cX8_minute 66 = .ok (.ior, 1) := by decide +kernel
theorem dX8_minute_67 : decode cX8_minute 67 = .ok (.iastore, 1) := by decide +kernel
theorem dX8_minute_68 : decode cX8_minute 68 = .ok (.iinc 3 1, 3) := by decide +kernel
theorem dX8_minute_71 : decode cX8_minute 71 = .ok (.goto (-51), 3) := by decide +kernel
theorem dX8_minute_74 : decode cX8_minute 74 = .ok (.iinc 1 1, 3) := by decide +kernel
theorem dX8_minute_77 : decode cX8_minute 77 = .ok (.goto (-75), 3) := by decide +kernel
theorem dX8_minute_80 : decode cX8_minute 80 = .ok (.aload_n 0, 1) := by decide +kernel
theorem dX8_minute_81 : decode cX8_minute 81 = .ok (.getfield 9, 3) := by decide +kernel
theorem dX8_minute_84 : decode cX8_minute 84 = .ok (.iconst 0, 1) := by decide +kernel
theorem dX8_minute_85 : decode cX8_minute 85 = .ok (.dup2, 1) := by decide +kernel
theorem dX8_minute_86 : decode cX8_minute 86 = .ok (.iaload, 1) := by decide +kernel
theorem dX8_minute_87 : decode cX8_minute 87 = .ok (.iconst 1, 1) := by decide +kernel
theorem dX8_minute_88 : decode cX8_minute 88 = .ok (.iadd, 1) := by decide +kernel
theorem dX8_minute_89 : decode cX8_minute 89 = .ok (.iastore, 1) := by decide +kernel
theorem dX8_minute_90 : decode cX8_minute 90 = .ok (.return_, 1) := by decide +kernel
theorem dX8_minutes_0 : decode cX8_minutes 0 = .ok (.iconst 0, 1) := by decide +kernel
theorem dX8_minutes_1 : decode cX8_minutes 1 = .ok (.istore_n 2, 1) := by decide +kernel
theorem dX8_minutes_2 : decode cX8_minutes 2 = .ok (.iload_n 2, 1) := by decide +kernel
theorem dX8_minutes_3 : decode cX8_minutes 3 = .ok (.iload_n 1, 1) := by decide +kernel
theorem dX8_minutes_4 : decode cX8_minutes 4 = .ok (.if_icmp .ge 13, 3) := by decide +kernel
theorem dX8_minutes_7 : decode cX8_minutes 7 = .ok (.aload_n 0, 1) := by decide +kernel
theorem dX8_minutes_8 : decode cX8_minutes 8 = .ok (.invokevirtual 161, 3) := by decide +kernel
theorem dX8_minutes_11 : decode cX8_minutes 11 = .ok (.iinc 2 1, 3) := by decide +kernel
theorem dX8_minutes_14 : decode cX8_minutes 14 = .ok (.goto (-12), 3) := by decide +kernel
theorem dX8_minutes_17 : decode cX8_minutes 17 = .ok (.return_, 1) := by decide +kernel
theorem dX8_moves_0 : decode cX8_moves 0 = .ok (.iconst 1, 1) := by decide +kernel
theorem dX8_moves_1 : decode cX8_moves 1 = .ok (.aload_n 0, 1) := by decide +kernel
theorem dX8_moves_2 : decode cX8_moves 2 = .ok (.iload_n 1, 1) := by decide +kernel
theorem dX8_moves_3 : decode cX8_moves 3 = .ok (.iload_n 2, 1) := by decide +kernel
theorem dX8_moves_4 : decode cX8_moves 4 = .ok (.invokevirtual 151, 3) := by decide +kernel
theorem dX8_moves_7 : decode cX8_moves 7 = .ok (.invokestatic 123, 3) := by decide +kernel
theorem dX8_moves_10 : decode cX8_moves 10 = .ok (.istore_n 3, 1) := by decide +kernel
theorem dX8_moves_11 : decode cX8_moves 11 = .ok (.aload_n 0, 1) := by decide +kernel
theorem dX8_moves_12 : decode cX8_moves 12 = .ok (.getfield 9, 3) := by decide +kernel
theorem dX8_moves_15 : decode cX8_moves 15 = .ok (.iload_n 1, 1) := by decide +kernel
theorem dX8_moves_16 : decode cX8_moves 16 = .ok (.iconst 3, 1) := by decide +kernel
theorem dX8_moves_17 : decode cX8_moves 17 = .ok (.invokestatic 72, 3) := by decide +kernel
theorem dX8_moves_20 : decode cX8_moves 20 = .ok (.bipush (-2), 2) := by decide +kernel
theorem dX8_moves_22 : decode cX8_moves 22 = .ok (.iastore, 1) := by decide +kernel
theorem dX8_moves_23 : decode cX8_moves 23 = .ok (.aload_n 0, 1) := by decide +kernel
theorem dX8_moves_24 : decode cX8_moves 24 = .ok (.iload_n 3, 1) := by decide +kernel
theorem dX8_moves_25 : decode cX8_moves 25 = .ok (.invokevirtual 164, 3) := by decide +kernel
theorem dX8_moves_28 : decode cX8_moves 28 = .ok (.aload_n 0, 1) := by decide +kernel
theorem dX8_moves_29 : decode cX8_moves 29 = .ok (.getfield 9, 3) := by decide +kernel
theorem dX8_moves_32 : decode cX8_moves 32 = .ok (.iload_n 1, 1) := by decide +kernel
theorem dX8_moves_33 : decode cX8_moves 33 = .ok (.iconst 3, 1) := by decide +kernel
theorem dX8_moves_34 : decode cX8_moves 34 = .ok (.invokestatic 72, 3) := by decide +kernel
theorem dX8_moves_37 : decode cX8_moves 37 = .ok (.iload_n 2, 1) := by decide +kernel
theorem dX8_moves_38 : decode cX8_moves 38 = .ok (.iastore, 1) := by decide +kernel
theorem dX8_moves_39 : decode cX8_moves 39 = .ok (.return_, 1) := by decide +kernel
theorem dX8_move_0 : decode cX8_move 0 = .ok (.aload_n 0, 1) := by decide +kernel
theorem dX8_move_1 : decode cX8_move 1 = .ok (.iload_n 1, 1) := by decide +kernel
theorem dX8_move_2 : decode cX8_move 2 = .ok (.invokevirtual 99, 3) := by decide +kernel
theorem dX8_move_5 : decode cX8_move 5 = .ok (.ifCond .eq 10, 3) := by decide +kernel
theorem dX8_move_8 : decode cX8_move 8 = .ok (.iload_n 2, 1) := by decide +kernel
theorem dX8_move_9 : decode cX8_move 9 = .ok (.invokestatic 105, 3) := by decide +kernel
theorem dX8_move_12 : decode cX8_move 12 = .ok (.ifCond .ne 10, 3) := by decide +kernel
theorem dX8_move_15 : decode cX8_move 15 = .ok (.aload_n 0, 1) := by decide +kernel
theorem dX8_move_16 : decode cX8_move 16 = .ok (.ldc 63, 2) := by decide +kernel
theorem dX8_move_18 : decode cX8_move 18 = .ok (.invokevirtual 80, 3) := by decide +kernel
theorem dX8_move_21 : decode cX8_move 21 = .ok (.ireturn, 1) := by decide +kernel
theorem dX8_move_22 : decode cX8_move 22 = .ok (.aload_n 0, 1) := by decide +kernel
theorem dX8_move_23 : decode cX8_move 23 = .ok (.iload_n 1, 1) := by decide +kernel
theorem dX8_move_24 : decode cX8_move 24 = .ok (.iconst 3, 1) := by decide +kernel
theorem dX8_move_25 : decode cX8_move 25 = .ok (.invokevirtual 92, 3) := by decide +kernel
theorem dX8_move_28 : decode cX8_move 28 = .ok (.iload_n 2, 1) := by decide +kernel
theorem dX8_move_29 : decode cX8_move 29 = .ok (.if_icmp .eq 22, 3) := by decide +kernel
theorem dX8_move_32 : decode cX8_move 32 = .ok (.aload_n 0, 1) := by decide +kernel
theorem dX8_move_33 : decode cX8_move 33 = .ok (.getfield 9, 3) := by decide +kernel
theorem dX8_move_36 : decode cX8_move 36 = .ok (.iconst 0, 1) := by decide +kernel
theorem dX8_move_37 : decode cX8_move 37 = .ok (.iaload, 1) := by decide +kernel
theorem dX8_move_38 : decode cX8_move 38 = .ok (.aload_n 0, 1) := by decide +kernel
theorem dX8_move_39 : decode cX8_move 39 = .ok (.iload_n 1, 1) := by decide +kernel
theorem dX8_move_40 : decode cX8_move 40 = .ok (.iload_n 2, 1) := by decide +kernel
theorem dX8_move_41 : decode cX8_move 41 = .ok (.invokevirtual 151, 3) := by decide +kernel
theorem dX8_move_44 : decode cX8_move 44 = .ok (.iadd, 1) := by decide +kernel
theorem dX8_move_45 : decode cX8_move 45 = .ok (.sipush 9999, 3) := by decide +kernel
theorem dX8_move_48 : decode cX8_move 48 = .ok (.if_icmp .le 10, 3) := by decide +kernel
theorem dX8_move_51 : decode cX8_move 51 = .ok (.aload_n 0, 1) := by decide +kernel
theorem dX8_move_52 : decode cX8_move 52 = .ok (.ldc 150, 2) := by decide +kernel
theorem dX8_move_54 : decode cX8_move 54 = .ok (.invokevirtual 80, 3) := by decide +kernel
theorem dX8_move_57 : decode cX8_move 57 = .ok (.ireturn, 1) := by decide +kernel
theorem dX8_move_58 : decode cX8_move 58 = .ok (.aload_n 0, 1) := by decide +kernel
theorem dX8_move_59 : decode cX8_move 59 = .ok (.iload_n 1, 1) := by decide +kernel
theorem dX8_move_60 : decode cX8_move 60 = .ok (.iload_n 2, 1) := by decide +kernel
theorem dX8_move_61 : decode cX8_move 61 = .ok (.invokevirtual 168, 3) := by decide +kernel
theorem dX8_move_64 : decode cX8_move 64 = .ok (.aload_n 0, 1) := by decide +kernel
theorem dX8_move_65 : decode cX8_move 65 = .ok (.getfield 9, 3) := by decide +kernel
theorem dX8_move_68 : decode cX8_move 68 = .ok (.iconst 0, 1) := by decide +kernel
theorem dX8_move_69 : decode cX8_move 69 = .ok (.iaload, 1) := by decide +kernel
theorem dX8_move_70 : decode cX8_move 70 = .ok (.ireturn, 1) := by decide +kernel
theorem dX8_seenTwice_0 : decode cX8_seenTwice 0 = .ok (.iconst 0, 1) := by decide +kernel
theorem dX8_seenTwice_1 : decode cX8_seenTwice 1 = .ok (.istore_n 1, 1) := by decide +kernel
theorem dX8_seenTwice_2 : decode cX8_seenTwice 2 = .ok (.iconst 0, 1) := by decide +kernel
theorem dX8_seenTwice_3 : decode cX8_seenTwice 3 = .ok (.istore_n 2, 1) := by decide +kernel
theorem dX8_seenTwice_4 : decode cX8_seenTwice 4 = .ok (.iload_n 2, 1) := by decide +kernel
theorem dX8_seenTwice_5 : decode cX8_seenTwice 5 = .ok (.aload_n 0, 1) := by decide +kernel
theorem dX8_seenTwice_6 : decode cX8_seenTwice 6 = .ok (.getfield 9, 3) := by decide +kernel
theorem dX8_seenTwice_9 : decode cX8_seenTwice 9 = .ok (.iconst 3, 1) := by decide +kernel
theorem dX8_seenTwice_10 : decode cX8_seenTwice 10 = .ok (.iaload, 1) := by decide +kernel
theorem dX8_seenTwice_11 : decode cX8_seenTwice 11 = .ok (.if_icmp .ge 18, 3) := by decide +kernel
theorem dX8_seenTwice_14 : decode cX8_seenTwice 14 = .ok (.iload_n 1, 1) := by decide +kernel
theorem dX8_seenTwice_15 : decode cX8_seenTwice 15 = .ok (.aload_n 0, 1) := by decide +kernel
theorem dX8_seenTwice_16 : decode cX8_seenTwice 16 = .ok (.iload_n 2, 1) := by decide +kernel
theorem dX8_seenTwice_17 : decode cX8_seenTwice 17 = .ok (.iconst 2, 1) := by decide +kernel
theorem dX8_seenTwice_18 : decode cX8_seenTwice 18 = .ok (.invokevirtual 158, 3) := by decide +kernel
theorem dX8_seenTwice_21 : decode cX8_seenTwice 21 = .ok (.ior, 1) := by decide +kernel
theorem dX8_seenTwice_22 : decode cX8_seenTwice 22 = .ok (.istore_n 1, 1) := by decide +kernel
theorem dX8_seenTwice_23 : decode cX8_seenTwice 23 = .ok (.iinc 2 1, 3) := by decide +kernel
theorem dX8_seenTwice_26 : decode cX8_seenTwice 26 = .ok (.goto (-22), 3) := by decide +kernel
theorem dX8_seenTwice_29 : decode cX8_seenTwice 29 = .ok (.iload_n 1, 1) := by decide +kernel
theorem dX8_seenTwice_30 : decode cX8_seenTwice 30 = .ok (.ireturn, 1) := by decide +kernel
theorem dX8_waits_0 : decode cX8_waits 0 = .ok (.iload_n 1, 1) := by decide +kernel
theorem dX8_waits_1 : decode cX8_waits 1 = .ok (.iconst 1, 1) := by decide +kernel
theorem dX8_waits_2 : decode cX8_waits 2 = .ok (.bipush 60, 2) := by decide +kernel
theorem dX8_waits_4 : decode cX8_waits 4 = .ok (.invokestatic 68, 3) := by decide +kernel
theorem dX8_waits_7 : decode cX8_waits 7 = .ok (.ifCond .ne 10, 3) := by decide +kernel
theorem dX8_waits_10 : decode cX8_waits 10 = .ok (.aload_n 0, 1) := by decide +kernel
theorem dX8_waits_11 : decode cX8_waits 11 = .ok (.ldc 63, 2) := by decide +kernel
theorem dX8_waits_13 : decode cX8_waits 13 = .ok (.invokevirtual 80, 3) := by decide +kernel
theorem dX8_waits_16 : decode cX8_waits 16 = .ok (.ireturn, 1) := by decide +kernel
theorem dX8_waits_17 : decode cX8_waits 17 = .ok (.aload_n 0, 1) := by decide +kernel
theorem dX8_waits_18 : decode cX8_waits 18 = .ok (.getfield 9, 3) := by decide +kernel
theorem dX8_waits_21 : decode cX8_waits 21 = .ok (.iconst 0, 1) := by decide +kernel
theorem dX8_waits_22 : decode cX8_waits 22 = .ok (.iaload, 1) := by decide +kernel
theorem dX8_waits_23 : decode cX8_waits 23 = .ok (.iload_n 1, 1) := by decide +kernel
theorem dX8_waits_24 : decode cX8_waits 24 = .ok (.iadd, 1) := by decide +kernel
theorem dX8_waits_25 : decode cX8_waits 25 = .ok (.sipush 9999, 3) := by decide +kernel
theorem dX8_waits_28 : decode cX8_waits 28 = .ok (.if_icmp .le 10, 3) := by decide +kernel
theorem dX8_waits_31 : decode cX8_waits 31 = .ok (.aload_n 0, 1) := by decide +kernel
theorem dX8_waits_32 : decode cX8_waits 32 = .ok (.ldc 150, 2) := by decide +kernel
theorem dX8_waits_34 : decode cX8_waits 34 = .ok (.invokevirtual 80, 3) := by decide +kernel
theorem dX8_waits_37 : decode cX8_waits 37 = .ok (.ireturn, 1) := by decide +kernel
theorem dX8_waits_38 : decode cX8_waits 38 = .ok (.aload_n 0, 1) := by decide +kernel
theorem dX8_waits_39 : decode cX8_waits 39 = .ok (.iload_n 1, 1) := by decide +kernel
theorem dX8_waits_40 : decode cX8_waits 40 = .ok (.invokevirtual 164, 3) := by decide +kernel
theorem dX8_waits_43 : decode cX8_waits 43 = .ok (.aload_n 0, 1) := by decide +kernel
theorem dX8_waits_44 : decode cX8_waits 44 = .ok (.invokevirtual 172, 3) := by decide +kernel
theorem dX8_waits_47 : decode cX8_waits 47 = .ok (.invokestatic 117, 3) := by decide +kernel
theorem dX8_waits_50 : decode cX8_waits 50 = .ok (.ireturn, 1) := by decide +kernel
theorem dX8_allThere_0 : decode cX8_allThere 0 = .ok (.iconst 0, 1) := by decide +kernel
theorem dX8_allThere_1 : decode cX8_allThere 1 = .ok (.istore_n 1, 1) := by decide +kernel
theorem dX8_allThere_2 : decode cX8_allThere 2 = .ok (.iconst 0, 1) := by decide +kernel
theorem dX8_allThere_3 : decode cX8_allThere 3 = .ok (.istore_n 2, 1) := by decide +kernel
theorem dX8_allThere_4 : decode cX8_allThere 4 = .ok (.iload_n 2, 1) := by decide +kernel
theorem dX8_allThere_5 : decode cX8_allThere 5 = .ok (.aload_n 0, 1) := by decide +kernel
theorem dX8_allThere_6 : decode cX8_allThere 6 = .ok (.getfield 9, 3) := by decide +kernel
theorem dX8_allThere_9 : decode cX8_allThere 9 = .ok (.iconst 3, 1) := by decide +kernel
theorem dX8_allThere_10 : decode cX8_allThere 10 = .ok (.iaload, 1) := by decide +kernel
theorem dX8_allThere_11 : decode cX8_allThere 11 = .ok (.if_icmp .ge 27, 3) := by decide +kernel
theorem dX8_allThere_14 : decode cX8_allThere 14 = .ok (.iload_n 1, 1) := by decide +kernel
theorem dX8_allThere_15 : decode cX8_allThere 15 = .ok (.aload_n 0, 1) := by decide +kernel
theorem dX8_allThere_16 : decode cX8_allThere 16 = .ok (.iload_n 2, 1) := by decide +kernel
theorem dX8_allThere_17 : decode cX8_allThere 17 = .ok (.invokevirtual 135, 3) := by decide +kernel
theorem dX8_allThere_20 : decode cX8_allThere 20 = .ok (.ifCond .lt 9, 3) := by decide +kernel
theorem dX8_allThere_23 : decode cX8_allThere 23 = .ok (.iconst 1, 1) := by decide +kernel
theorem dX8_allThere_24 : decode cX8_allThere 24 = .ok (.iload_n 2, 1) := by decide +kernel
theorem dX8_allThere_25 : decode cX8_allThere 25 = .ok (.ishl, 1) := by decide +kernel
theorem dX8_allThere_26 : decode cX8_allThere 26 = .ok (.goto 4, 3) := by decide +kernel
theorem dX8_allThere_29 : decode cX8_allThere 29 = .ok (.iconst 0, 1) := by decide +kernel
theorem dX8_allThere_30 : decode cX8_allThere 30 = .ok (.ior, 1) := by decide +kernel
theorem dX8_allThere_31 : decode cX8_allThere 31 = .ok (.istore_n 1, 1) := by decide +kernel
theorem dX8_allThere_32 : decode cX8_allThere 32 = .ok (.iinc 2 1, 3) := by decide +kernel
theorem dX8_allThere_35 : decode cX8_allThere 35 = .ok (.goto (-31), 3) := by decide +kernel
theorem dX8_allThere_38 : decode cX8_allThere 38 = .ok (.iload_n 1, 1) := by decide +kernel
theorem dX8_allThere_39 : decode cX8_allThere 39 = .ok (.ireturn, 1) := by decide +kernel
theorem dX8_now_0 : decode cX8_now 0 = .ok (.iconst 0, 1) := by decide +kernel
theorem dX8_now_1 : decode cX8_now 1 = .ok (.istore_n 2, 1) := by decide +kernel
theorem dX8_now_2 : decode cX8_now 2 = .ok (.iload_n 1, 1) := by decide +kernel
theorem dX8_now_3 : decode cX8_now 3 = .ok (.tableswitch 91 0 5 #[37, 44, 51, 75, 80, 86], 37) := by decide +kernel
theorem dX8_now_40 : decode cX8_now 40 = .ok (.aload_n 0, 1) := by decide +kernel
theorem dX8_now_41 : decode cX8_now 41 = .ok (.getfield 9, 3) := by decide +kernel
theorem dX8_now_44 : decode cX8_now 44 = .ok (.iconst 0, 1) := by decide +kernel
theorem dX8_now_45 : decode cX8_now 45 = .ok (.iaload, 1) := by decide +kernel
theorem dX8_now_46 : decode cX8_now 46 = .ok (.ireturn, 1) := by decide +kernel
theorem dX8_now_47 : decode cX8_now 47 = .ok (.aload_n 0, 1) := by decide +kernel
theorem dX8_now_48 : decode cX8_now 48 = .ok (.getfield 9, 3) := by decide +kernel
theorem dX8_now_51 : decode cX8_now 51 = .ok (.iconst 1, 1) := by decide +kernel
theorem dX8_now_52 : decode cX8_now 52 = .ok (.iaload, 1) := by decide +kernel
theorem dX8_now_53 : decode cX8_now 53 = .ok (.ireturn, 1) := by decide +kernel
theorem dX8_now_54 : decode cX8_now 54 = .ok (.iconst 0, 1) := by decide +kernel
theorem dX8_now_55 : decode cX8_now 55 = .ok (.istore_n 3, 1) := by decide +kernel
theorem dX8_now_56 : decode cX8_now 56 = .ok (.iload_n 3, 1) := by decide +kernel
theorem dX8_now_57 : decode cX8_now 57 = .ok (.bipush 6, 2) := by decide +kernel
theorem dX8_now_59 : decode cX8_now 59 = .ok (.if_icmp .ge 17, 3) := by decide +kernel
theorem dX8_now_62 : decode cX8_now 62 = .ok (.iload_n 2, 1) := by decide +kernel
theorem dX8_now_63 : decode cX8_now 63 = .ok (.aload_n 0, 1) := by decide +kernel
theorem dX8_now_64 : decode cX8_now 64 = .ok (.iload_n 3, 1) := by decide +kernel
theorem dX8_now_65 : decode cX8_now 65 = .ok (.invokevirtual 141, 3) := by decide +kernel
theorem dX8_now_68 : decode cX8_now 68 = .ok (.iadd, 1) := by decide +kernel
theorem dX8_now_69 : decode cX8_now 69 = .ok (.istore_n 2, 1) := by decide +kernel
theorem dX8_now_70 : decode cX8_now 70 = .ok (.iinc 3 1, 3) := by decide +kernel
theorem dX8_now_73 : decode cX8_now 73 = .ok (.goto (-17), 3) := by decide +kernel
theorem dX8_now_76 : decode cX8_now 76 = .ok (.iload_n 2, 1) := by decide +kernel
theorem dX8_now_77 : decode cX8_now 77 = .ok (.ireturn, 1) := by decide +kernel
theorem dX8_now_78 : decode cX8_now 78 = .ok (.aload_n 0, 1) := by decide +kernel
theorem dX8_now_79 : decode cX8_now 79 = .ok (.invokevirtual 175, 3) := by decide +kernel
theorem dX8_now_82 : decode cX8_now 82 = .ok (.ireturn, 1) := by decide +kernel
theorem dX8_now_83 : decode cX8_now 83 = .ok (.aload_n 0, 1) := by decide +kernel
theorem dX8_now_84 : decode cX8_now 84 = .ok (.iconst (-1), 1) := by decide +kernel
theorem dX8_now_85 : decode cX8_now 85 = .ok (.invokevirtual 138, 3) := by decide +kernel
theorem dX8_now_88 : decode cX8_now 88 = .ok (.ireturn, 1) := by decide +kernel
theorem dX8_now_89 : decode cX8_now 89 = .ok (.aload_n 0, 1) := by decide +kernel
theorem dX8_now_90 : decode cX8_now 90 = .ok (.invokevirtual 172, 3) := by decide +kernel
theorem dX8_now_93 : decode cX8_now 93 = .ok (.ireturn, 1) := by decide +kernel
theorem dX8_now_94 : decode cX8_now 94 = .ok (.aload_n 0, 1) := by decide +kernel
theorem dX8_now_95 : decode cX8_now 95 = .ok (.ldc 63, 2) := by decide +kernel
theorem dX8_now_97 : decode cX8_now 97 = .ok (.invokevirtual 80, 3) := by decide +kernel
theorem dX8_now_100 : decode cX8_now 100 = .ok (.ireturn, 1) := by decide +kernel
theorem dX8_mayGive_0 : decode cX8_mayGive 0 = .ok (.aload_n 0, 1) := by decide +kernel
theorem dX8_mayGive_1 : decode cX8_mayGive 1 = .ok (.getfield 9, 3) := by decide +kernel
theorem dX8_mayGive_4 : decode cX8_mayGive 4 = .ok (.bipush 27, 2) := by decide +kernel
theorem dX8_mayGive_6 : decode cX8_mayGive 6 = .ok (.iload_n 1, 1) := by decide +kernel
theorem dX8_mayGive_7 : decode cX8_mayGive 7 = .ok (.iadd, 1) := by decide +kernel
theorem dX8_mayGive_8 : decode cX8_mayGive 8 = .ok (.iaload, 1) := by decide +kernel
theorem dX8_mayGive_9 : decode cX8_mayGive 9 = .ok (.ifCond .lt 38, 3) := by decide +kernel
theorem dX8_mayGive_12 : decode cX8_mayGive 12 = .ok (.iload_n 3, 1) := by decide +kernel
theorem dX8_mayGive_13 : decode cX8_mayGive 13 = .ok (.aload_n 0, 1) := by decide +kernel
theorem dX8_mayGive_14 : decode cX8_mayGive 14 = .ok (.getfield 9, 3) := by decide +kernel
theorem dX8_mayGive_17 : decode cX8_mayGive 17 = .ok (.iconst 2, 1) := by decide +kernel
theorem dX8_mayGive_18 : decode cX8_mayGive 18 = .ok (.iaload, 1) := by decide +kernel
theorem dX8_mayGive_19 : decode cX8_mayGive 19 = .ok (.if_icmp .ge 28, 3) := by decide +kernel
theorem dX8_mayGive_22 : decode cX8_mayGive 22 = .ok (.iload_n 2, 1) := by decide +kernel
theorem dX8_mayGive_23 : decode cX8_mayGive 23 = .ok (.aload_n 0, 1) := by decide +kernel
theorem dX8_mayGive_24 : decode cX8_mayGive 24 = .ok (.getfield 178, 3) := by decide +kernel
theorem dX8_mayGive_27 : decode cX8_mayGive 27 = .ok (.ior, 1) := by decide +kernel
theorem dX8_mayGive_28 : decode cX8_mayGive 28 = .ok (.iload_n 3, 1) := by decide +kernel
theorem dX8_mayGive_29 : decode cX8_mayGive 29 = .ok (.invokestatic 120, 3) := by decide +kernel
theorem dX8_mayGive_32 : decode cX8_mayGive 32 = .ok (.ifCond .ne 15, 3) := by decide +kernel
theorem dX8_mayGive_35 : decode cX8_mayGive 35 = .ok (.aload_n 0, 1) := by decide +kernel
theorem dX8_mayGive_36 : decode cX8_mayGive 36 = .ok (.iload_n 3, 1) := by decide +kernel
theorem dX8_mayGive_37 : decode cX8_mayGive 37 = .ok (.invokevirtual 182, 3) := by decide +kernel
theorem dX8_mayGive_40 : decode cX8_mayGive 40 = .ok (.ifCond .eq 7, 3) := by decide +kernel
theorem dX8_mayGive_43 : decode cX8_mayGive 43 = .ok (.iconst 1, 1) := by decide +kernel
theorem dX8_mayGive_44 : decode cX8_mayGive 44 = .ok (.goto 4, 3) := by decide +kernel
theorem dX8_mayGive_47 : decode cX8_mayGive 47 = .ok (.iconst 0, 1) := by decide +kernel
theorem dX8_mayGive_48 : decode cX8_mayGive 48 = .ok (.ireturn, 1) := by decide +kernel
theorem dX8_worthAt_0 : decode cX8_worthAt 0 = .ok (.aload_n 0, 1) := by decide +kernel
theorem dX8_worthAt_1 : decode cX8_worthAt 1 = .ok (.getfield 22, 3) := by decide +kernel
theorem dX8_worthAt_4 : decode cX8_worthAt 4 = .ok (.iload_n 1, 1) := by decide +kernel
theorem dX8_worthAt_5 : decode cX8_worthAt 5 = .ok (.bipush 10, 2) := by decide +kernel
theorem dX8_worthAt_7 : decode cX8_worthAt 7 = .ok (.ishl, 1) := by decide +kernel
theorem dX8_worthAt_8 : decode cX8_worthAt 8 = .ok (.iload_n 2, 1) := by decide +kernel
theorem dX8_worthAt_9 : decode cX8_worthAt 9 = .ok (.iadd, 1) := by decide +kernel
theorem dX8_worthAt_10 : decode cX8_worthAt 10 = .ok (.iaload, 1) := by decide +kernel
theorem dX8_worthAt_11 : decode cX8_worthAt 11 = .ok (.ireturn, 1) := by decide +kernel
theorem dX8_noHeads_0 : decode cX8_noHeads 0 = .ok (.iconst 0, 1) := by decide +kernel
theorem dX8_noHeads_1 : decode cX8_noHeads 1 = .ok (.istore_n 1, 1) := by decide +kernel
theorem dX8_noHeads_2 : decode cX8_noHeads 2 = .ok (.iconst 0, 1) := by decide +kernel
theorem dX8_noHeads_3 : decode cX8_noHeads 3 = .ok (.istore_n 2, 1) := by decide +kernel
theorem dX8_noHeads_4 : decode cX8_noHeads 4 = .ok (.iload_n 2, 1) := by decide +kernel
theorem dX8_noHeads_5 : decode cX8_noHeads 5 = .ok (.bipush 10, 2) := by decide +kernel
theorem dX8_noHeads_7 : decode cX8_noHeads 7 = .ok (.if_icmp .ge 37, 3) := by decide +kernel
theorem dX8_noHeads_10 : decode cX8_noHeads 10 = .ok (.iload_n 1, 1) := by decide +kernel
theorem dX8_noHeads_11 : decode cX8_noHeads 11 = .ok (.iload_n 2, 1) := by decide +kernel
theorem dX8_noHeads_12 : decode cX8_noHeads 12 = .ok (.aload_n 0, 1) := by decide +kernel
theorem dX8_noHeads_13 : decode cX8_noHeads 13 = .ok (.getfield 9, 3) := by decide +kernel
theorem dX8_noHeads_16 : decode cX8_noHeads 16 = .ok (.iconst 2, 1) := by decide +kernel
theorem dX8_noHeads_17 : decode cX8_noHeads 17 = .ok (.iaload, 1) := by decide +kernel
theorem dX8_noHeads_18 : decode cX8_noHeads 18 = .ok (.if_icmp .ge 15, 3) := by decide +kernel
theorem dX8_noHeads_21 : decode cX8_noHeads 21 = .ok (.aload_n 0, 1) := by decide +kernel
theorem dX8_noHeads_22 : decode cX8_noHeads 22 = .ok (.iload_n 2, 1) := by decide +kernel
theorem dX8_noHeads_23 : decode cX8_noHeads 23 = .ok (.invokevirtual 182, 3) := by decide +kernel
theorem dX8_noHeads_26 : decode cX8_noHeads 26 = .ok (.ifCond .eq 7, 3) := by decide +kernel
theorem dX8_noHeads_29 : decode cX8_noHeads 29 = .ok (.iconst 0, 1) := by decide +kernel
theorem dX8_noHeads_30 : decode cX8_noHeads 30 = .ok (.goto 6, 3) := by decide +kernel
theorem dX8_noHeads_33 : decode cX8_noHeads 33 = .ok (.iconst 1, 1) := by decide +kernel
theorem dX8_noHeads_34 : decode cX8_noHeads 34 = .ok (.iload_n 2, 1) := by decide +kernel
theorem dX8_noHeads_35 : decode cX8_noHeads 35 = .ok (.ishl, 1) := by decide +kernel
theorem dX8_noHeads_36 : decode cX8_noHeads 36 = .ok (.ior, 1) := by decide +kernel
theorem dX8_noHeads_37 : decode cX8_noHeads 37 = .ok (.istore_n 1, 1) := by decide +kernel
theorem dX8_noHeads_38 : decode cX8_noHeads 38 = .ok (.iinc 2 1, 3) := by decide +kernel
theorem dX8_noHeads_41 : decode cX8_noHeads 41 = .ok (.goto (-37), 3) := by decide +kernel
theorem dX8_noHeads_44 : decode cX8_noHeads 44 = .ok (.iload_n 1, 1) := by decide +kernel
theorem dX8_noHeads_45 : decode cX8_noHeads 45 = .ok (.ireturn, 1) := by decide +kernel
theorem dX8_findMost_0 : decode cX8_findMost 0 = .ok (.aload_n 0, 1) := by decide +kernel
theorem dX8_findMost_1 : decode cX8_findMost 1 = .ok (.iload_n 1, 1) := by decide +kernel
theorem dX8_findMost_2 : decode cX8_findMost 2 = .ok (.putfield 178, 3) := by decide +kernel
theorem dX8_findMost_5 : decode cX8_findMost 5 = .ok (.aload_n 0, 1) := by decide +kernel
theorem dX8_findMost_6 : decode cX8_findMost 6 = .ok (.invokevirtual 185, 3) := by decide +kernel
theorem dX8_findMost_9 : decode cX8_findMost 9 = .ok (.iload_n 1, 1) := by decide +kernel
theorem dX8_findMost_10 : decode cX8_findMost 10 = .ok (.ior, 1) := by decide +kernel
theorem dX8_findMost_11 : decode cX8_findMost 11 = .ok (.istore_n 2, 1) := by decide +kernel
theorem dX8_findMost_12 : decode cX8_findMost 12 = .ok (.iconst 0, 1) := by decide +kernel
theorem dX8_findMost_13 : decode cX8_findMost 13 = .ok (.istore_n 3, 1) := by decide +kernel
theorem dX8_findMost_14 : decode cX8_findMost 14 = .ok (.iload_n 3, 1) := by decide +kernel
theorem dX8_findMost_15 : decode cX8_findMost 15 = .ok (.sipush 1024, 3) := by decide +kernel
theorem dX8_findMost_18 : decode cX8_findMost 18 = .ok (.if_icmp .ge 20, 3) := by decide +kernel
theorem dX8_findMost_21 : decode cX8_findMost 21 = .ok (.aload_n 0, 1) := by decide +kernel
theorem dX8_findMost_22 : decode cX8_findMost 22 = .ok (.getfield 22, 3) := by decide +kernel
theorem dX8_findMost_25 : decode cX8_findMost 25 = .ok (.sipush 6144, 3) := by decide +kernel
theorem dX8_findMost_28 : decode cX8_findMost 28 = .ok (.iload_n 3, 1) := by decide +kernel
theorem dX8_findMost_29 : decode cX8_findMost 29 = .ok (.iadd, 1) := by decide +kernel
theorem dX8_findMost_30 : decode cX8_findMost 30 = .ok (.iconst 0, 1) := by decide +kernel
theorem dX8_findMost_31 : decode cX8_findMost 31 = .ok (.iastore, 1) := by decide +kernel
theorem dX8_findMost_32 : decode cX8_findMost 32 = .ok (.iinc 3 1, 3) := by decide +kernel
theorem dX8_findMost_35 : decode cX8_findMost 35 = .ok (.goto (-21), 3) := by decide +kernel
theorem dX8_findMost_38 : decode cX8_findMost 38 = .ok (.iconst 5, 1) := by decide +kernel
theorem dX8_findMost_39 : decode cX8_findMost 39 = .ok (.istore_n 3, 1) := by decide +kernel
theorem dX8_findMost_40 : decode cX8_findMost 40 = .ok (.iload_n 3, 1) := by decide +kernel
theorem dX8_findMost_41 : decode cX8_findMost 41 = .ok (.ifCond .lt 144, 3) := by decide +kernel
theorem dX8_findMost_44 : decode cX8_findMost 44 = .ok (.iconst 0, 1) := by decide +kernel
theorem dX8_findMost_45 : decode cX8_findMost 45 = .ok (.istore 4, 2) := by decide +kernel
theorem dX8_findMost_47 : decode cX8_findMost 47 = .ok (.iload 4, 2) := by decide +kernel
theorem dX8_findMost_49 : decode cX8_findMost 49 = .ok (.sipush 1024, 3) := by decide +kernel
theorem dX8_findMost_52 : decode cX8_findMost 52 = .ok (.if_icmp .ge 127, 3) := by decide +kernel
theorem dX8_findMost_55 : decode cX8_findMost 55 = .ok (.aload_n 0, 1) := by decide +kernel
theorem dX8_findMost_56 : decode cX8_findMost 56 = .ok (.iload_n 3, 1) := by decide +kernel
theorem dX8_findMost_57 : decode cX8_findMost 57 = .ok (.iconst 1, 1) := by decide +kernel
theorem dX8_findMost_58 : decode cX8_findMost 58 = .ok (.iadd, 1) := by decide +kernel
theorem dX8_findMost_59 : decode cX8_findMost 59 = .ok (.iload 4, 2) := by decide +kernel
theorem dX8_findMost_61 : decode cX8_findMost 61 = .ok (.invokevirtual 188, 3) := by decide +kernel
theorem dX8_findMost_64 : decode cX8_findMost 64 = .ok (.istore 5, 2) := by decide +kernel
theorem dX8_findMost_66 : decode cX8_findMost 66 = .ok (.iconst 0, 1) := by decide +kernel
theorem dX8_findMost_67 : decode cX8_findMost 67 = .ok (.istore 6, 2) := by decide +kernel
theorem dX8_findMost_69 : decode cX8_findMost 69 = .ok (.iload 6, 2) := by decide +kernel
theorem dX8_findMost_71 : decode cX8_findMost 71 = .ok (.aload_n 0, 1) := by decide +kernel
theorem dX8_findMost_72 : decode cX8_findMost 72 = .ok (.getfield 9, 3) := by decide +kernel
theorem dX8_findMost_75 : decode cX8_findMost 75 = .ok (.iconst 2, 1) := by decide +kernel
theorem dX8_findMost_76 : decode cX8_findMost 76 = .ok (.iaload, 1) := by decide +kernel
theorem dX8_findMost_77 : decode cX8_findMost 77 = .ok (.if_icmp .ge 82, 3) := by decide +kernel
theorem dX8_findMost_80 : decode cX8_findMost 80 = .ok (.aload_n 0, 1) := by decide +kernel
theorem dX8_findMost_81 : decode cX8_findMost 81 = .ok (.getfield 9, 3) := by decide +kernel
theorem dX8_findMost_84 : decode cX8_findMost 84 = .ok (.bipush 27, 2) := by decide +kernel
theorem dX8_findMost_86 : decode cX8_findMost 86 = .ok (.iload_n 3, 1) := by decide +kernel
theorem dX8_findMost_87 : decode cX8_findMost 87 = .ok (.iadd, 1) := by decide +kernel
theorem dX8_findMost_88 : decode cX8_findMost 88 = .ok (.iaload, 1) := by decide +kernel
theorem dX8_findMost_89 : decode cX8_findMost 89 = .ok (.ifCond .lt 70, 3) := by decide +kernel
theorem dX8_findMost_92 : decode cX8_findMost 92 = .ok (.iload 4, 2) := by decide +kernel
theorem dX8_findMost_94 : decode cX8_findMost 94 = .ok (.iload_n 2, 1) := by decide +kernel
theorem dX8_findMost_95 : decode cX8_findMost 95 = .ok (.iand, 1) := by decide +kernel
theorem dX8_findMost_96 : decode cX8_findMost 96 = .ok (.ifCond .ne 63, 3) := by decide +kernel
theorem dX8_findMost_99 : decode cX8_findMost 99 = .ok (.iload 4, 2) := by decide +kernel
theorem dX8_findMost_101 : decode cX8_findMost 101 = .ok (.iload_n 2, 1) := by decide +kernel
theorem dX8_findMost_102 : decode cX8_findMost 102 = .ok (.ior, 1) := by decide +kernel
theorem dX8_findMost_103 : decode cX8_findMost 103 = .ok (.iload 6, 2) := by decide +kernel
theorem dX8_findMost_105 : decode cX8_findMost 105 = .ok (.invokestatic 120, 3) := by decide +kernel
theorem dX8_findMost_108 : decode cX8_findMost 108 = .ok (.ifCond .eq 8, 3) := by decide +kernel
theorem dX8_findMost_111 : decode cX8_findMost 111 = .ok (.iload 5, 2) := by decide +kernel
theorem dX8_findMost_113 : decode cX8_findMost 113 = .ok (.goto 38, 3) := by decide +kernel
theorem dX8_findMost_116 : decode cX8_findMost 116 = .ok (.iload 5, 2) := by decide +kernel
theorem dX8_findMost_118 : decode cX8_findMost 118 = .ok (.aload_n 0, 1) := by decide +kernel
theorem dX8_findMost_119 : decode cX8_findMost 119 = .ok (.iload 6, 2) := by decide +kernel
theorem dX8_findMost_121 : decode cX8_findMost 121 = .ok (.aload_n 0, 1) := by decide +kernel
theorem dX8_findMost_122 : decode cX8_findMost 122 = .ok (.getfield 9, 3) := by decide +kernel
theorem dX8_findMost_125 : decode cX8_findMost 125 = .ok (.bipush 27, 2) := by decide +kernel
theorem dX8_findMost_127 : decode cX8_findMost 127 = .ok (.iload_n 3, 1) := by decide +kernel
theorem dX8_findMost_128 : decode cX8_findMost 128 = .ok (.iadd, 1) := by decide +kernel
theorem dX8_findMost_129 : decode cX8_findMost 129 = .ok (.iaload, 1) := by decide +kernel
theorem dX8_findMost_130 : decode cX8_findMost 130 = .ok (.invokevirtual 132, 3) := by decide +kernel
theorem dX8_findMost_133 : decode cX8_findMost 133 = .ok (.aload_n 0, 1) := by decide +kernel
theorem dX8_findMost_134 : decode cX8_findMost 134 = .ok (.iload_n 3, 1) := by decide +kernel
theorem dX8_findMost_135 : decode cX8_findMost 135 = .ok (.iconst 1, 1) := by decide +kernel
theorem dX8_findMost_136 : decode cX8_findMost 136 = .ok (.iadd, 1) := by decide +kernel
theorem dX8_findMost_137 : decode cX8_findMost 137 = .ok (.iload 4, 2) := by decide +kernel
theorem dX8_findMost_139 : decode cX8_findMost 139 = .ok (.iconst 1, 1) := by decide +kernel
theorem dX8_findMost_140 : decode cX8_findMost 140 = .ok (.iload 6, 2) := by decide +kernel
theorem dX8_findMost_142 : decode cX8_findMost 142 = .ok (.ishl, 1) := by decide +kernel
theorem dX8_findMost_143 : decode cX8_findMost 143 = .ok (.ior, 1) := by decide +kernel
theorem dX8_findMost_144 : decode cX8_findMost 144 = .ok (.invokevirtual 188, 3) := by decide +kernel
theorem dX8_findMost_147 : decode cX8_findMost 147 = .ok (.iadd, 1) := by decide +kernel
theorem dX8_findMost_148 : decode cX8_findMost 148 = .ok (.invokestatic 123, 3) := by decide +kernel
theorem dX8_findMost_151 : decode cX8_findMost 151 = .ok (.istore 5, 2) := by decide +kernel
theorem dX8_findMost_153 : decode cX8_findMost 153 = .ok (.iinc 6 1, 3) := by decide +kernel
theorem dX8_findMost_156 : decode cX8_findMost 156 = .ok (.goto (-87), 3) := by decide +kernel
theorem dX8_findMost_159 : decode cX8_findMost 159 = .ok (.aload_n 0, 1) := by decide +kernel
theorem dX8_findMost_160 : decode cX8_findMost 160 = .ok (.getfield 22, 3) := by decide +kernel
theorem dX8_findMost_163 : decode cX8_findMost 163 = .ok (.iload_n 3, 1) := by decide +kernel
theorem dX8_findMost_164 : decode cX8_findMost 164 = .ok (.bipush 10, 2) := by decide +kernel
theorem dX8_findMost_166 : decode cX8_findMost 166 = .ok (.ishl, 1) := by decide +kernel
theorem dX8_findMost_167 : decode cX8_findMost 167 = .ok (.iload 4, 2) := by decide +kernel
theorem dX8_findMost_169 : decode cX8_findMost 169 = .ok (.iadd, 1) := by decide +kernel
theorem dX8_findMost_170 : decode cX8_findMost 170 = .ok (.iload 5, 2) := by decide +kernel
theorem dX8_findMost_172 : decode cX8_findMost 172 = .ok (.iastore, 1) := by decide +kernel
theorem dX8_findMost_173 : decode cX8_findMost 173 = .ok (.iinc 4 1, 3) := by decide +kernel
theorem dX8_findMost_176 : decode cX8_findMost 176 = .ok (.goto (-129), 3) := by decide +kernel
theorem dX8_findMost_179 : decode cX8_findMost 179 = .ok (.iinc 3 (-1), 3) := by decide +kernel
theorem dX8_findMost_182 : decode cX8_findMost 182 = .ok (.goto (-142), 3) := by decide +kernel
theorem dX8_findMost_185 : decode cX8_findMost 185 = .ok (.aload_n 0, 1) := by decide +kernel
theorem dX8_findMost_186 : decode cX8_findMost 186 = .ok (.iconst 0, 1) := by decide +kernel
theorem dX8_findMost_187 : decode cX8_findMost 187 = .ok (.iconst 0, 1) := by decide +kernel
theorem dX8_findMost_188 : decode cX8_findMost 188 = .ok (.invokevirtual 188, 3) := by decide +kernel
theorem dX8_findMost_191 : decode cX8_findMost 191 = .ok (.ireturn, 1) := by decide +kernel
theorem dX8_most_0 : decode cX8_most 0 = .ok (.aload_n 0, 1) := by decide +kernel
theorem dX8_most_1 : decode cX8_most 1 = .ok (.iconst 0, 1) := by decide +kernel
theorem dX8_most_2 : decode cX8_most 2 = .ok (.invokevirtual 191, 3) := by decide +kernel
theorem dX8_most_5 : decode cX8_most 5 = .ok (.ireturn, 1) := by decide +kernel
theorem dX8_given_0 : decode cX8_given 0 = .ok (.iload_n 1, 1) := by decide +kernel
theorem dX8_given_1 : decode cX8_given 1 = .ok (.invokestatic 114, 3) := by decide +kernel
theorem dX8_given_4 : decode cX8_given 4 = .ok (.ifCond .ne 10, 3) := by decide +kernel
theorem dX8_given_7 : decode cX8_given 7 = .ok (.aload_n 0, 1) := by decide +kernel
theorem dX8_given_8 : decode cX8_given 8 = .ok (.ldc 63, 2) := by decide +kernel
theorem dX8_given_10 : decode cX8_given 10 = .ok (.invokevirtual 80, 3) := by decide +kernel
theorem dX8_given_13 : decode cX8_given 13 = .ok (.ireturn, 1) := by decide +kernel
theorem dX8_given_14 : decode cX8_given 14 = .ok (.aload_n 0, 1) := by decide +kernel
theorem dX8_given_15 : decode cX8_given 15 = .ok (.iconst 0, 1) := by decide +kernel
theorem dX8_given_16 : decode cX8_given 16 = .ok (.invokevirtual 191, 3) := by decide +kernel
theorem dX8_given_19 : decode cX8_given 19 = .ok (.istore_n 2, 1) := by decide +kernel
theorem dX8_given_20 : decode cX8_given 20 = .ok (.iconst 0, 1) := by decide +kernel
theorem dX8_given_21 : decode cX8_given 21 = .ok (.istore_n 3, 1) := by decide +kernel
theorem dX8_given_22 : decode cX8_given 22 = .ok (.iconst (-1), 1) := by decide +kernel
theorem dX8_given_23 : decode cX8_given 23 = .ok (.istore 4, 2) := by decide +kernel
theorem dX8_given_25 : decode cX8_given 25 = .ok (.iconst 0, 1) := by decide +kernel
theorem dX8_given_26 : decode cX8_given 26 = .ok (.istore 5, 2) := by decide +kernel
theorem dX8_given_28 : decode cX8_given 28 = .ok (.iload 5, 2) := by decide +kernel
theorem dX8_given_30 : decode cX8_given 30 = .ok (.iload_n 1, 1) := by decide +kernel
theorem dX8_given_31 : decode cX8_given 31 = .ok (.if_icmp .gt 145, 3) := by decide +kernel
theorem dX8_given_34 : decode cX8_given 34 = .ok (.iconst (-1), 1) := by decide +kernel
theorem dX8_given_35 : decode cX8_given 35 = .ok (.istore 4, 2) := by decide +kernel
theorem dX8_given_37 : decode cX8_given 37 = .ok (.aload_n 0, 1) := by decide +kernel
theorem dX8_given_38 : decode cX8_given 38 = .ok (.getfield 9, 3) := by decide +kernel
theorem dX8_given_41 : decode cX8_given 41 = .ok (.iconst 2, 1) := by decide +kernel
theorem dX8_given_42 : decode cX8_given 42 = .ok (.iaload, 1) := by decide +kernel
theorem dX8_given_43 : decode cX8_given 43 = .ok (.iconst 1, 1) := by decide +kernel
theorem dX8_given_44 : decode cX8_given 44 = .ok (.isub, 1) := by decide +kernel
theorem dX8_given_45 : decode cX8_given 45 = .ok (.istore 6, 2) := by decide +kernel
theorem dX8_given_47 : decode cX8_given 47 = .ok (.iload 6, 2) := by decide +kernel
theorem dX8_given_49 : decode cX8_given 49 = .ok (.ifCond .lt 77, 3) := by decide +kernel
theorem dX8_given_52 : decode cX8_given 52 = .ok (.aload_n 0, 1) := by decide +kernel
theorem dX8_given_53 : decode cX8_given 53 = .ok (.iload 5, 2) := by decide +kernel
theorem dX8_given_55 : decode cX8_given 55 = .ok (.iload_n 3, 1) := by decide +kernel
theorem dX8_given_56 : decode cX8_given 56 = .ok (.iload 6, 2) := by decide +kernel
theorem dX8_given_58 : decode cX8_given 58 = .ok (.invokevirtual 194, 3) := by decide +kernel
theorem dX8_given_61 : decode cX8_given 61 = .ok (.ifCond .eq 42, 3) := by decide +kernel
theorem dX8_given_64 : decode cX8_given 64 = .ok (.aload_n 0, 1) := by decide +kernel
theorem dX8_given_65 : decode cX8_given 65 = .ok (.iload 6, 2) := by decide +kernel
theorem dX8_given_67 : decode cX8_given 67 = .ok (.aload_n 0, 1) := by decide +kernel
theorem dX8_given_68 : decode cX8_given 68 = .ok (.getfield 9, 3) := by decide +kernel
theorem dX8_given_71 : decode cX8_given 71 = .ok (.bipush 27, 2) := by decide +kernel
theorem dX8_given_73 : decode cX8_given 73 = .ok (.iload 5, 2) := by decide +kernel
theorem dX8_given_75 : decode cX8_given 75 = .ok (.iadd, 1) := by decide +kernel
theorem dX8_given_76 : decode cX8_given 76 = .ok (.iaload, 1) := by decide +kernel
theorem dX8_given_77 : decode cX8_given 77 = .ok (.invokevirtual 132, 3) := by decide +kernel
theorem dX8_given_80 : decode cX8_given 80 = .ok (.aload_n 0, 1) := by decide +kernel
theorem dX8_given_81 : decode cX8_given 81 = .ok (.iload 5, 2) := by decide +kernel
theorem dX8_given_83 : decode cX8_given 83 = .ok (.iconst 1, 1) := by decide +kernel
theorem dX8_given_84 : decode cX8_given 84 = .ok (.iadd, 1) := by decide +kernel
theorem dX8_given_85 : decode cX8_given 85 = .ok (.iload_n 3, 1) := by decide +kernel
theorem dX8_given_86 : decode cX8_given 86 = .ok (.iconst 1, 1) := by decide +kernel
theorem dX8_given_87 : decode cX8_given 87 = .ok (.iload 6, 2) := by decide +kernel
theorem dX8_given_89 : decode cX8_given 89 = .ok (.ishl, 1) := by decide +kernel
theorem dX8_given_90 : decode cX8_given 90 = .ok (.ior, 1) := by decide +kernel
theorem dX8_given_91 : decode cX8_given 91 = .ok (.invokevirtual 188, 3) := by decide +kernel
theorem dX8_given_94 : decode cX8_given 94 = .ok (.iadd, 1) := by decide +kernel
theorem dX8_given_95 : decode cX8_given 95 = .ok (.iload_n 2, 1) := by decide +kernel
theorem dX8_given_96 : decode cX8_given 96 = .ok (.if_icmp .ne 7, 3) := by decide +kernel
theorem dX8_given_99 : decode cX8_given 99 = .ok (.iconst 1, 1) := by decide +kernel
theorem dX8_given_100 : decode cX8_given 100 = .ok (.goto 4, 3) := by decide +kernel
theorem dX8_given_103 : decode cX8_given 103 = .ok (.iconst 0, 1) := by decide +kernel
theorem dX8_given_104 : decode cX8_given 104 = .ok (.istore 7, 2) := by decide +kernel
theorem dX8_given_106 : decode cX8_given 106 = .ok (.iload 7, 2) := by decide +kernel
theorem dX8_given_108 : decode cX8_given 108 = .ok (.ifCond .eq 8, 3) := by decide +kernel
theorem dX8_given_111 : decode cX8_given 111 = .ok (.iload 6, 2) := by decide +kernel
theorem dX8_given_113 : decode cX8_given 113 = .ok (.goto 5, 3) := by decide +kernel
theorem dX8_given_116 : decode cX8_given 116 = .ok (.iload 4, 2) := by decide +kernel
theorem dX8_given_118 : decode cX8_given 118 = .ok (.istore 4, 2) := by decide +kernel
theorem dX8_given_120 : decode cX8_given 120 = .ok (.iinc 6 (-1), 3) := by decide +kernel
theorem dX8_given_123 : decode cX8_given 123 = .ok (.goto (-76), 3) := by decide +kernel
theorem dX8_given_126 : decode cX8_given 126 = .ok (.iload_n 2, 1) := by decide +kernel
theorem dX8_given_127 : decode cX8_given 127 = .ok (.iload 4, 2) := by decide +kernel
theorem dX8_given_129 : decode cX8_given 129 = .ok (.ifCond .ge 7, 3) := by decide +kernel
theorem dX8_given_132 : decode cX8_given 132 = .ok (.iconst 0, 1) := by decide +kernel
theorem dX8_given_133 : decode cX8_given 133 = .ok (.goto 19, 3) := by decide +kernel
theorem dX8_given_136 : decode cX8_given 136 = .ok (.aload_n 0, 1) := by decide +kernel
theorem dX8_given_137 : decode cX8_given 137 = .ok (.iload 4, 2) := by decide +kernel
theorem dX8_given_139 : decode cX8_given 139 = .ok (.aload_n 0, 1) := by decide +kernel
theorem dX8_given_140 : decode cX8_given 140 = .ok (.getfield 9, 3) := by decide +kernel
theorem dX8_given_143 : decode cX8_given 143 = .ok (.bipush 27, 2) := by decide +kernel
theorem dX8_given_145 : decode cX8_given 145 = .ok (.iload 5, 2) := by decide +kernel
theorem dX8_given_147 : decode cX8_given 147 = .ok (.iadd, 1) := by decide +kernel
theorem dX8_given_148 : decode cX8_given 148 = .ok (.iaload, 1) := by decide +kernel
theorem dX8_given_149 : decode cX8_given 149 = .ok (.invokevirtual 132, 3) := by decide +kernel
theorem dX8_given_152 : decode cX8_given 152 = .ok (.isub, 1) := by decide +kernel
theorem dX8_given_153 : decode cX8_given 153 = .ok (.istore_n 2, 1) := by decide +kernel
theorem dX8_given_154 : decode cX8_given 154 = .ok (.iload_n 3, 1) := by decide +kernel
theorem dX8_given_155 : decode cX8_given 155 = .ok (.iload 4, 2) := by decide +kernel
theorem dX8_given_157 : decode cX8_given 157 = .ok (.ifCond .ge 7, 3) := by decide +kernel
theorem dX8_given_160 : decode cX8_given 160 = .ok (.iconst 0, 1) := by decide +kernel
theorem dX8_given_161 : decode cX8_given 161 = .ok (.goto 7, 3) := by decide +kernel
theorem dX8_given_164 : decode cX8_given 164 = .ok (.iconst 1, 1) := by decide +kernel
theorem dX8_given_165 : decode cX8_given 165 = .ok (.iload 4, 2) := by decide +kernel
theorem dX8_given_167 : decode cX8_given 167 = .ok (.ishl, 1) := by decide +kernel
theorem dX8_given_168 : decode cX8_given 168 = .ok (.ior, 1) := by decide +kernel
theorem dX8_given_169 : decode cX8_given 169 = .ok (.istore_n 3, 1) := by decide +kernel
theorem dX8_given_170 : decode cX8_given 170 = .ok (.iinc 5 1, 3) := by decide +kernel
theorem dX8_given_173 : decode cX8_given 173 = .ok (.goto (-145), 3) := by decide +kernel
theorem dX8_given_176 : decode cX8_given 176 = .ok (.iload 4, 2) := by decide +kernel
theorem dX8_given_178 : decode cX8_given 178 = .ok (.ireturn, 1) := by decide +kernel
theorem dX8_likest_0 : decode cX8_likest 0 = .ok (.iload_n 1, 1) := by decide +kernel
theorem dX8_likest_1 : decode cX8_likest 1 = .ok (.invokestatic 111, 3) := by decide +kernel
theorem dX8_likest_4 : decode cX8_likest 4 = .ok (.ifCond .ne 10, 3) := by decide +kernel
theorem dX8_likest_7 : decode cX8_likest 7 = .ok (.aload_n 0, 1) := by decide +kernel
theorem dX8_likest_8 : decode cX8_likest 8 = .ok (.ldc 63, 2) := by decide +kernel
theorem dX8_likest_10 : decode cX8_likest 10 = .ok (.invokevirtual 80, 3) := by decide +kernel
theorem dX8_likest_13 : decode cX8_likest 13 = .ok (.ireturn, 1) := by decide +kernel
theorem dX8_likest_14 : decode cX8_likest 14 = .ok (.iconst (-1), 1) := by decide +kernel
theorem dX8_likest_15 : decode cX8_likest 15 = .ok (.istore_n 2, 1) := by decide +kernel
theorem dX8_likest_16 : decode cX8_likest 16 = .ok (.iconst (-1), 1) := by decide +kernel
theorem dX8_likest_17 : decode cX8_likest 17 = .ok (.istore_n 3, 1) := by decide +kernel
theorem dX8_likest_18 : decode cX8_likest 18 = .ok (.iconst 0, 1) := by decide +kernel
theorem dX8_likest_19 : decode cX8_likest 19 = .ok (.istore 4, 2) := by decide +kernel
theorem dX8_likest_21 : decode cX8_likest 21 = .ok (.iload 4, 2) := by decide +kernel
theorem dX8_likest_23 : decode cX8_likest 23 = .ok (.aload_n 0, 1) := by decide +kernel
theorem dX8_likest_24 : decode cX8_likest 24 = .ok (.getfield 9, 3) := by decide +kernel
theorem dX8_likest_27 : decode cX8_likest 27 = .ok (.iconst 2, 1) := by decide +kernel
theorem dX8_likest_28 : decode cX8_likest 28 = .ok (.iaload, 1) := by decide +kernel
theorem dX8_likest_29 : decode cX8_likest 29 = .ok (.if_icmp .ge 39, 3) := by decide +kernel
theorem dX8_likest_32 : decode cX8_likest 32 = .ok (.aload_n 0, 1) := by decide +kernel
theorem dX8_likest_33 : decode cX8_likest 33 = .ok (.iload 4, 2) := by decide +kernel
theorem dX8_likest_35 : decode cX8_likest 35 = .ok (.iload_n 1, 1) := by decide +kernel
theorem dX8_likest_36 : decode cX8_likest 36 = .ok (.invokevirtual 132, 3) := by decide +kernel
theorem dX8_likest_39 : decode cX8_likest 39 = .ok (.iload_n 3, 1) := by decide +kernel
theorem dX8_likest_40 : decode cX8_likest 40 = .ok (.if_icmp .le 8, 3) := by decide +kernel
theorem dX8_likest_43 : decode cX8_likest 43 = .ok (.iload 4, 2) := by decide +kernel
theorem dX8_likest_45 : decode cX8_likest 45 = .ok (.goto 4, 3) := by decide +kernel
theorem dX8_likest_48 : decode cX8_likest 48 = .ok (.iload_n 2, 1) := by decide +kernel
theorem dX8_likest_49 : decode cX8_likest 49 = .ok (.istore_n 2, 1) := by decide +kernel
theorem dX8_likest_50 : decode cX8_likest 50 = .ok (.iload_n 3, 1) := by decide +kernel
theorem dX8_likest_51 : decode cX8_likest 51 = .ok (.aload_n 0, 1) := by decide +kernel
theorem dX8_likest_52 : decode cX8_likest 52 = .ok (.iload 4, 2) := by decide +kernel
theorem dX8_likest_54 : decode cX8_likest 54 = .ok (.iload_n 1, 1) := by decide +kernel
theorem dX8_likest_55 : decode cX8_likest 55 = .ok (.invokevirtual 132, 3) := by decide +kernel
theorem dX8_likest_58 : decode cX8_likest 58 = .ok (.invokestatic 123, 3) := by decide +kernel
theorem dX8_likest_61 : decode cX8_likest 61 = .ok (.istore_n 3, 1) := by decide +kernel
theorem dX8_likest_62 : decode cX8_likest 62 = .ok (.iinc 4 1, 3) := by decide +kernel
theorem dX8_likest_65 : decode cX8_likest 65 = .ok (.goto (-44), 3) := by decide +kernel
theorem dX8_likest_68 : decode cX8_likest 68 = .ok (.iload_n 2, 1) := by decide +kernel
theorem dX8_likest_69 : decode cX8_likest 69 = .ok (.ifCond .ge 12, 3) := by decide +kernel
theorem dX8_likest_72 : decode cX8_likest 72 = .ok (.aload_n 0, 1) := by decide +kernel
theorem dX8_likest_73 : decode cX8_likest 73 = .ok (.ldc 197, 2) := by decide +kernel
theorem dX8_likest_75 : decode cX8_likest 75 = .ok (.invokevirtual 80, 3) := by decide +kernel
theorem dX8_likest_78 : decode cX8_likest 78 = .ok (.goto 4, 3) := by decide +kernel
theorem dX8_likest_81 : decode cX8_likest 81 = .ok (.iload_n 2, 1) := by decide +kernel
theorem dX8_likest_82 : decode cX8_likest 82 = .ok (.ireturn, 1) := by decide +kernel
theorem dX8_whom_0 : decode cX8_whom 0 = .ok (.aload_n 0, 1) := by decide +kernel
theorem dX8_whom_1 : decode cX8_whom 1 = .ok (.iload_n 1, 1) := by decide +kernel
theorem dX8_whom_2 : decode cX8_whom 2 = .ok (.invokevirtual 99, 3) := by decide +kernel
theorem dX8_whom_5 : decode cX8_whom 5 = .ok (.ifCond .ne 10, 3) := by decide +kernel
theorem dX8_whom_8 : decode cX8_whom 8 = .ok (.aload_n 0, 1) := by decide +kernel
theorem dX8_whom_9 : decode cX8_whom 9 = .ok (.ldc 63, 2) := by decide +kernel
theorem dX8_whom_11 : decode cX8_whom 11 = .ok (.invokevirtual 80, 3) := by decide +kernel
theorem dX8_whom_14 : decode cX8_whom 14 = .ok (.ireturn, 1) := by decide +kernel
theorem dX8_whom_15 : decode cX8_whom 15 = .ok (.iconst 0, 1) := by decide +kernel
theorem dX8_whom_16 : decode cX8_whom 16 = .ok (.istore_n 2, 1) := by decide +kernel
theorem dX8_whom_17 : decode cX8_whom 17 = .ok (.iconst 1, 1) := by decide +kernel
theorem dX8_whom_18 : decode cX8_whom 18 = .ok (.istore_n 3, 1) := by decide +kernel
theorem dX8_whom_19 : decode cX8_whom 19 = .ok (.iload_n 3, 1) := by decide +kernel
theorem dX8_whom_20 : decode cX8_whom 20 = .ok (.bipush 6, 2) := by decide +kernel
theorem dX8_whom_22 : decode cX8_whom 22 = .ok (.if_icmp .ge 30, 3) := by decide +kernel
theorem dX8_whom_25 : decode cX8_whom 25 = .ok (.aload_n 0, 1) := by decide +kernel
theorem dX8_whom_26 : decode cX8_whom 26 = .ok (.iload_n 1, 1) := by decide +kernel
theorem dX8_whom_27 : decode cX8_whom 27 = .ok (.iload_n 3, 1) := by decide +kernel
theorem dX8_whom_28 : decode cX8_whom 28 = .ok (.invokevirtual 132, 3) := by decide +kernel
theorem dX8_whom_31 : decode cX8_whom 31 = .ok (.aload_n 0, 1) := by decide +kernel
theorem dX8_whom_32 : decode cX8_whom 32 = .ok (.iload_n 1, 1) := by decide +kernel
theorem dX8_whom_33 : decode cX8_whom 33 = .ok (.iload_n 2, 1) := by decide +kernel
theorem dX8_whom_34 : decode cX8_whom 34 = .ok (.invokevirtual 132, 3) := by decide +kernel
theorem dX8_whom_37 : decode cX8_whom 37 = .ok (.if_icmp .le 7, 3) := by decide +kernel
theorem dX8_whom_40 : decode cX8_whom 40 = .ok (.iload_n 3, 1) := by decide +kernel
theorem dX8_whom_41 : decode cX8_whom 41 = .ok (.goto 4, 3) := by decide +kernel
theorem dX8_whom_44 : decode cX8_whom 44 = .ok (.iload_n 2, 1) := by decide +kernel
theorem dX8_whom_45 : decode cX8_whom 45 = .ok (.istore_n 2, 1) := by decide +kernel
theorem dX8_whom_46 : decode cX8_whom 46 = .ok (.iinc 3 1, 3) := by decide +kernel
theorem dX8_whom_49 : decode cX8_whom 49 = .ok (.goto (-30), 3) := by decide +kernel
theorem dX8_whom_52 : decode cX8_whom 52 = .ok (.iload_n 2, 1) := by decide +kernel
theorem dX8_whom_53 : decode cX8_whom 53 = .ok (.ireturn, 1) := by decide +kernel
theorem dX8_missed_0 : decode cX8_missed 0 = .ok (.aload_n 0, 1) := by decide +kernel
theorem dX8_missed_1 : decode cX8_missed 1 = .ok (.iload_n 1, 1) := by decide +kernel
theorem dX8_missed_2 : decode cX8_missed 2 = .ok (.invokevirtual 99, 3) := by decide +kernel
theorem dX8_missed_5 : decode cX8_missed 5 = .ok (.ifCond .ne 10, 3) := by decide +kernel
theorem dX8_missed_8 : decode cX8_missed 8 = .ok (.aload_n 0, 1) := by decide +kernel
theorem dX8_missed_9 : decode cX8_missed 9 = .ok (.ldc 63, 2) := by decide +kernel
theorem dX8_missed_11 : decode cX8_missed 11 = .ok (.invokevirtual 80, 3) := by decide +kernel
theorem dX8_missed_14 : decode cX8_missed 14 = .ok (.ireturn, 1) := by decide +kernel
theorem dX8_missed_15 : decode cX8_missed 15 = .ok (.aload_n 0, 1) := by decide +kernel
theorem dX8_missed_16 : decode cX8_missed 16 = .ok (.iconst 0, 1) := by decide +kernel
theorem dX8_missed_17 : decode cX8_missed 17 = .ok (.invokevirtual 191, 3) := by decide +kernel
theorem dX8_missed_20 : decode cX8_missed 20 = .ok (.istore_n 2, 1) := by decide +kernel
theorem dX8_missed_21 : decode cX8_missed 21 = .ok (.iload_n 2, 1) := by decide +kernel
theorem dX8_missed_22 : decode cX8_missed 22 = .ok (.aload_n 0, 1) := by decide +kernel
theorem dX8_missed_23 : decode cX8_missed 23 = .ok (.iconst 1, 1) := by decide +kernel
theorem dX8_missed_24 : decode cX8_missed 24 = .ok (.iload_n 1, 1) := by decide +kernel
theorem dX8_missed_25 : decode cX8_missed 25 = .ok (.ishl, 1) := by decide +kernel
theorem dX8_missed_26 : decode cX8_missed 26 = .ok (.invokevirtual 191, 3) := by decide +kernel
theorem dX8_missed_29 : decode cX8_missed 29 = .ok (.isub, 1) := by decide +kernel
theorem dX8_missed_30 : decode cX8_missed 30 = .ok (.ireturn, 1) := by decide +kernel
theorem dX8_bestWith_0 : decode cX8_bestWith 0 = .ok (.aload_n 0, 1) := by decide +kernel
theorem dX8_bestWith_1 : decode cX8_bestWith 1 = .ok (.getfield 9, 3) := by decide +kernel
theorem dX8_bestWith_4 : decode cX8_bestWith 4 = .ok (.iload_n 1, 1) := by decide +kernel
theorem dX8_bestWith_5 : decode cX8_bestWith 5 = .ok (.iaload, 1) := by decide +kernel
theorem dX8_bestWith_6 : decode cX8_bestWith 6 = .ok (.istore_n 3, 1) := by decide +kernel
theorem dX8_bestWith_7 : decode cX8_bestWith 7 = .ok (.iconst 0, 1) := by decide +kernel
theorem dX8_bestWith_8 : decode cX8_bestWith 8 = .ok (.istore 4, 2) := by decide +kernel
theorem dX8_bestWith_10 : decode cX8_bestWith 10 = .ok (.iconst (-1), 1) := by decide +kernel
theorem dX8_bestWith_11 : decode cX8_bestWith 11 = .ok (.istore 5, 2) := by decide +kernel
theorem dX8_bestWith_13 : decode cX8_bestWith 13 = .ok (.iconst 0, 1) := by decide +kernel
theorem dX8_bestWith_14 : decode cX8_bestWith 14 = .ok (.istore 6, 2) := by decide +kernel
theorem dX8_bestWith_16 : decode cX8_bestWith 16 = .ok (.iload 6, 2) := by decide +kernel
theorem dX8_bestWith_18 : decode cX8_bestWith 18 = .ok (.iload_n 2, 1) := by decide +kernel
theorem dX8_bestWith_19 : decode cX8_bestWith 19 = .ok (.if_icmp .ge 49, 3) := by decide +kernel
theorem dX8_bestWith_22 : decode cX8_bestWith 22 = .ok (.aload_n 0, 1) := by decide +kernel
theorem dX8_bestWith_23 : decode cX8_bestWith 23 = .ok (.getfield 9, 3) := by decide +kernel
theorem dX8_bestWith_26 : decode cX8_bestWith 26 = .ok (.iload_n 1, 1) := by decide +kernel
theorem dX8_bestWith_27 : decode cX8_bestWith 27 = .ok (.iload 6, 2) := by decide +kernel
theorem dX8_bestWith_29 : decode cX8_bestWith 29 = .ok (.iastore, 1) := by decide +kernel
theorem dX8_bestWith_30 : decode cX8_bestWith 30 = .ok (.aload_n 0, 1) := by decide +kernel
theorem dX8_bestWith_31 : decode cX8_bestWith 31 = .ok (.iconst 0, 1) := by decide +kernel
theorem dX8_bestWith_32 : decode cX8_bestWith 32 = .ok (.invokevirtual 191, 3) := by decide +kernel
theorem dX8_bestWith_35 : decode cX8_bestWith 35 = .ok (.istore 7, 2) := by decide +kernel
theorem dX8_bestWith_37 : decode cX8_bestWith 37 = .ok (.iload 7, 2) := by decide +kernel
theorem dX8_bestWith_39 : decode cX8_bestWith 39 = .ok (.iload 5, 2) := by decide +kernel
theorem dX8_bestWith_41 : decode cX8_bestWith 41 = .ok (.if_icmp .le 8, 3) := by decide +kernel
theorem dX8_bestWith_44 : decode cX8_bestWith 44 = .ok (.iload 6, 2) := by decide +kernel
theorem dX8_bestWith_46 : decode cX8_bestWith 46 = .ok (.goto 5, 3) := by decide +kernel
theorem dX8_bestWith_49 : decode cX8_bestWith 49 = .ok (.iload 4, 2) := by decide +kernel
theorem dX8_bestWith_51 : decode cX8_bestWith 51 = .ok (.istore 4, 2) := by decide +kernel
theorem dX8_bestWith_53 : decode cX8_bestWith 53 = .ok (.iload 5, 2) := by decide +kernel
theorem dX8_bestWith_55 : decode cX8_bestWith 55 = .ok (.iload 7, 2) := by decide +kernel
theorem dX8_bestWith_57 : decode cX8_bestWith 57 = .ok (.invokestatic 123, 3) := by decide +kernel
theorem dX8_bestWith_60 : decode cX8_bestWith 60 = .ok (.istore 5, 2) := by decide +kernel
theorem dX8_bestWith_62 : decode cX8_bestWith 62 = .ok (.iinc 6 1, 3) := by decide +kernel
theorem dX8_bestWith_65 : decode cX8_bestWith 65 = .ok (.goto (-49), 3) := by decide +kernel
theorem dX8_bestWith_68 : decode cX8_bestWith 68 = .ok (.aload_n 0, 1) := by decide +kernel
theorem dX8_bestWith_69 : decode cX8_bestWith 69 = .ok (.getfield 9, 3) := by decide +kernel
theorem dX8_bestWith_72 : decode cX8_bestWith 72 = .ok (.iload_n 1, 1) := by decide +kernel
theorem dX8_bestWith_73 : decode cX8_bestWith 73 = .ok (.iload_n 3, 1) := by decide +kernel
theorem dX8_bestWith_74 : decode cX8_bestWith 74 = .ok (.iastore, 1) := by decide +kernel
theorem dX8_bestWith_75 : decode cX8_bestWith 75 = .ok (.iload 4, 2) := by decide +kernel
theorem dX8_bestWith_77 : decode cX8_bestWith 77 = .ok (.ireturn, 1) := by decide +kernel
theorem dX8_recast_0 : decode cX8_recast 0 = .ok (.aload_n 0, 1) := by decide +kernel
theorem dX8_recast_1 : decode cX8_recast 1 = .ok (.iload_n 1, 1) := by decide +kernel
theorem dX8_recast_2 : decode cX8_recast 2 = .ok (.invokevirtual 99, 3) := by decide +kernel
theorem dX8_recast_5 : decode cX8_recast 5 = .ok (.ifCond .ne 10, 3) := by decide +kernel
theorem dX8_recast_8 : decode cX8_recast 8 = .ok (.aload_n 0, 1) := by decide +kernel
theorem dX8_recast_9 : decode cX8_recast 9 = .ok (.ldc 63, 2) := by decide +kernel
theorem dX8_recast_11 : decode cX8_recast 11 = .ok (.invokevirtual 80, 3) := by decide +kernel
theorem dX8_recast_14 : decode cX8_recast 14 = .ok (.ireturn, 1) := by decide +kernel
theorem dX8_recast_15 : decode cX8_recast 15 = .ok (.aload_n 0, 1) := by decide +kernel
theorem dX8_recast_16 : decode cX8_recast 16 = .ok (.iload_n 1, 1) := by decide +kernel
theorem dX8_recast_17 : decode cX8_recast 17 = .ok (.invokevirtual 182, 3) := by decide +kernel
theorem dX8_recast_20 : decode cX8_recast 20 = .ok (.ifCond .eq 18, 3) := by decide +kernel
theorem dX8_recast_23 : decode cX8_recast 23 = .ok (.aload_n 0, 1) := by decide +kernel
theorem dX8_recast_24 : decode cX8_recast 24 = .ok (.iload_n 1, 1) := by decide +kernel
theorem dX8_recast_25 : decode cX8_recast 25 = .ok (.iconst 1, 1) := by decide +kernel
theorem dX8_recast_26 : decode cX8_recast 26 = .ok (.invokestatic 72, 3) := by decide +kernel
theorem dX8_recast_29 : decode cX8_recast 29 = .ok (.sipush 256, 3) := by decide +kernel
theorem dX8_recast_32 : decode cX8_recast 32 = .ok (.invokevirtual 198, 3) := by decide +kernel
theorem dX8_recast_35 : decode cX8_recast 35 = .ok (.goto 9, 3) := by decide +kernel
theorem dX8_recast_38 : decode cX8_recast 38 = .ok (.aload_n 0, 1) := by decide +kernel
theorem dX8_recast_39 : decode cX8_recast 39 = .ok (.ldc 201, 2) := by decide +kernel
theorem dX8_recast_41 : decode cX8_recast 41 = .ok (.invokevirtual 80, 3) := by decide +kernel
theorem dX8_recast_44 : decode cX8_recast 44 = .ok (.ireturn, 1) := by decide +kernel
theorem dX8_kindFor_0 : decode cX8_kindFor 0 = .ok (.aload_n 0, 1) := by decide +kernel
theorem dX8_kindFor_1 : decode cX8_kindFor 1 = .ok (.iload_n 1, 1) := by decide +kernel
theorem dX8_kindFor_2 : decode cX8_kindFor 2 = .ok (.invokevirtual 99, 3) := by decide +kernel
theorem dX8_kindFor_5 : decode cX8_kindFor 5 = .ok (.ifCond .eq 17, 3) := by decide +kernel
theorem dX8_kindFor_8 : decode cX8_kindFor 8 = .ok (.aload_n 0, 1) := by decide +kernel
theorem dX8_kindFor_9 : decode cX8_kindFor 9 = .ok (.iload_n 1, 1) := by decide +kernel
theorem dX8_kindFor_10 : decode cX8_kindFor 10 = .ok (.iconst 0, 1) := by decide +kernel
theorem dX8_kindFor_11 : decode cX8_kindFor 11 = .ok (.invokestatic 72, 3) := by decide +kernel
theorem dX8_kindFor_14 : decode cX8_kindFor 14 = .ok (.bipush 7, 2) := by decide +kernel
theorem dX8_kindFor_16 : decode cX8_kindFor 16 = .ok (.invokevirtual 198, 3) := by decide +kernel
theorem dX8_kindFor_19 : decode cX8_kindFor 19 = .ok (.goto 9, 3) := by decide +kernel
theorem dX8_kindFor_22 : decode cX8_kindFor 22 = .ok (.aload_n 0, 1) := by decide +kernel
theorem dX8_kindFor_23 : decode cX8_kindFor 23 = .ok (.ldc 63, 2) := by decide +kernel
theorem dX8_kindFor_25 : decode cX8_kindFor 25 = .ok (.invokevirtual 80, 3) := by decide +kernel
theorem dX8_kindFor_28 : decode cX8_kindFor 28 = .ok (.ireturn, 1) := by decide +kernel
theorem dX8_isUnseen_0 : decode cX8_isUnseen 0 = .ok (.aload_n 0, 1) := by decide +kernel
theorem dX8_isUnseen_1 : decode cX8_isUnseen 1 = .ok (.getfield 9, 3) := by decide +kernel
theorem dX8_isUnseen_4 : decode cX8_isUnseen 4 = .ok (.aload_n 0, 1) := by decide +kernel
theorem dX8_isUnseen_5 : decode cX8_isUnseen 5 = .ok (.getfield 16, 3) := by decide +kernel
theorem dX8_isUnseen_8 : decode cX8_isUnseen 8 = .ok (.invokestatic 64, 3) := by decide +kernel
theorem dX8_isUnseen_11 : decode cX8_isUnseen 11 = .ok (.aload_n 0, 1) := by decide +kernel
theorem dX8_isUnseen_12 : decode cX8_isUnseen 12 = .ok (.iload_n 3, 1) := by decide +kernel
theorem dX8_isUnseen_13 : decode cX8_isUnseen 13 = .ok (.invokevirtual 164, 3) := by decide +kernel
theorem dX8_isUnseen_16 : decode cX8_isUnseen 16 = .ok (.aload_n 0, 1) := by decide +kernel
theorem dX8_isUnseen_17 : decode cX8_isUnseen 17 = .ok (.iload_n 1, 1) := by decide +kernel
theorem dX8_isUnseen_18 : decode cX8_isUnseen 18 = .ok (.iload_n 2, 1) := by decide +kernel
theorem dX8_isUnseen_19 : decode cX8_isUnseen 19 = .ok (.invokevirtual 168, 3) := by decide +kernel
theorem dX8_isUnseen_22 : decode cX8_isUnseen 22 = .ok (.aload_n 0, 1) := by decide +kernel
theorem dX8_isUnseen_23 : decode cX8_isUnseen 23 = .ok (.invokevirtual 175, 3) := by decide +kernel
theorem dX8_isUnseen_26 : decode cX8_isUnseen 26 = .ok (.iload 4, 2) := by decide +kernel
theorem dX8_isUnseen_28 : decode cX8_isUnseen 28 = .ok (.iand, 1) := by decide +kernel
theorem dX8_isUnseen_29 : decode cX8_isUnseen 29 = .ok (.ifCond .eq 10, 3) := by decide +kernel
theorem dX8_isUnseen_32 : decode cX8_isUnseen 32 = .ok (.aload_n 0, 1) := by decide +kernel
theorem dX8_isUnseen_33 : decode cX8_isUnseen 33 = .ok (.invokevirtual 161, 3) := by decide +kernel
theorem dX8_isUnseen_36 : decode cX8_isUnseen 36 = .ok (.goto (-14), 3) := by decide +kernel
theorem dX8_isUnseen_39 : decode cX8_isUnseen 39 = .ok (.iconst 1, 1) := by decide +kernel
theorem dX8_isUnseen_40 : decode cX8_isUnseen 40 = .ok (.istore 5, 2) := by decide +kernel
theorem dX8_isUnseen_42 : decode cX8_isUnseen 42 = .ok (.iconst 0, 1) := by decide +kernel
theorem dX8_isUnseen_43 : decode cX8_isUnseen 43 = .ok (.istore 6, 2) := by decide +kernel
theorem dX8_isUnseen_45 : decode cX8_isUnseen 45 = .ok (.iload 6, 2) := by decide +kernel
theorem dX8_isUnseen_47 : decode cX8_isUnseen 47 = .ok (.aload_n 0, 1) := by decide +kernel
theorem dX8_isUnseen_48 : decode cX8_isUnseen 48 = .ok (.getfield 9, 3) := by decide +kernel
theorem dX8_isUnseen_51 : decode cX8_isUnseen 51 = .ok (.iconst 3, 1) := by decide +kernel
theorem dX8_isUnseen_52 : decode cX8_isUnseen 52 = .ok (.iaload, 1) := by decide +kernel
theorem dX8_isUnseen_53 : decode cX8_isUnseen 53 = .ok (.if_icmp .ge 45, 3) := by decide +kernel
theorem dX8_isUnseen_56 : decode cX8_isUnseen 56 = .ok (.iload 5, 2) := by decide +kernel
theorem dX8_isUnseen_58 : decode cX8_isUnseen 58 = .ok (.ifCond .eq 31, 3) := by decide +kernel
theorem dX8_isUnseen_61 : decode cX8_isUnseen 61 = .ok (.iload 4, 2) := by decide +kernel
theorem dX8_isUnseen_63 : decode cX8_isUnseen 63 = .ok (.iload 6, 2) := by decide +kernel
theorem dX8_isUnseen_65 : decode cX8_isUnseen 65 = .ok (.invokestatic 120, 3) := by decide +kernel
theorem dX8_isUnseen_68 : decode cX8_isUnseen 68 = .ok (.ifCond .eq 17, 3) := by decide +kernel
theorem dX8_isUnseen_71 : decode cX8_isUnseen 71 = .ok (.aload_n 0, 1) := by decide +kernel
theorem dX8_isUnseen_72 : decode cX8_isUnseen 72 = .ok (.iload 6, 2) := by decide +kernel
theorem dX8_isUnseen_74 : decode cX8_isUnseen 74 = .ok (.iconst 2, 1) := by decide +kernel
theorem dX8_isUnseen_75 : decode cX8_isUnseen 75 = .ok (.invokevirtual 158, 3) := by decide +kernel
theorem dX8_isUnseen_78 : decode cX8_isUnseen 78 = .ok (.iload_n 1, 1) := by decide +kernel
theorem dX8_isUnseen_79 : decode cX8_isUnseen 79 = .ok (.invokestatic 120, 3) := by decide +kernel
theorem dX8_isUnseen_82 : decode cX8_isUnseen 82 = .ok (.ifCond .ne 7, 3) := by decide +kernel
theorem dX8_isUnseen_85 : decode cX8_isUnseen 85 = .ok (.iconst 1, 1) := by decide +kernel
theorem dX8_isUnseen_86 : decode cX8_isUnseen 86 = .ok (.goto 4, 3) := by decide +kernel
theorem dX8_isUnseen_89 : decode cX8_isUnseen 89 = .ok (.iconst 0, 1) := by decide +kernel
theorem dX8_isUnseen_90 : decode cX8_isUnseen 90 = .ok (.istore 5, 2) := by decide +kernel
theorem dX8_isUnseen_92 : decode cX8_isUnseen 92 = .ok (.iinc 6 1, 3) := by decide +kernel
theorem dX8_isUnseen_95 : decode cX8_isUnseen 95 = .ok (.goto (-50), 3) := by decide +kernel
theorem dX8_isUnseen_98 : decode cX8_isUnseen 98 = .ok (.aload_n 0, 1) := by decide +kernel
theorem dX8_isUnseen_99 : decode cX8_isUnseen 99 = .ok (.getfield 16, 3) := by decide +kernel
theorem dX8_isUnseen_102 : decode cX8_isUnseen 102 = .ok (.aload_n 0, 1) := by decide +kernel
theorem dX8_isUnseen_103 : decode cX8_isUnseen 103 = .ok (.getfield 9, 3) := by decide +kernel
theorem dX8_isUnseen_106 : decode cX8_isUnseen 106 = .ok (.invokestatic 64, 3) := by decide +kernel
theorem dX8_isUnseen_109 : decode cX8_isUnseen 109 = .ok (.iload 5, 2) := by decide +kernel
theorem dX8_isUnseen_111 : decode cX8_isUnseen 111 = .ok (.ireturn, 1) := by decide +kernel
theorem dX8_whoCount_0 : decode cX8_whoCount 0 = .ok (.aload_n 0, 1) := by decide +kernel
theorem dX8_whoCount_1 : decode cX8_whoCount 1 = .ok (.invokevirtual 175, 3) := by decide +kernel
theorem dX8_whoCount_4 : decode cX8_whoCount 4 = .ok (.istore_n 2, 1) := by decide +kernel
theorem dX8_whoCount_5 : decode cX8_whoCount 5 = .ok (.iconst 0, 1) := by decide +kernel
theorem dX8_whoCount_6 : decode cX8_whoCount 6 = .ok (.istore_n 3, 1) := by decide +kernel
theorem dX8_whoCount_7 : decode cX8_whoCount 7 = .ok (.iload_n 3, 1) := by decide +kernel
theorem dX8_whoCount_8 : decode cX8_whoCount 8 = .ok (.aload_n 0, 1) := by decide +kernel
theorem dX8_whoCount_9 : decode cX8_whoCount 9 = .ok (.getfield 9, 3) := by decide +kernel
theorem dX8_whoCount_12 : decode cX8_whoCount 12 = .ok (.iconst 3, 1) := by decide +kernel
theorem dX8_whoCount_13 : decode cX8_whoCount 13 = .ok (.iaload, 1) := by decide +kernel
theorem dX8_whoCount_14 : decode cX8_whoCount 14 = .ok (.if_icmp .ge 34, 3) := by decide +kernel
theorem dX8_whoCount_17 : decode cX8_whoCount 17 = .ok (.iload_n 2, 1) := by decide +kernel
theorem dX8_whoCount_18 : decode cX8_whoCount 18 = .ok (.aload_n 0, 1) := by decide +kernel
theorem dX8_whoCount_19 : decode cX8_whoCount 19 = .ok (.iload_n 3, 1) := by decide +kernel
theorem dX8_whoCount_20 : decode cX8_whoCount 20 = .ok (.iconst 2, 1) := by decide +kernel
theorem dX8_whoCount_21 : decode cX8_whoCount 21 = .ok (.invokevirtual 158, 3) := by decide +kernel
theorem dX8_whoCount_24 : decode cX8_whoCount 24 = .ok (.iload_n 1, 1) := by decide +kernel
theorem dX8_whoCount_25 : decode cX8_whoCount 25 = .ok (.invokestatic 120, 3) := by decide +kernel
theorem dX8_whoCount_28 : decode cX8_whoCount 28 = .ok (.ifCond .eq 11, 3) := by decide +kernel
theorem dX8_whoCount_31 : decode cX8_whoCount 31 = .ok (.iconst 1, 1) := by decide +kernel
theorem dX8_whoCount_32 : decode cX8_whoCount 32 = .ok (.iload_n 3, 1) := by decide +kernel
theorem dX8_whoCount_33 : decode cX8_whoCount 33 = .ok (.ishl, 1) := by decide +kernel
theorem dX8_whoCount_34 : decode cX8_whoCount 34 = .ok (.iconst (-1), 1) := by decide +kernel
theorem dX8_whoCount_35 : decode cX8_whoCount 35 = .ok (.ixor, 1) := by decide +kernel
theorem dX8_whoCount_36 : decode cX8_whoCount 36 = .ok (.goto 4, 3) := by decide +kernel
theorem dX8_whoCount_39 : decode cX8_whoCount 39 = .ok (.iconst (-1), 1) := by decide +kernel
theorem dX8_whoCount_40 : decode cX8_whoCount 40 = .ok (.iand, 1) := by decide +kernel
theorem dX8_whoCount_41 : decode cX8_whoCount 41 = .ok (.istore_n 2, 1) := by decide +kernel
theorem dX8_whoCount_42 : decode cX8_whoCount 42 = .ok (.iinc 3 1, 3) := by decide +kernel
theorem dX8_whoCount_45 : decode cX8_whoCount 45 = .ok (.goto (-38), 3) := by decide +kernel
theorem dX8_whoCount_48 : decode cX8_whoCount 48 = .ok (.iload_n 2, 1) := by decide +kernel
theorem dX8_whoCount_49 : decode cX8_whoCount 49 = .ok (.ireturn, 1) := by decide +kernel
theorem dX8_unseen_0 : decode cX8_unseen 0 = .ok (.aload_n 0, 1) := by decide +kernel
theorem dX8_unseen_1 : decode cX8_unseen 1 = .ok (.iload_n 1, 1) := by decide +kernel
theorem dX8_unseen_2 : decode cX8_unseen 2 = .ok (.invokevirtual 99, 3) := by decide +kernel
theorem dX8_unseen_5 : decode cX8_unseen 5 = .ok (.ifCond .eq 10, 3) := by decide +kernel
theorem dX8_unseen_8 : decode cX8_unseen 8 = .ok (.iload_n 2, 1) := by decide +kernel
theorem dX8_unseen_9 : decode cX8_unseen 9 = .ok (.invokestatic 105, 3) := by decide +kernel
theorem dX8_unseen_12 : decode cX8_unseen 12 = .ok (.ifCond .ne 10, 3) := by decide +kernel
theorem dX8_unseen_15 : decode cX8_unseen 15 = .ok (.aload_n 0, 1) := by decide +kernel
theorem dX8_unseen_16 : decode cX8_unseen 16 = .ok (.ldc 63, 2) := by decide +kernel
theorem dX8_unseen_18 : decode cX8_unseen 18 = .ok (.invokevirtual 80, 3) := by decide +kernel
theorem dX8_unseen_21 : decode cX8_unseen 21 = .ok (.ireturn, 1) := by decide +kernel
theorem dX8_unseen_22 : decode cX8_unseen 22 = .ok (.aload_n 0, 1) := by decide +kernel
theorem dX8_unseen_23 : decode cX8_unseen 23 = .ok (.iload_n 1, 1) := by decide +kernel
theorem dX8_unseen_24 : decode cX8_unseen 24 = .ok (.iconst 3, 1) := by decide +kernel
theorem dX8_unseen_25 : decode cX8_unseen 25 = .ok (.invokevirtual 92, 3) := by decide +kernel
theorem dX8_unseen_28 : decode cX8_unseen 28 = .ok (.iload_n 2, 1) := by decide +kernel
theorem dX8_unseen_29 : decode cX8_unseen 29 = .ok (.if_icmp .eq 15, 3) := by decide +kernel
theorem dX8_unseen_32 : decode cX8_unseen 32 = .ok (.aload_n 0, 1) := by decide +kernel
theorem dX8_unseen_33 : decode cX8_unseen 33 = .ok (.getfield 9, 3) := by decide +kernel
theorem dX8_unseen_36 : decode cX8_unseen 36 = .ok (.iconst 0, 1) := by decide +kernel
theorem dX8_unseen_37 : decode cX8_unseen 37 = .ok (.iaload, 1) := by decide +kernel
theorem dX8_unseen_38 : decode cX8_unseen 38 = .ok (.sipush 9000, 3) := by decide +kernel
theorem dX8_unseen_41 : decode cX8_unseen 41 = .ok (.if_icmp .le 10, 3) := by decide +kernel
theorem dX8_unseen_44 : decode cX8_unseen 44 = .ok (.aload_n 0, 1) := by decide +kernel
theorem dX8_unseen_45 : decode cX8_unseen 45 = .ok (.ldc 150, 2) := by decide +kernel
theorem dX8_unseen_47 : decode cX8_unseen 47 = .ok (.invokevirtual 80, 3) := by decide +kernel
theorem dX8_unseen_50 : decode cX8_unseen 50 = .ok (.ireturn, 1) := by decide +kernel
theorem dX8_unseen_51 : decode cX8_unseen 51 = .ok (.aload_n 0, 1) := by decide +kernel
theorem dX8_unseen_52 : decode cX8_unseen 52 = .ok (.iload_n 1, 1) := by decide +kernel
theorem dX8_unseen_53 : decode cX8_unseen 53 = .ok (.invokevirtual 202, 3) := by decide +kernel
theorem dX8_unseen_56 : decode cX8_unseen 56 = .ok (.istore_n 3, 1) := by decide +kernel
theorem dX8_unseen_57 : decode cX8_unseen 57 = .ok (.iconst 0, 1) := by decide +kernel
theorem dX8_unseen_58 : decode cX8_unseen 58 = .ok (.istore 4, 2) := by decide +kernel
theorem dX8_unseen_60 : decode cX8_unseen 60 = .ok (.iload 4, 2) := by decide +kernel
theorem dX8_unseen_62 : decode cX8_unseen 62 = .ok (.bipush 60, 2) := by decide +kernel
theorem dX8_unseen_64 : decode cX8_unseen 64 = .ok (.if_icmp .gt 21, 3) := by decide +kernel
theorem dX8_unseen_67 : decode cX8_unseen 67 = .ok (.aload_n 0, 1) := by decide +kernel
theorem dX8_unseen_68 : decode cX8_unseen 68 = .ok (.iload_n 1, 1) := by decide +kernel
theorem dX8_unseen_69 : decode cX8_unseen 69 = .ok (.iload_n 2, 1) := by decide +kernel
theorem dX8_unseen_70 : decode cX8_unseen 70 = .ok (.iload 4, 2) := by decide +kernel
theorem dX8_unseen_72 : decode cX8_unseen 72 = .ok (.iload_n 3, 1) := by decide +kernel
theorem dX8_unseen_73 : decode cX8_unseen 73 = .ok (.invokevirtual 205, 3) := by decide +kernel
theorem dX8_unseen_76 : decode cX8_unseen 76 = .ok (.ifCond .ne 9, 3) := by decide +kernel
theorem dX8_unseen_79 : decode cX8_unseen 79 = .ok (.iinc 4 1, 3) := by decide +kernel
theorem dX8_unseen_82 : decode cX8_unseen 82 = .ok (.goto (-22), 3) := by decide +kernel
theorem dX8_unseen_85 : decode cX8_unseen 85 = .ok (.iload 4, 2) := by decide +kernel
theorem dX8_unseen_87 : decode cX8_unseen 87 = .ok (.bipush 60, 2) := by decide +kernel
theorem dX8_unseen_89 : decode cX8_unseen 89 = .ok (.if_icmp .le 12, 3) := by decide +kernel
theorem dX8_unseen_92 : decode cX8_unseen 92 = .ok (.aload_n 0, 1) := by decide +kernel
theorem dX8_unseen_93 : decode cX8_unseen 93 = .ok (.ldc 197, 2) := by decide +kernel
theorem dX8_unseen_95 : decode cX8_unseen 95 = .ok (.invokevirtual 80, 3) := by decide +kernel
theorem dX8_unseen_98 : decode cX8_unseen 98 = .ok (.goto 5, 3) := by decide +kernel
theorem dX8_unseen_101 : decode cX8_unseen 101 = .ok (.iload 4, 2) := by decide +kernel
theorem dX8_unseen_103 : decode cX8_unseen 103 = .ok (.ireturn, 1) := by decide +kernel
theorem dX8_hidden_0 : decode cX8_hidden 0 = .ok (.iload_n 1, 1) := by decide +kernel
theorem dX8_hidden_1 : decode cX8_hidden 1 = .ok (.invokestatic 105, 3) := by decide +kernel
theorem dX8_hidden_4 : decode cX8_hidden 4 = .ok (.ifCond .ne 10, 3) := by decide +kernel
theorem dX8_hidden_7 : decode cX8_hidden 7 = .ok (.aload_n 0, 1) := by decide +kernel
theorem dX8_hidden_8 : decode cX8_hidden 8 = .ok (.ldc 63, 2) := by decide +kernel
theorem dX8_hidden_10 : decode cX8_hidden 10 = .ok (.invokevirtual 80, 3) := by decide +kernel
theorem dX8_hidden_13 : decode cX8_hidden 13 = .ok (.ireturn, 1) := by decide +kernel
theorem dX8_hidden_14 : decode cX8_hidden 14 = .ok (.aload_n 0, 1) := by decide +kernel
theorem dX8_hidden_15 : decode cX8_hidden 15 = .ok (.getfield 9, 3) := by decide +kernel
theorem dX8_hidden_18 : decode cX8_hidden 18 = .ok (.iconst 0, 1) := by decide +kernel
theorem dX8_hidden_19 : decode cX8_hidden 19 = .ok (.iaload, 1) := by decide +kernel
theorem dX8_hidden_20 : decode cX8_hidden 20 = .ok (.sipush 9000, 3) := by decide +kernel
theorem dX8_hidden_23 : decode cX8_hidden 23 = .ok (.if_icmp .le 10, 3) := by decide +kernel
theorem dX8_hidden_26 : decode cX8_hidden 26 = .ok (.aload_n 0, 1) := by decide +kernel
theorem dX8_hidden_27 : decode cX8_hidden 27 = .ok (.ldc 150, 2) := by decide +kernel
theorem dX8_hidden_29 : decode cX8_hidden 29 = .ok (.invokevirtual 80, 3) := by decide +kernel
theorem dX8_hidden_32 : decode cX8_hidden 32 = .ok (.ireturn, 1) := by decide +kernel
theorem dX8_hidden_33 : decode cX8_hidden 33 = .ok (.iconst 0, 1) := by decide +kernel
theorem dX8_hidden_34 : decode cX8_hidden 34 = .ok (.istore_n 2, 1) := by decide +kernel
theorem dX8_hidden_35 : decode cX8_hidden 35 = .ok (.iconst 0, 1) := by decide +kernel
theorem dX8_hidden_36 : decode cX8_hidden 36 = .ok (.istore_n 3, 1) := by decide +kernel
theorem dX8_hidden_37 : decode cX8_hidden 37 = .ok (.iload_n 3, 1) := by decide +kernel
theorem dX8_hidden_38 : decode cX8_hidden 38 = .ok (.aload_n 0, 1) := by decide +kernel
theorem dX8_hidden_39 : decode cX8_hidden 39 = .ok (.getfield 9, 3) := by decide +kernel
theorem dX8_hidden_42 : decode cX8_hidden 42 = .ok (.iconst 2, 1) := by decide +kernel
theorem dX8_hidden_43 : decode cX8_hidden 43 = .ok (.iaload, 1) := by decide +kernel
theorem dX8_hidden_44 : decode cX8_hidden 44 = .ok (.if_icmp .ge 44, 3) := by decide +kernel
theorem dX8_hidden_47 : decode cX8_hidden 47 = .ok (.iload_n 2, 1) := by decide +kernel
theorem dX8_hidden_48 : decode cX8_hidden 48 = .ok (.aload_n 0, 1) := by decide +kernel
theorem dX8_hidden_49 : decode cX8_hidden 49 = .ok (.iload_n 3, 1) := by decide +kernel
theorem dX8_hidden_50 : decode cX8_hidden 50 = .ok (.iconst 3, 1) := by decide +kernel
theorem dX8_hidden_51 : decode cX8_hidden 51 = .ok (.invokevirtual 92, 3) := by decide +kernel
theorem dX8_hidden_54 : decode cX8_hidden 54 = .ok (.iload_n 1, 1) := by decide +kernel
theorem dX8_hidden_55 : decode cX8_hidden 55 = .ok (.if_icmp .eq 24, 3) := by decide +kernel
theorem dX8_hidden_58 : decode cX8_hidden 58 = .ok (.aload_n 0, 1) := by decide +kernel
theorem dX8_hidden_59 : decode cX8_hidden 59 = .ok (.iload_n 3, 1) := by decide +kernel
theorem dX8_hidden_60 : decode cX8_hidden 60 = .ok (.iload_n 1, 1) := by decide +kernel
theorem dX8_hidden_61 : decode cX8_hidden 61 = .ok (.iconst 0, 1) := by decide +kernel
theorem dX8_hidden_62 : decode cX8_hidden 62 = .ok (.aload_n 0, 1) := by decide +kernel
theorem dX8_hidden_63 : decode cX8_hidden 63 = .ok (.iload_n 3, 1) := by decide +kernel
theorem dX8_hidden_64 : decode cX8_hidden 64 = .ok (.invokevirtual 202, 3) := by decide +kernel
theorem dX8_hidden_67 : decode cX8_hidden 67 = .ok (.invokevirtual 205, 3) := by decide +kernel
theorem dX8_hidden_70 : decode cX8_hidden 70 = .ok (.ifCond .eq 9, 3) := by decide +kernel
theorem dX8_hidden_73 : decode cX8_hidden 73 = .ok (.iconst 1, 1) := by decide +kernel
theorem dX8_hidden_74 : decode cX8_hidden 74 = .ok (.iload_n 3, 1) := by decide +kernel
theorem dX8_hidden_75 : decode cX8_hidden 75 = .ok (.ishl, 1) := by decide +kernel
theorem dX8_hidden_76 : decode cX8_hidden 76 = .ok (.goto 4, 3) := by decide +kernel
theorem dX8_hidden_79 : decode cX8_hidden 79 = .ok (.iconst 0, 1) := by decide +kernel
theorem dX8_hidden_80 : decode cX8_hidden 80 = .ok (.ior, 1) := by decide +kernel
theorem dX8_hidden_81 : decode cX8_hidden 81 = .ok (.istore_n 2, 1) := by decide +kernel
theorem dX8_hidden_82 : decode cX8_hidden 82 = .ok (.iinc 3 1, 3) := by decide +kernel
theorem dX8_hidden_85 : decode cX8_hidden 85 = .ok (.goto (-48), 3) := by decide +kernel
theorem dX8_hidden_88 : decode cX8_hidden 88 = .ok (.iload_n 2, 1) := by decide +kernel
theorem dX8_hidden_89 : decode cX8_hidden 89 = .ok (.ireturn, 1) := by decide +kernel
theorem dX8_empty_0 : decode cX8_empty 0 = .ok (.iconst 0, 1) := by decide +kernel
theorem dX8_empty_1 : decode cX8_empty 1 = .ok (.istore_n 1, 1) := by decide +kernel
theorem dX8_empty_2 : decode cX8_empty 2 = .ok (.iconst 0, 1) := by decide +kernel
theorem dX8_empty_3 : decode cX8_empty 3 = .ok (.istore_n 2, 1) := by decide +kernel
theorem dX8_empty_4 : decode cX8_empty 4 = .ok (.iload_n 2, 1) := by decide +kernel
theorem dX8_empty_5 : decode cX8_empty 5 = .ok (.aload_n 0, 1) := by decide +kernel
theorem dX8_empty_6 : decode cX8_empty 6 = .ok (.getfield 9, 3) := by decide +kernel
theorem dX8_empty_9 : decode cX8_empty 9 = .ok (.iconst 3, 1) := by decide +kernel
theorem dX8_empty_10 : decode cX8_empty 10 = .ok (.iaload, 1) := by decide +kernel
theorem dX8_empty_11 : decode cX8_empty 11 = .ok (.if_icmp .ge 40, 3) := by decide +kernel
theorem dX8_empty_14 : decode cX8_empty 14 = .ok (.iload_n 1, 1) := by decide +kernel
theorem dX8_empty_15 : decode cX8_empty 15 = .ok (.aload_n 0, 1) := by decide +kernel
theorem dX8_empty_16 : decode cX8_empty 16 = .ok (.getfield 9, 3) := by decide +kernel
theorem dX8_empty_19 : decode cX8_empty 19 = .ok (.bipush 73, 2) := by decide +kernel
theorem dX8_empty_21 : decode cX8_empty 21 = .ok (.iload_n 2, 1) := by decide +kernel
theorem dX8_empty_22 : decode cX8_empty 22 = .ok (.iadd, 1) := by decide +kernel
theorem dX8_empty_23 : decode cX8_empty 23 = .ok (.iaload, 1) := by decide +kernel
theorem dX8_empty_24 : decode cX8_empty 24 = .ok (.bipush 6, 2) := by decide +kernel
theorem dX8_empty_26 : decode cX8_empty 26 = .ok (.aload_n 0, 1) := by decide +kernel
theorem dX8_empty_27 : decode cX8_empty 27 = .ok (.getfield 9, 3) := by decide +kernel
theorem dX8_empty_30 : decode cX8_empty 30 = .ok (.iconst 1, 1) := by decide +kernel
theorem dX8_empty_31 : decode cX8_empty 31 = .ok (.iaload, 1) := by decide +kernel
theorem dX8_empty_32 : decode cX8_empty 32 = .ok (.imul, 1) := by decide +kernel
theorem dX8_empty_33 : decode cX8_empty 33 = .ok (.iadd, 1) := by decide +kernel
theorem dX8_empty_34 : decode cX8_empty 34 = .ok (.aload_n 0, 1) := by decide +kernel
theorem dX8_empty_35 : decode cX8_empty 35 = .ok (.getfield 9, 3) := by decide +kernel
theorem dX8_empty_38 : decode cX8_empty 38 = .ok (.iconst 0, 1) := by decide +kernel
theorem dX8_empty_39 : decode cX8_empty 39 = .ok (.iaload, 1) := by decide +kernel
theorem dX8_empty_40 : decode cX8_empty 40 = .ok (.isub, 1) := by decide +kernel
theorem dX8_empty_41 : decode cX8_empty 41 = .ok (.invokestatic 123, 3) := by decide +kernel
theorem dX8_empty_44 : decode cX8_empty 44 = .ok (.istore_n 1, 1) := by decide +kernel
theorem dX8_empty_45 : decode cX8_empty 45 = .ok (.iinc 2 1, 3) := by decide +kernel
theorem dX8_empty_48 : decode cX8_empty 48 = .ok (.goto (-44), 3) := by decide +kernel
theorem dX8_empty_51 : decode cX8_empty 51 = .ok (.iload_n 1, 1) := by decide +kernel
theorem dX8_empty_52 : decode cX8_empty 52 = .ok (.ireturn, 1) := by decide +kernel
theorem dX8_chances_0 : decode cX8_chances 0 = .ok (.iconst 0, 1) := by decide +kernel
theorem dX8_chances_1 : decode cX8_chances 1 = .ok (.istore_n 1, 1) := by decide +kernel
theorem dX8_chances_2 : decode cX8_chances 2 = .ok (.iconst 0, 1) := by decide +kernel
theorem dX8_chances_3 : decode cX8_chances 3 = .ok (.istore_n 2, 1) := by decide +kernel
theorem dX8_chances_4 : decode cX8_chances 4 = .ok (.iload_n 2, 1) := by decide +kernel
theorem dX8_chances_5 : decode cX8_chances 5 = .ok (.bipush 6, 2) := by decide +kernel
theorem dX8_chances_7 : decode cX8_chances 7 = .ok (.if_icmp .ge 21, 3) := by decide +kernel
theorem dX8_chances_10 : decode cX8_chances 10 = .ok (.iload_n 1, 1) := by decide +kernel
theorem dX8_chances_11 : decode cX8_chances 11 = .ok (.aload_n 0, 1) := by decide +kernel
theorem dX8_chances_12 : decode cX8_chances 12 = .ok (.getfield 9, 3) := by decide +kernel
theorem dX8_chances_15 : decode cX8_chances 15 = .ok (.bipush 21, 2) := by decide +kernel
theorem dX8_chances_17 : decode cX8_chances 17 = .ok (.iload_n 2, 1) := by decide +kernel
theorem dX8_chances_18 : decode cX8_chances 18 = .ok (.iadd, 1) := by decide +kernel
theorem dX8_chances_19 : decode cX8_chances 19 = .ok (.iaload, 1) := by decide +kernel
theorem dX8_chances_20 : decode cX8_chances 20 = .ok (.iadd, 1) := by decide +kernel
theorem dX8_chances_21 : decode cX8_chances 21 = .ok (.istore_n 1, 1) := by decide +kernel
theorem dX8_chances_22 : decode cX8_chances 22 = .ok (.iinc 2 1, 3) := by decide +kernel
theorem dX8_chances_25 : decode cX8_chances 25 = .ok (.goto (-21), 3) := by decide +kernel
theorem dX8_chances_28 : decode cX8_chances 28 = .ok (.iload_n 1, 1) := by decide +kernel
theorem dX8_chances_29 : decode cX8_chances 29 = .ok (.ireturn, 1) := by decide +kernel
theorem dX8_onTheWhole_0 : decode cX8_onTheWhole 0 = .ok (.iconst 0, 1) := by decide +kernel
theorem dX8_onTheWhole_1 : decode cX8_onTheWhole 1 = .ok (.istore_n 2, 1) := by decide +kernel
theorem dX8_onTheWhole_2 : decode cX8_onTheWhole 2 = .ok (.iconst 0, 1) := by decide +kernel
theorem dX8_onTheWhole_3 : decode cX8_onTheWhole 3 = .ok (.istore_n 3, 1) := by decide +kernel
theorem dX8_onTheWhole_4 : decode cX8_onTheWhole 4 = .ok (.iload_n 3, 1) := by decide +kernel
theorem dX8_onTheWhole_5 : decode cX8_onTheWhole 5 = .ok (.bipush 6, 2) := by decide +kernel
theorem dX8_onTheWhole_7 : decode cX8_onTheWhole 7 = .ok (.if_icmp .ge 36, 3) := by decide +kernel
theorem dX8_onTheWhole_10 : decode cX8_onTheWhole 10 = .ok (.iload_n 2, 1) := by decide +kernel
theorem dX8_onTheWhole_11 : decode cX8_onTheWhole 11 = .ok (.aload_n 0, 1) := by decide +kernel
theorem dX8_onTheWhole_12 : decode cX8_onTheWhole 12 = .ok (.getfield 9, 3) := by decide +kernel
theorem dX8_onTheWhole_15 : decode cX8_onTheWhole 15 = .ok (.bipush 21, 2) := by decide +kernel
theorem dX8_onTheWhole_17 : decode cX8_onTheWhole 17 = .ok (.iload_n 3, 1) := by decide +kernel
theorem dX8_onTheWhole_18 : decode cX8_onTheWhole 18 = .ok (.iadd, 1) := by decide +kernel
theorem dX8_onTheWhole_19 : decode cX8_onTheWhole 19 = .ok (.iaload, 1) := by decide +kernel
theorem dX8_onTheWhole_20 : decode cX8_onTheWhole 20 = .ok (.iconst 1, 1) := by decide +kernel
theorem dX8_onTheWhole_21 : decode cX8_onTheWhole 21 = .ok (.iload_n 1, 1) := by decide +kernel
theorem dX8_onTheWhole_22 : decode cX8_onTheWhole 22 = .ok (.aload_n 0, 1) := by decide +kernel
theorem dX8_onTheWhole_23 : decode cX8_onTheWhole 23 = .ok (.getfield 9, 3) := by decide +kernel
theorem dX8_onTheWhole_26 : decode cX8_onTheWhole 26 = .ok (.bipush 15, 2) := by decide +kernel
theorem dX8_onTheWhole_28 : decode cX8_onTheWhole 28 = .ok (.iload_n 3, 1) := by decide +kernel
theorem dX8_onTheWhole_29 : decode cX8_onTheWhole 29 = .ok (.iadd, 1) := by decide +kernel
theorem dX8_onTheWhole_30 : decode cX8_onTheWhole 30 = .ok (.iaload, 1) := by decide +kernel
theorem dX8_onTheWhole_31 : decode cX8_onTheWhole 31 = .ok (.invokestatic 128, 3) := by decide +kernel
theorem dX8_onTheWhole_34 : decode cX8_onTheWhole 34 = .ok (.imul, 1) := by decide +kernel
theorem dX8_onTheWhole_35 : decode cX8_onTheWhole 35 = .ok (.iadd, 1) := by decide +kernel
theorem dX8_onTheWhole_36 : decode cX8_onTheWhole 36 = .ok (.istore_n 2, 1) := by decide +kernel
theorem dX8_onTheWhole_37 : decode cX8_onTheWhole 37 = .ok (.iinc 3 1, 3) := by decide +kernel
theorem dX8_onTheWhole_40 : decode cX8_onTheWhole 40 = .ok (.goto (-36), 3) := by decide +kernel
theorem dX8_onTheWhole_43 : decode cX8_onTheWhole 43 = .ok (.iload_n 2, 1) := by decide +kernel
theorem dX8_onTheWhole_44 : decode cX8_onTheWhole 44 = .ok (.ireturn, 1) := by decide +kernel
theorem dX8_common_0 : decode cX8_common 0 = .ok (.iload_n 0, 1) := by decide +kernel
theorem dX8_common_1 : decode cX8_common 1 = .ok (.istore_n 2, 1) := by decide +kernel
theorem dX8_common_2 : decode cX8_common 2 = .ok (.iload_n 1, 1) := by decide +kernel
theorem dX8_common_3 : decode cX8_common 3 = .ok (.istore_n 3, 1) := by decide +kernel
theorem dX8_common_4 : decode cX8_common 4 = .ok (.iload_n 3, 1) := by decide +kernel
theorem dX8_common_5 : decode cX8_common 5 = .ok (.ifCond .eq 16, 3) := by decide +kernel
theorem dX8_common_8 : decode cX8_common 8 = .ok (.iload_n 2, 1) := by decide +kernel
theorem dX8_common_9 : decode cX8_common 9 = .ok (.iload_n 3, 1) := by decide +kernel
theorem dX8_common_10 : decode cX8_common 10 = .ok (.irem, 1) := by decide +kernel
theorem dX8_common_11 : decode cX8_common 11 = .ok (.istore 4, 2) := by decide +kernel
theorem dX8_common_13 : decode cX8_common 13 = .ok (.iload_n 3, 1) := by decide +kernel
theorem dX8_common_14 : decode cX8_common 14 = .ok (.istore_n 2, 1) := by decide +kernel
theorem dX8_common_15 : decode cX8_common 15 = .ok (.iload 4, 2) := by decide +kernel
theorem dX8_common_17 : decode cX8_common 17 = .ok (.istore_n 3, 1) := by decide +kernel
theorem dX8_common_18 : decode cX8_common 18 = .ok (.goto (-14), 3) := by decide +kernel
theorem dX8_common_21 : decode cX8_common 21 = .ok (.iload_n 2, 1) := by decide +kernel
theorem dX8_common_22 : decode cX8_common 22 = .ok (.ireturn, 1) := by decide +kernel
theorem dX8_worth_0 : decode cX8_worth 0 = .ok (.iload_n 1, 1) := by decide +kernel
theorem dX8_worth_1 : decode cX8_worth 1 = .ok (.invokestatic 102, 3) := by decide +kernel
theorem dX8_worth_4 : decode cX8_worth 4 = .ok (.ifCond .eq 12, 3) := by decide +kernel
theorem dX8_worth_7 : decode cX8_worth 7 = .ok (.iload_n 2, 1) := by decide +kernel
theorem dX8_worth_8 : decode cX8_worth 8 = .ok (.iconst 0, 1) := by decide +kernel
theorem dX8_worth_9 : decode cX8_worth 9 = .ok (.iconst 1, 1) := by decide +kernel
theorem dX8_worth_10 : decode cX8_worth 10 = .ok (.invokestatic 68, 3) := by decide +kernel
theorem dX8_worth_13 : decode cX8_worth 13 = .ok (.ifCond .ne 10, 3) := by decide +kernel
theorem dX8_worth_16 : decode cX8_worth 16 = .ok (.aload_n 0, 1) := by decide +kernel
theorem dX8_worth_17 : decode cX8_worth 17 = .ok (.ldc 63, 2) := by decide +kernel
theorem dX8_worth_19 : decode cX8_worth 19 = .ok (.invokevirtual 80, 3) := by decide +kernel
theorem dX8_worth_22 : decode cX8_worth 22 = .ok (.ireturn, 1) := by decide +kernel
theorem dX8_worth_23 : decode cX8_worth 23 = .ok (.aload_n 0, 1) := by decide +kernel
theorem dX8_worth_24 : decode cX8_worth 24 = .ok (.invokevirtual 209, 3) := by decide +kernel
theorem dX8_worth_27 : decode cX8_worth 27 = .ok (.istore_n 3, 1) := by decide +kernel
theorem dX8_worth_28 : decode cX8_worth 28 = .ok (.iload_n 3, 1) := by decide +kernel
theorem dX8_worth_29 : decode cX8_worth 29 = .ok (.ifCond .ne 10, 3) := by decide +kernel
theorem dX8_worth_32 : decode cX8_worth 32 = .ok (.aload_n 0, 1) := by decide +kernel
theorem dX8_worth_33 : decode cX8_worth 33 = .ok (.ldc 197, 2) := by decide +kernel
theorem dX8_worth_35 : decode cX8_worth 35 = .ok (.invokevirtual 80, 3) := by decide +kernel
theorem dX8_worth_38 : decode cX8_worth 38 = .ok (.ireturn, 1) := by decide +kernel
theorem dX8_worth_39 : decode cX8_worth 39 = .ok (.aload_n 0, 1) := by decide +kernel
theorem dX8_worth_40 : decode cX8_worth 40 = .ok (.iload_n 1, 1) := by decide +kernel
theorem dX8_worth_41 : decode cX8_worth 41 = .ok (.invokevirtual 212, 3) := by decide +kernel
theorem dX8_worth_44 : decode cX8_worth 44 = .ok (.istore 4, 2) := by decide +kernel
theorem dX8_worth_46 : decode cX8_worth 46 = .ok (.iload 4, 2) := by decide +kernel
theorem dX8_worth_48 : decode cX8_worth 48 = .ok (.iload_n 3, 1) := by decide +kernel
theorem dX8_worth_49 : decode cX8_worth 49 = .ok (.invokestatic 215, 3) := by decide +kernel
theorem dX8_worth_52 : decode cX8_worth 52 = .ok (.istore 5, 2) := by decide +kernel
theorem dX8_worth_54 : decode cX8_worth 54 = .ok (.iload_n 2, 1) := by decide +kernel
theorem dX8_worth_55 : decode cX8_worth 55 = .ok (.ifCond .ne 11, 3) := by decide +kernel
theorem dX8_worth_58 : decode cX8_worth 58 = .ok (.iload 4, 2) := by decide +kernel
theorem dX8_worth_60 : decode cX8_worth 60 = .ok (.iload 5, 2) := by decide +kernel
theorem dX8_worth_62 : decode cX8_worth 62 = .ok (.idiv, 1) := by decide +kernel
theorem dX8_worth_63 : decode cX8_worth 63 = .ok (.goto 7, 3) := by decide +kernel
theorem dX8_worth_66 : decode cX8_worth 66 = .ok (.iload_n 3, 1) := by decide +kernel
theorem dX8_worth_67 : decode cX8_worth 67 = .ok (.iload 5, 2) := by decide +kernel
theorem dX8_worth_69 : decode cX8_worth 69 = .ok (.idiv, 1) := by decide +kernel
theorem dX8_worth_70 : decode cX8_worth 70 = .ok (.ireturn, 1) := by decide +kernel
theorem dX8_next_0 : decode cX8_next 0 = .ok (.aload_n 0, 1) := by decide +kernel
theorem dX8_next_1 : decode cX8_next 1 = .ok (.invokevirtual 209, 3) := by decide +kernel
theorem dX8_next_4 : decode cX8_next 4 = .ok (.ifCond .ne 10, 3) := by decide +kernel
theorem dX8_next_7 : decode cX8_next 7 = .ok (.aload_n 0, 1) := by decide +kernel
theorem dX8_next_8 : decode cX8_next 8 = .ok (.ldc 197, 2) := by decide +kernel
theorem dX8_next_10 : decode cX8_next 10 = .ok (.invokevirtual 80, 3) := by decide +kernel
theorem dX8_next_13 : decode cX8_next 13 = .ok (.ireturn, 1) := by decide +kernel
theorem dX8_next_14 : decode cX8_next 14 = .ok (.iconst 0, 1) := by decide +kernel
theorem dX8_next_15 : decode cX8_next 15 = .ok (.istore_n 1, 1) := by decide +kernel
theorem dX8_next_16 : decode cX8_next 16 = .ok (.iconst 1, 1) := by decide +kernel
theorem dX8_next_17 : decode cX8_next 17 = .ok (.istore_n 2, 1) := by decide +kernel
theorem dX8_next_18 : decode cX8_next 18 = .ok (.iload_n 2, 1) := by decide +kernel
theorem dX8_next_19 : decode cX8_next 19 = .ok (.sipush 256, 3) := by decide +kernel
theorem dX8_next_22 : decode cX8_next 22 = .ok (.if_icmp .ge 28, 3) := by decide +kernel
theorem dX8_next_25 : decode cX8_next 25 = .ok (.aload_n 0, 1) := by decide +kernel
theorem dX8_next_26 : decode cX8_next 26 = .ok (.iload_n 2, 1) := by decide +kernel
theorem dX8_next_27 : decode cX8_next 27 = .ok (.invokevirtual 212, 3) := by decide +kernel
theorem dX8_next_30 : decode cX8_next 30 = .ok (.aload_n 0, 1) := by decide +kernel
theorem dX8_next_31 : decode cX8_next 31 = .ok (.iload_n 1, 1) := by decide +kernel
theorem dX8_next_32 : decode cX8_next 32 = .ok (.invokevirtual 212, 3) := by decide +kernel
theorem dX8_next_35 : decode cX8_next 35 = .ok (.if_icmp .le 7, 3) := by decide +kernel
theorem dX8_next_38 : decode cX8_next 38 = .ok (.iload_n 2, 1) := by decide +kernel
theorem dX8_next_39 : decode cX8_next 39 = .ok (.goto 4, 3) := by decide +kernel
theorem dX8_next_42 : decode cX8_next 42 = .ok (.iload_n 1, 1) := by decide +kernel
theorem dX8_next_43 : decode cX8_next 43 = .ok (.istore_n 1, 1) := by decide +kernel
theorem dX8_next_44 : decode cX8_next 44 = .ok (.iinc 2 1, 3) := by decide +kernel
theorem dX8_next_47 : decode cX8_next 47 = .ok (.goto (-29), 3) := by decide +kernel
theorem dX8_next_50 : decode cX8_next 50 = .ok (.iload_n 1, 1) := by decide +kernel
theorem dX8_next_51 : decode cX8_next 51 = .ok (.ireturn, 1) := by decide +kernel
theorem dX8_cutOf_0 : decode cX8_cutOf 0 = .ok (.aload_n 0, 1) := by decide +kernel
theorem dX8_cutOf_1 : decode cX8_cutOf 1 = .ok (.iload_n 1, 1) := by decide +kernel
theorem dX8_cutOf_2 : decode cX8_cutOf 2 = .ok (.iconst 1, 1) := by decide +kernel
theorem dX8_cutOf_3 : decode cX8_cutOf 3 = .ok (.invokevirtual 92, 3) := by decide +kernel
theorem dX8_cutOf_6 : decode cX8_cutOf 6 = .ok (.aload_n 0, 1) := by decide +kernel
theorem dX8_cutOf_7 : decode cX8_cutOf 7 = .ok (.getfield 9, 3) := by decide +kernel
theorem dX8_cutOf_10 : decode cX8_cutOf 10 = .ok (.bipush 15, 2) := by decide +kernel
theorem dX8_cutOf_12 : decode cX8_cutOf 12 = .ok (.iload_n 2, 1) := by decide +kernel
theorem dX8_cutOf_13 : decode cX8_cutOf 13 = .ok (.iadd, 1) := by decide +kernel
theorem dX8_cutOf_14 : decode cX8_cutOf 14 = .ok (.iaload, 1) := by decide +kernel
theorem dX8_cutOf_15 : decode cX8_cutOf 15 = .ok (.ixor, 1) := by decide +kernel
theorem dX8_cutOf_16 : decode cX8_cutOf 16 = .ok (.invokestatic 117, 3) := by decide +kernel
theorem dX8_cutOf_19 : decode cX8_cutOf 19 = .ok (.aload_n 0, 1) := by decide +kernel
theorem dX8_cutOf_20 : decode cX8_cutOf 20 = .ok (.iload_n 1, 1) := by decide +kernel
theorem dX8_cutOf_21 : decode cX8_cutOf 21 = .ok (.iconst 2, 1) := by decide +kernel
theorem dX8_cutOf_22 : decode cX8_cutOf 22 = .ok (.invokevirtual 92, 3) := by decide +kernel
theorem dX8_cutOf_25 : decode cX8_cutOf 25 = .ok (.imul, 1) := by decide +kernel
theorem dX8_cutOf_26 : decode cX8_cutOf 26 = .ok (.ireturn, 1) := by decide +kernel
theorem dX8_mouldOf_0 : decode cX8_mouldOf 0 = .ok (.iload_n 1, 1) := by decide +kernel
theorem dX8_mouldOf_1 : decode cX8_mouldOf 1 = .ok (.invokestatic 111, 3) := by decide +kernel
theorem dX8_mouldOf_4 : decode cX8_mouldOf 4 = .ok (.ifCond .ne 10, 3) := by decide +kernel
theorem dX8_mouldOf_7 : decode cX8_mouldOf 7 = .ok (.aload_n 0, 1) := by decide +kernel
theorem dX8_mouldOf_8 : decode cX8_mouldOf 8 = .ok (.ldc 63, 2) := by decide +kernel
theorem dX8_mouldOf_10 : decode cX8_mouldOf 10 = .ok (.invokevirtual 80, 3) := by decide +kernel
theorem dX8_mouldOf_13 : decode cX8_mouldOf 13 = .ok (.ireturn, 1) := by decide +kernel
theorem dX8_mouldOf_14 : decode cX8_mouldOf 14 = .ok (.aload_n 0, 1) := by decide +kernel
theorem dX8_mouldOf_15 : decode cX8_mouldOf 15 = .ok (.getfield 9, 3) := by decide +kernel
theorem dX8_mouldOf_18 : decode cX8_mouldOf 18 = .ok (.iconst 2, 1) := by decide +kernel
theorem dX8_mouldOf_19 : decode cX8_mouldOf 19 = .ok (.iaload, 1) := by decide +kernel
theorem dX8_mouldOf_20 : decode cX8_mouldOf 20 = .ok (.ifCond .ne 10, 3) := by decide +kernel
theorem dX8_mouldOf_23 : decode cX8_mouldOf 23 = .ok (.aload_n 0, 1) := by decide +kernel
theorem dX8_mouldOf_24 : decode cX8_mouldOf 24 = .ok (.ldc 197, 2) := by decide +kernel
theorem dX8_mouldOf_26 : decode cX8_mouldOf 26 = .ok (.invokevirtual 80, 3) := by decide +kernel
theorem dX8_mouldOf_29 : decode cX8_mouldOf 29 = .ok (.ireturn, 1) := by decide +kernel
theorem dX8_mouldOf_30 : decode cX8_mouldOf 30 = .ok (.iconst 0, 1) := by decide +kernel
theorem dX8_mouldOf_31 : decode cX8_mouldOf 31 = .ok (.istore_n 3, 1) := by decide +kernel
theorem dX8_mouldOf_32 : decode cX8_mouldOf 32 = .ok (.iconst 1, 1) := by decide +kernel
theorem dX8_mouldOf_33 : decode cX8_mouldOf 33 = .ok (.istore 4, 2) := by decide +kernel
theorem dX8_mouldOf_35 : decode cX8_mouldOf 35 = .ok (.iload 4, 2) := by decide +kernel
theorem dX8_mouldOf_37 : decode cX8_mouldOf 37 = .ok (.aload_n 0, 1) := by decide +kernel
theorem dX8_mouldOf_38 : decode cX8_mouldOf 38 = .ok (.getfield 9, 3) := by decide +kernel
theorem dX8_mouldOf_41 : decode cX8_mouldOf 41 = .ok (.iconst 2, 1) := by decide +kernel
theorem dX8_mouldOf_42 : decode cX8_mouldOf 42 = .ok (.iaload, 1) := by decide +kernel
theorem dX8_mouldOf_43 : decode cX8_mouldOf 43 = .ok (.if_icmp .ge 32, 3) := by decide +kernel
theorem dX8_mouldOf_46 : decode cX8_mouldOf 46 = .ok (.aload_n 0, 1) := by decide +kernel
theorem dX8_mouldOf_47 : decode cX8_mouldOf 47 = .ok (.iload 4, 2) := by decide +kernel
theorem dX8_mouldOf_49 : decode cX8_mouldOf 49 = .ok (.iload_n 1, 1) := by decide +kernel
theorem dX8_mouldOf_50 : decode cX8_mouldOf 50 = .ok (.invokevirtual 218, 3) := by decide +kernel
theorem dX8_mouldOf_53 : decode cX8_mouldOf 53 = .ok (.aload_n 0, 1) := by decide +kernel
theorem dX8_mouldOf_54 : decode cX8_mouldOf 54 = .ok (.iload_n 3, 1) := by decide +kernel
theorem dX8_mouldOf_55 : decode cX8_mouldOf 55 = .ok (.iload_n 1, 1) := by decide +kernel
theorem dX8_mouldOf_56 : decode cX8_mouldOf 56 = .ok (.invokevirtual 218, 3) := by decide +kernel
theorem dX8_mouldOf_59 : decode cX8_mouldOf 59 = .ok (.if_icmp .ge 8, 3) := by decide +kernel
theorem dX8_mouldOf_62 : decode cX8_mouldOf 62 = .ok (.iload 4, 2) := by decide +kernel
theorem dX8_mouldOf_64 : decode cX8_mouldOf 64 = .ok (.goto 4, 3) := by decide +kernel
theorem dX8_mouldOf_67 : decode cX8_mouldOf 67 = .ok (.iload_n 3, 1) := by decide +kernel
theorem dX8_mouldOf_68 : decode cX8_mouldOf 68 = .ok (.istore_n 3, 1) := by decide +kernel
theorem dX8_mouldOf_69 : decode cX8_mouldOf 69 = .ok (.iinc 4 1, 3) := by decide +kernel
theorem dX8_mouldOf_72 : decode cX8_mouldOf 72 = .ok (.goto (-37), 3) := by decide +kernel
theorem dX8_mouldOf_75 : decode cX8_mouldOf 75 = .ok (.iload_n 2, 1) := by decide +kernel
theorem dX8_mouldOf_76 : decode cX8_mouldOf 76 = .ok (.ifCond .eq 12, 3) := by decide +kernel
theorem dX8_mouldOf_79 : decode cX8_mouldOf 79 = .ok (.aload_n 0, 1) := by decide +kernel
theorem dX8_mouldOf_80 : decode cX8_mouldOf 80 = .ok (.iload_n 3, 1) := by decide +kernel
theorem dX8_mouldOf_81 : decode cX8_mouldOf 81 = .ok (.iload_n 1, 1) := by decide +kernel
theorem dX8_mouldOf_82 : decode cX8_mouldOf 82 = .ok (.invokevirtual 218, 3) := by decide +kernel
theorem dX8_mouldOf_85 : decode cX8_mouldOf 85 = .ok (.goto 4, 3) := by decide +kernel
theorem dX8_mouldOf_88 : decode cX8_mouldOf 88 = .ok (.iload_n 3, 1) := by decide +kernel
theorem dX8_mouldOf_89 : decode cX8_mouldOf 89 = .ok (.ireturn, 1) := by decide +kernel
theorem dX8_mould_0 : decode cX8_mould 0 = .ok (.aload_n 0, 1) := by decide +kernel
theorem dX8_mould_1 : decode cX8_mould 1 = .ok (.iload_n 1, 1) := by decide +kernel
theorem dX8_mould_2 : decode cX8_mould 2 = .ok (.iconst 0, 1) := by decide +kernel
theorem dX8_mould_3 : decode cX8_mould 3 = .ok (.invokevirtual 221, 3) := by decide +kernel
theorem dX8_mould_6 : decode cX8_mould 6 = .ok (.ireturn, 1) := by decide +kernel
theorem dX8_cuts_0 : decode cX8_cuts 0 = .ok (.aload_n 0, 1) := by decide +kernel
theorem dX8_cuts_1 : decode cX8_cuts 1 = .ok (.iload_n 1, 1) := by decide +kernel
theorem dX8_cuts_2 : decode cX8_cuts 2 = .ok (.iconst 1, 1) := by decide +kernel
theorem dX8_cuts_3 : decode cX8_cuts 3 = .ok (.invokevirtual 221, 3) := by decide +kernel
theorem dX8_cuts_6 : decode cX8_cuts 6 = .ok (.ireturn, 1) := by decide +kernel
theorem dX8_waysFrom_0 : decode cX8_waysFrom 0 = .ok (.iload_n 2, 1) := by decide +kernel
theorem dX8_waysFrom_1 : decode cX8_waysFrom 1 = .ok (.iload_n 3, 1) := by decide +kernel
theorem dX8_waysFrom_2 : decode cX8_waysFrom 2 = .ok (.if_icmp .ne 5, 3) := by decide +kernel
theorem dX8_waysFrom_5 : decode cX8_waysFrom 5 = .ok (.iconst 1, 1) := by decide +kernel
theorem dX8_waysFrom_6 : decode cX8_waysFrom 6 = .ok (.ireturn, 1) := by decide +kernel
theorem dX8_waysFrom_7 : decode cX8_waysFrom 7 = .ok (.iconst 0, 1) := by decide +kernel
theorem dX8_waysFrom_8 : decode cX8_waysFrom 8 = .ok (.istore 5, 2) := by decide +kernel
theorem dX8_waysFrom_10 : decode cX8_waysFrom 10 = .ok (.iconst 0, 1) := by decide +kernel
theorem dX8_waysFrom_11 : decode cX8_waysFrom 11 = .ok (.istore 6, 2) := by decide +kernel
theorem dX8_waysFrom_13 : decode cX8_waysFrom 13 = .ok (.iload 6, 2) := by decide +kernel
theorem dX8_waysFrom_15 : decode cX8_waysFrom 15 = .ok (.aload_n 0, 1) := by decide +kernel
theorem dX8_waysFrom_16 : decode cX8_waysFrom 16 = .ok (.getfield 9, 3) := by decide +kernel
theorem dX8_waysFrom_19 : decode cX8_waysFrom 19 = .ok (.iconst 2, 1) := by decide +kernel
theorem dX8_waysFrom_20 : decode cX8_waysFrom 20 = .ok (.iaload, 1) := by decide +kernel
theorem dX8_waysFrom_21 : decode cX8_waysFrom 21 = .ok (.if_icmp .ge 104, 3) := by decide +kernel
theorem dX8_waysFrom_24 : decode cX8_waysFrom 24 = .ok (.iload 4, 2) := by decide +kernel
theorem dX8_waysFrom_26 : decode cX8_waysFrom 26 = .ok (.iload 6, 2) := by decide +kernel
theorem dX8_waysFrom_28 : decode cX8_waysFrom 28 = .ok (.invokestatic 120, 3) := by decide +kernel
theorem dX8_waysFrom_31 : decode cX8_waysFrom 31 = .ok (.ifCond .ne 88, 3) := by decide +kernel
theorem dX8_waysFrom_34 : decode cX8_waysFrom 34 = .ok (.aload_n 0, 1) := by decide +kernel
theorem dX8_waysFrom_35 : decode cX8_waysFrom 35 = .ok (.iload 6, 2) := by decide +kernel
theorem dX8_waysFrom_37 : decode cX8_waysFrom 37 = .ok (.invokevirtual 182, 3) := by decide +kernel
theorem dX8_waysFrom_40 : decode cX8_waysFrom 40 = .ok (.ifCond .eq 79, 3) := by decide +kernel
theorem dX8_waysFrom_43 : decode cX8_waysFrom 43 = .ok (.aload_n 0, 1) := by decide +kernel
theorem dX8_waysFrom_44 : decode cX8_waysFrom 44 = .ok (.iload 6, 2) := by decide +kernel
theorem dX8_waysFrom_46 : decode cX8_waysFrom 46 = .ok (.iload_n 2, 1) := by decide +kernel
theorem dX8_waysFrom_47 : decode cX8_waysFrom 47 = .ok (.invokevirtual 132, 3) := by decide +kernel
theorem dX8_waysFrom_50 : decode cX8_waysFrom 50 = .ok (.aload_n 0, 1) := by decide +kernel
theorem dX8_waysFrom_51 : decode cX8_waysFrom 51 = .ok (.getfield 57, 3) := by decide +kernel
theorem dX8_waysFrom_54 : decode cX8_waysFrom 54 = .ok (.bipush 40, 2) := by decide +kernel
theorem dX8_waysFrom_56 : decode cX8_waysFrom 56 = .ok (.iload_n 1, 1) := by decide +kernel
theorem dX8_waysFrom_57 : decode cX8_waysFrom 57 = .ok (.imul, 1) := by decide +kernel
theorem dX8_waysFrom_58 : decode cX8_waysFrom 58 = .ok (.iload_n 2, 1) := by decide +kernel
theorem dX8_waysFrom_59 : decode cX8_waysFrom 59 = .ok (.iadd, 1) := by decide +kernel
theorem dX8_waysFrom_60 : decode cX8_waysFrom 60 = .ok (.iaload, 1) := by decide +kernel
theorem dX8_waysFrom_61 : decode cX8_waysFrom 61 = .ok (.if_icmp .ne 58, 3) := by decide +kernel
theorem dX8_waysFrom_64 : decode cX8_waysFrom 64 = .ok (.aload_n 0, 1) := by decide +kernel
theorem dX8_waysFrom_65 : decode cX8_waysFrom 65 = .ok (.iload_n 1, 1) := by decide +kernel
theorem dX8_waysFrom_66 : decode cX8_waysFrom 66 = .ok (.iload_n 2, 1) := by decide +kernel
theorem dX8_waysFrom_67 : decode cX8_waysFrom 67 = .ok (.iconst 1, 1) := by decide +kernel
theorem dX8_waysFrom_68 : decode cX8_waysFrom 68 = .ok (.iadd, 1) := by decide +kernel
theorem dX8_waysFrom_69 : decode cX8_waysFrom 69 = .ok (.iload_n 3, 1) := by decide +kernel
theorem dX8_waysFrom_70 : decode cX8_waysFrom 70 = .ok (.iload 4, 2) := by decide +kernel
theorem dX8_waysFrom_72 : decode cX8_waysFrom 72 = .ok (.iconst 1, 1) := by decide +kernel
theorem dX8_waysFrom_73 : decode cX8_waysFrom 73 = .ok (.iload 6, 2) := by decide +kernel
theorem dX8_waysFrom_75 : decode cX8_waysFrom 75 = .ok (.ishl, 1) := by decide +kernel
theorem dX8_waysFrom_76 : decode cX8_waysFrom 76 = .ok (.ior, 1) := by decide +kernel
theorem dX8_waysFrom_77 : decode cX8_waysFrom 77 = .ok (.invokevirtual 225, 3) := by decide +kernel
theorem dX8_waysFrom_80 : decode cX8_waysFrom 80 = .ok (.istore 7, 2) := by decide +kernel
theorem dX8_waysFrom_82 : decode cX8_waysFrom 82 = .ok (.aload_n 0, 1) := by decide +kernel
theorem dX8_waysFrom_83 : decode cX8_waysFrom 83 = .ok (.dup, 1) := by decide +kernel
theorem dX8_waysFrom_84 : decode cX8_waysFrom 84 = .ok (.getfield 228, 3) := by decide +kernel
theorem dX8_waysFrom_87 : decode cX8_waysFrom 87 = .ok (.iload_n 2, 1) := by decide +kernel
theorem dX8_waysFrom_88 : decode cX8_waysFrom 88 = .ok (.aload_n 0, 1) := by decide +kernel
theorem dX8_waysFrom_89 : decode cX8_waysFrom 89 = .ok (.getfield 231, 3) := by decide +kernel
theorem dX8_waysFrom_92 : decode cX8_waysFrom 92 = .ok (.if_icmp .ne 15, 3) := by decide +kernel
theorem dX8_waysFrom_95 : decode cX8_waysFrom 95 = .ok (.iload 7, 2) := by decide +kernel
theorem dX8_waysFrom_97 : decode cX8_waysFrom 97 = .ok (.ifCond .le 10, 3) := by decide +kernel
theorem dX8_waysFrom_100 : decode cX8_waysFrom 100 = .ok (.iconst 1, 1) := by decide +kernel
theorem dX8_waysFrom_101 : decode cX8_waysFrom 101 = .ok (.iload 6, 2) := by decide +kernel
theorem dX8_waysFrom_103 : decode cX8_waysFrom 103 = .ok (.ishl, 1) := by decide +kernel
theorem dX8_waysFrom_104 : decode cX8_waysFrom 104 = .ok (.goto 4, 3) := by decide +kernel
theorem dX8_waysFrom_107 : decode cX8_waysFrom 107 = .ok (.iconst 0, 1) := by decide +kernel
theorem dX8_waysFrom_108 : decode cX8_waysFrom 108 = .ok (.ior, 1) := by decide +kernel
theorem dX8_waysFrom_109 : decode cX8_waysFrom 109 = .ok (.putfield 228, 3) := by decide +kernel
theorem dX8_waysFrom_112 : decode cX8_waysFrom 112 = .ok (.iload 5, 2) := by decide +kernel
theorem dX8_waysFrom_114 : decode cX8_waysFrom 114 = .ok (.iload 7, 2) := by decide +kernel
theorem dX8_waysFrom_116 : decode cX8_waysFrom 116 = .ok (.iadd, 1) := by decide +kernel
theorem dX8_waysFrom_117 : decode cX8_waysFrom 117 = .ok (.istore 5, 2) := by decide +kernel
theorem dX8_waysFrom_119 : decode cX8_waysFrom 119 = .ok (.iinc 6 1, 3) := by decide +kernel
theorem dX8_waysFrom_122 : decode cX8_waysFrom 122 = .ok (.goto (-109), 3) := by decide +kernel
theorem dX8_waysFrom_125 : decode cX8_waysFrom 125 = .ok (.iload 5, 2) := by decide +kernel
theorem dX8_waysFrom_127 : decode cX8_waysFrom 127 = .ok (.ireturn, 1) := by decide +kernel
theorem dX8_waysOf_0 : decode cX8_waysOf 0 = .ok (.aload_n 0, 1) := by decide +kernel
theorem dX8_waysOf_1 : decode cX8_waysOf 1 = .ok (.iload_n 2, 1) := by decide +kernel
theorem dX8_waysOf_2 : decode cX8_waysOf 2 = .ok (.putfield 231, 3) := by decide +kernel
theorem dX8_waysOf_5 : decode cX8_waysOf 5 = .ok (.aload_n 0, 1) := by decide +kernel
theorem dX8_waysOf_6 : decode cX8_waysOf 6 = .ok (.iconst 0, 1) := by decide +kernel
theorem dX8_waysOf_7 : decode cX8_waysOf 7 = .ok (.putfield 228, 3) := by decide +kernel
theorem dX8_waysOf_10 : decode cX8_waysOf 10 = .ok (.aload_n 0, 1) := by decide +kernel
theorem dX8_waysOf_11 : decode cX8_waysOf 11 = .ok (.iload_n 1, 1) := by decide +kernel
theorem dX8_waysOf_12 : decode cX8_waysOf 12 = .ok (.iconst 0, 1) := by decide +kernel
theorem dX8_waysOf_13 : decode cX8_waysOf 13 = .ok (.bipush 6, 2) := by decide +kernel
theorem dX8_waysOf_15 : decode cX8_waysOf 15 = .ok (.aload_n 0, 1) := by decide +kernel
theorem dX8_waysOf_16 : decode cX8_waysOf 16 = .ok (.getfield 54, 3) := by decide +kernel
theorem dX8_waysOf_19 : decode cX8_waysOf 19 = .ok (.iload_n 1, 1) := by decide +kernel
theorem dX8_waysOf_20 : decode cX8_waysOf 20 = .ok (.iaload, 1) := by decide +kernel
theorem dX8_waysOf_21 : decode cX8_waysOf 21 = .ok (.invokestatic 234, 3) := by decide +kernel
theorem dX8_waysOf_24 : decode cX8_waysOf 24 = .ok (.iconst 0, 1) := by decide +kernel
theorem dX8_waysOf_25 : decode cX8_waysOf 25 = .ok (.invokevirtual 225, 3) := by decide +kernel
theorem dX8_waysOf_28 : decode cX8_waysOf 28 = .ok (.ireturn, 1) := by decide +kernel
theorem dX8_fits_0 : decode cX8_fits 0 = .ok (.iload_n 1, 1) := by decide +kernel
theorem dX8_fits_1 : decode cX8_fits 1 = .ok (.invokestatic 237, 3) := by decide +kernel
theorem dX8_fits_4 : decode cX8_fits 4 = .ok (.ifCond .ne 10, 3) := by decide +kernel
theorem dX8_fits_7 : decode cX8_fits 7 = .ok (.aload_n 0, 1) := by decide +kernel
theorem dX8_fits_8 : decode cX8_fits 8 = .ok (.ldc 63, 2) := by decide +kernel
theorem dX8_fits_10 : decode cX8_fits 10 = .ok (.invokevirtual 80, 3) := by decide +kernel
theorem dX8_fits_13 : decode cX8_fits 13 = .ok (.ireturn, 1) := by decide +kernel
theorem dX8_fits_14 : decode cX8_fits 14 = .ok (.aload_n 0, 1) := by decide +kernel
theorem dX8_fits_15 : decode cX8_fits 15 = .ok (.getfield 51, 3) := by decide +kernel
theorem dX8_fits_18 : decode cX8_fits 18 = .ok (.iload_n 1, 1) := by decide +kernel
theorem dX8_fits_19 : decode cX8_fits 19 = .ok (.iaload, 1) := by decide +kernel
theorem dX8_fits_20 : decode cX8_fits 20 = .ok (.ifCond .ne 12, 3) := by decide +kernel
theorem dX8_fits_23 : decode cX8_fits 23 = .ok (.aload_n 0, 1) := by decide +kernel
theorem dX8_fits_24 : decode cX8_fits 24 = .ok (.ldc 240, 2) := by decide +kernel
theorem dX8_fits_26 : decode cX8_fits 26 = .ok (.invokevirtual 80, 3) := by decide +kernel
theorem dX8_fits_29 : decode cX8_fits 29 = .ok (.goto 9, 3) := by decide +kernel
theorem dX8_fits_32 : decode cX8_fits 32 = .ok (.aload_n 0, 1) := by decide +kernel
theorem dX8_fits_33 : decode cX8_fits 33 = .ok (.iload_n 1, 1) := by decide +kernel
theorem dX8_fits_34 : decode cX8_fits 34 = .ok (.iconst (-1), 1) := by decide +kernel
theorem dX8_fits_35 : decode cX8_fits 35 = .ok (.invokevirtual 241, 3) := by decide +kernel
theorem dX8_fits_38 : decode cX8_fits 38 = .ok (.ireturn, 1) := by decide +kernel
theorem dX8_maybe_0 : decode cX8_maybe 0 = .ok (.iload_n 1, 1) := by decide +kernel
theorem dX8_maybe_1 : decode cX8_maybe 1 = .ok (.invokestatic 237, 3) := by decide +kernel
theorem dX8_maybe_4 : decode cX8_maybe 4 = .ok (.ifCond .ne 10, 3) := by decide +kernel
theorem dX8_maybe_7 : decode cX8_maybe 7 = .ok (.aload_n 0, 1) := by decide +kernel
theorem dX8_maybe_8 : decode cX8_maybe 8 = .ok (.ldc 63, 2) := by decide +kernel
theorem dX8_maybe_10 : decode cX8_maybe 10 = .ok (.invokevirtual 80, 3) := by decide +kernel
theorem dX8_maybe_13 : decode cX8_maybe 13 = .ok (.ireturn, 1) := by decide +kernel
theorem dX8_maybe_14 : decode cX8_maybe 14 = .ok (.aload_n 0, 1) := by decide +kernel
theorem dX8_maybe_15 : decode cX8_maybe 15 = .ok (.getfield 51, 3) := by decide +kernel
theorem dX8_maybe_18 : decode cX8_maybe 18 = .ok (.iload_n 1, 1) := by decide +kernel
theorem dX8_maybe_19 : decode cX8_maybe 19 = .ok (.iaload, 1) := by decide +kernel
theorem dX8_maybe_20 : decode cX8_maybe 20 = .ok (.ifCond .ne 10, 3) := by decide +kernel
theorem dX8_maybe_23 : decode cX8_maybe 23 = .ok (.aload_n 0, 1) := by decide +kernel
theorem dX8_maybe_24 : decode cX8_maybe 24 = .ok (.ldc 240, 2) := by decide +kernel
theorem dX8_maybe_26 : decode cX8_maybe 26 = .ok (.invokevirtual 80, 3) := by decide +kernel
theorem dX8_maybe_29 : decode cX8_maybe 29 = .ok (.ireturn, 1) := by decide +kernel
theorem dX8_maybe_30 : decode cX8_maybe 30 = .ok (.iload_n 2, 1) := by decide +kernel
theorem dX8_maybe_31 : decode cX8_maybe 31 = .ok (.iconst 0, 1) := by decide +kernel
theorem dX8_maybe_32 : decode cX8_maybe 32 = .ok (.bipush 6, 2) := by decide +kernel
theorem dX8_maybe_34 : decode cX8_maybe 34 = .ok (.aload_n 0, 1) := by decide +kernel
theorem dX8_maybe_35 : decode cX8_maybe 35 = .ok (.getfield 54, 3) := by decide +kernel
theorem dX8_maybe_38 : decode cX8_maybe 38 = .ok (.iload_n 1, 1) := by decide +kernel
theorem dX8_maybe_39 : decode cX8_maybe 39 = .ok (.iaload, 1) := by decide +kernel
theorem dX8_maybe_40 : decode cX8_maybe 40 = .ok (.invokestatic 234, 3) := by decide +kernel
theorem dX8_maybe_43 : decode cX8_maybe 43 = .ok (.iconst 1, 1) := by decide +kernel
theorem dX8_maybe_44 : decode cX8_maybe 44 = .ok (.isub, 1) := by decide +kernel
theorem dX8_maybe_45 : decode cX8_maybe 45 = .ok (.invokestatic 68, 3) := by decide +kernel
theorem dX8_maybe_48 : decode cX8_maybe 48 = .ok (.ifCond .ne 10, 3) := by decide +kernel
theorem dX8_maybe_51 : decode cX8_maybe 51 = .ok (.aload_n 0, 1) := by decide +kernel
theorem dX8_maybe_52 : decode cX8_maybe 52 = .ok (.ldc 63, 2) := by decide +kernel
theorem dX8_maybe_54 : decode cX8_maybe 54 = .ok (.invokevirtual 80, 3) := by decide +kernel
theorem dX8_maybe_57 : decode cX8_maybe 57 = .ok (.ireturn, 1) := by decide +kernel
theorem dX8_maybe_58 : decode cX8_maybe 58 = .ok (.aload_n 0, 1) := by decide +kernel
theorem dX8_maybe_59 : decode cX8_maybe 59 = .ok (.iload_n 1, 1) := by decide +kernel
theorem dX8_maybe_60 : decode cX8_maybe 60 = .ok (.iload_n 2, 1) := by decide +kernel
theorem dX8_maybe_61 : decode cX8_maybe 61 = .ok (.invokevirtual 241, 3) := by decide +kernel
theorem dX8_maybe_64 : decode cX8_maybe 64 = .ok (.istore_n 3, 1) := by decide +kernel
theorem dX8_maybe_65 : decode cX8_maybe 65 = .ok (.iload_n 3, 1) := by decide +kernel
theorem dX8_maybe_66 : decode cX8_maybe 66 = .ok (.ifCond .ne 7, 3) := by decide +kernel
theorem dX8_maybe_69 : decode cX8_maybe 69 = .ok (.iconst 0, 1) := by decide +kernel
theorem dX8_maybe_70 : decode cX8_maybe 70 = .ok (.goto 7, 3) := by decide +kernel
theorem dX8_maybe_73 : decode cX8_maybe 73 = .ok (.aload_n 0, 1) := by decide +kernel
theorem dX8_maybe_74 : decode cX8_maybe 74 = .ok (.getfield 228, 3) := by decide +kernel
theorem dX8_maybe_77 : decode cX8_maybe 77 = .ok (.ireturn, 1) := by decide +kernel
theorem dX8_headsLike_0 : decode cX8_headsLike 0 = .ok (.iconst 0, 1) := by decide +kernel
theorem dX8_headsLike_1 : decode cX8_headsLike 1 = .ok (.istore_n 3, 1) := by decide +kernel
theorem dX8_headsLike_2 : decode cX8_headsLike 2 = .ok (.iconst 0, 1) := by decide +kernel
theorem dX8_headsLike_3 : decode cX8_headsLike 3 = .ok (.istore 4, 2) := by decide +kernel
theorem dX8_headsLike_5 : decode cX8_headsLike 5 = .ok (.iload 4, 2) := by decide +kernel
theorem dX8_headsLike_7 : decode cX8_headsLike 7 = .ok (.aload_n 0, 1) := by decide +kernel
theorem dX8_headsLike_8 : decode cX8_headsLike 8 = .ok (.getfield 9, 3) := by decide +kernel
theorem dX8_headsLike_11 : decode cX8_headsLike 11 = .ok (.iconst 2, 1) := by decide +kernel
theorem dX8_headsLike_12 : decode cX8_headsLike 12 = .ok (.iaload, 1) := by decide +kernel
theorem dX8_headsLike_13 : decode cX8_headsLike 13 = .ok (.if_icmp .ge 40, 3) := by decide +kernel
theorem dX8_headsLike_16 : decode cX8_headsLike 16 = .ok (.iload_n 3, 1) := by decide +kernel
theorem dX8_headsLike_17 : decode cX8_headsLike 17 = .ok (.aload_n 0, 1) := by decide +kernel
theorem dX8_headsLike_18 : decode cX8_headsLike 18 = .ok (.iload 4, 2) := by decide +kernel
theorem dX8_headsLike_20 : decode cX8_headsLike 20 = .ok (.invokevirtual 182, 3) := by decide +kernel
theorem dX8_headsLike_23 : decode cX8_headsLike 23 = .ok (.ifCond .eq 21, 3) := by decide +kernel
theorem dX8_headsLike_26 : decode cX8_headsLike 26 = .ok (.aload_n 0, 1) := by decide +kernel
theorem dX8_headsLike_27 : decode cX8_headsLike 27 = .ok (.iload 4, 2) := by decide +kernel
theorem dX8_headsLike_29 : decode cX8_headsLike 29 = .ok (.iload_n 1, 1) := by decide +kernel
theorem dX8_headsLike_30 : decode cX8_headsLike 30 = .ok (.invokevirtual 132, 3) := by decide +kernel
theorem dX8_headsLike_33 : decode cX8_headsLike 33 = .ok (.iload_n 2, 1) := by decide +kernel
theorem dX8_headsLike_34 : decode cX8_headsLike 34 = .ok (.if_icmp .lt 10, 3) := by decide +kernel
theorem dX8_headsLike_37 : decode cX8_headsLike 37 = .ok (.iconst 1, 1) := by decide +kernel
theorem dX8_headsLike_38 : decode cX8_headsLike 38 = .ok (.iload 4, 2) := by decide +kernel
theorem dX8_headsLike_40 : decode cX8_headsLike 40 = .ok (.ishl, 1) := by decide +kernel
theorem dX8_headsLike_41 : decode cX8_headsLike 41 = .ok (.goto 4, 3) := by decide +kernel
theorem dX8_headsLike_44 : decode cX8_headsLike 44 = .ok (.iconst 0, 1) := by decide +kernel
theorem dX8_headsLike_45 : decode cX8_headsLike 45 = .ok (.ior, 1) := by decide +kernel
theorem dX8_headsLike_46 : decode cX8_headsLike 46 = .ok (.istore_n 3, 1) := by decide +kernel
theorem dX8_headsLike_47 : decode cX8_headsLike 47 = .ok (.iinc 4 1, 3) := by decide +kernel
theorem dX8_headsLike_50 : decode cX8_headsLike 50 = .ok (.goto (-45), 3) := by decide +kernel
theorem dX8_headsLike_53 : decode cX8_headsLike 53 = .ok (.iload_n 3, 1) := by decide +kernel
theorem dX8_headsLike_54 : decode cX8_headsLike 54 = .ok (.ireturn, 1) := by decide +kernel
theorem dX8_stand_0 : decode cX8_stand 0 = .ok (.iload_n 1, 1) := by decide +kernel
theorem dX8_stand_1 : decode cX8_stand 1 = .ok (.iconst 0, 1) := by decide +kernel
theorem dX8_stand_2 : decode cX8_stand 2 = .ok (.iconst 1, 1) := by decide +kernel
theorem dX8_stand_3 : decode cX8_stand 3 = .ok (.aload_n 0, 1) := by decide +kernel
theorem dX8_stand_4 : decode cX8_stand 4 = .ok (.getfield 9, 3) := by decide +kernel
theorem dX8_stand_7 : decode cX8_stand 7 = .ok (.iconst 2, 1) := by decide +kernel
theorem dX8_stand_8 : decode cX8_stand 8 = .ok (.iaload, 1) := by decide +kernel
theorem dX8_stand_9 : decode cX8_stand 9 = .ok (.ishl, 1) := by decide +kernel
theorem dX8_stand_10 : decode cX8_stand 10 = .ok (.iconst 1, 1) := by decide +kernel
theorem dX8_stand_11 : decode cX8_stand 11 = .ok (.isub, 1) := by decide +kernel
theorem dX8_stand_12 : decode cX8_stand 12 = .ok (.invokestatic 68, 3) := by decide +kernel
theorem dX8_stand_15 : decode cX8_stand 15 = .ok (.ifCond .eq 13, 3) := by decide +kernel
theorem dX8_stand_18 : decode cX8_stand 18 = .ok (.iload_n 2, 1) := by decide +kernel
theorem dX8_stand_19 : decode cX8_stand 19 = .ok (.iconst 0, 1) := by decide +kernel
theorem dX8_stand_20 : decode cX8_stand 20 = .ok (.bipush 99, 2) := by decide +kernel
theorem dX8_stand_22 : decode cX8_stand 22 = .ok (.invokestatic 68, 3) := by decide +kernel
theorem dX8_stand_25 : decode cX8_stand 25 = .ok (.ifCond .ne 10, 3) := by decide +kernel
theorem dX8_stand_28 : decode cX8_stand 28 = .ok (.aload_n 0, 1) := by decide +kernel
theorem dX8_stand_29 : decode cX8_stand 29 = .ok (.ldc 63, 2) := by decide +kernel
theorem dX8_stand_31 : decode cX8_stand 31 = .ok (.invokevirtual 80, 3) := by decide +kernel
theorem dX8_stand_34 : decode cX8_stand 34 = .ok (.ireturn, 1) := by decide +kernel
theorem dX8_stand_35 : decode cX8_stand 35 = .ok (.iconst 0, 1) := by decide +kernel
theorem dX8_stand_36 : decode cX8_stand 36 = .ok (.istore_n 3, 1) := by decide +kernel
theorem dX8_stand_37 : decode cX8_stand 37 = .ok (.iconst 0, 1) := by decide +kernel
theorem dX8_stand_38 : decode cX8_stand 38 = .ok (.istore 4, 2) := by decide +kernel
theorem dX8_stand_40 : decode cX8_stand 40 = .ok (.iload 4, 2) := by decide +kernel
theorem dX8_stand_42 : decode cX8_stand 42 = .ok (.bipush 6, 2) := by decide +kernel
theorem dX8_stand_44 : decode cX8_stand 44 = .ok (.if_icmp .ge 34, 3) := by decide +kernel
theorem dX8_stand_47 : decode cX8_stand 47 = .ok (.iload_n 3, 1) := by decide +kernel
theorem dX8_stand_48 : decode cX8_stand 48 = .ok (.aload_n 0, 1) := by decide +kernel
theorem dX8_stand_49 : decode cX8_stand 49 = .ok (.iload 4, 2) := by decide +kernel
theorem dX8_stand_51 : decode cX8_stand 51 = .ok (.iload_n 2, 1) := by decide +kernel
theorem dX8_stand_52 : decode cX8_stand 52 = .ok (.invokevirtual 244, 3) := by decide +kernel
theorem dX8_stand_55 : decode cX8_stand 55 = .ok (.iload_n 1, 1) := by decide +kernel
theorem dX8_stand_56 : decode cX8_stand 56 = .ok (.iconst (-1), 1) := by decide +kernel
theorem dX8_stand_57 : decode cX8_stand 57 = .ok (.ixor, 1) := by decide +kernel
theorem dX8_stand_58 : decode cX8_stand 58 = .ok (.iand, 1) := by decide +kernel
theorem dX8_stand_59 : decode cX8_stand 59 = .ok (.ifCond .eq 10, 3) := by decide +kernel
theorem dX8_stand_62 : decode cX8_stand 62 = .ok (.iconst 1, 1) := by decide +kernel
theorem dX8_stand_63 : decode cX8_stand 63 = .ok (.iload 4, 2) := by decide +kernel
theorem dX8_stand_65 : decode cX8_stand 65 = .ok (.ishl, 1) := by decide +kernel
theorem dX8_stand_66 : decode cX8_stand 66 = .ok (.goto 4, 3) := by decide +kernel
theorem dX8_stand_69 : decode cX8_stand 69 = .ok (.iconst 0, 1) := by decide +kernel
theorem dX8_stand_70 : decode cX8_stand 70 = .ok (.ior, 1) := by decide +kernel
theorem dX8_stand_71 : decode cX8_stand 71 = .ok (.istore_n 3, 1) := by decide +kernel
theorem dX8_stand_72 : decode cX8_stand 72 = .ok (.iinc 4 1, 3) := by decide +kernel
theorem dX8_stand_75 : decode cX8_stand 75 = .ok (.goto (-35), 3) := by decide +kernel
theorem dX8_stand_78 : decode cX8_stand 78 = .ok (.iload_n 3, 1) := by decide +kernel
theorem dX8_stand_79 : decode cX8_stand 79 = .ok (.ireturn, 1) := by decide +kernel
theorem dX8_fire_0 : decode cX8_fire 0 = .ok (.iload_n 1, 1) := by decide +kernel
theorem dX8_fire_1 : decode cX8_fire 1 = .ok (.invokestatic 111, 3) := by decide +kernel
theorem dX8_fire_4 : decode cX8_fire 4 = .ok (.ifCond .eq 22, 3) := by decide +kernel
theorem dX8_fire_7 : decode cX8_fire 7 = .ok (.iload_n 2, 1) := by decide +kernel
theorem dX8_fire_8 : decode cX8_fire 8 = .ok (.iconst 0, 1) := by decide +kernel
theorem dX8_fire_9 : decode cX8_fire 9 = .ok (.bipush 99, 2) := by decide +kernel
theorem dX8_fire_11 : decode cX8_fire 11 = .ok (.invokestatic 68, 3) := by decide +kernel
theorem dX8_fire_14 : decode cX8_fire 14 = .ok (.ifCond .eq 12, 3) := by decide +kernel
theorem dX8_fire_17 : decode cX8_fire 17 = .ok (.aload_n 0, 1) := by decide +kernel
theorem dX8_fire_18 : decode cX8_fire 18 = .ok (.iload_n 1, 1) := by decide +kernel
theorem dX8_fire_19 : decode cX8_fire 19 = .ok (.iload_n 2, 1) := by decide +kernel
theorem dX8_fire_20 : decode cX8_fire 20 = .ok (.invokevirtual 244, 3) := by decide +kernel
theorem dX8_fire_23 : decode cX8_fire 23 = .ok (.goto 9, 3) := by decide +kernel
theorem dX8_fire_26 : decode cX8_fire 26 = .ok (.aload_n 0, 1) := by decide +kernel
theorem dX8_fire_27 : decode cX8_fire 27 = .ok (.ldc 63, 2) := by decide +kernel
theorem dX8_fire_29 : decode cX8_fire 29 = .ok (.invokevirtual 80, 3) := by decide +kernel
theorem dX8_fire_32 : decode cX8_fire 32 = .ok (.ireturn, 1) := by decide +kernel
theorem dX8_drawn_0 : decode cX8_drawn 0 = .ok (.aload_n 0, 1) := by decide +kernel
theorem dX8_drawn_1 : decode cX8_drawn 1 = .ok (.getfield 9, 3) := by decide +kernel
theorem dX8_drawn_4 : decode cX8_drawn 4 = .ok (.iconst 4, 1) := by decide +kernel
theorem dX8_drawn_5 : decode cX8_drawn 5 = .ok (.aload_n 0, 1) := by decide +kernel
theorem dX8_drawn_6 : decode cX8_drawn 6 = .ok (.getfield 9, 3) := by decide +kernel
theorem dX8_drawn_9 : decode cX8_drawn 9 = .ok (.iconst 4, 1) := by decide +kernel
theorem dX8_drawn_10 : decode cX8_drawn 10 = .ok (.iaload, 1) := by decide +kernel
theorem dX8_drawn_11 : decode cX8_drawn 11 = .ok (.ldc 247, 2) := by decide +kernel
theorem dX8_drawn_13 : decode cX8_drawn 13 = .ok (.imul, 1) := by decide +kernel
theorem dX8_drawn_14 : decode cX8_drawn 14 = .ok (.sipush 12345, 3) := by decide +kernel
theorem dX8_drawn_17 : decode cX8_drawn 17 = .ok (.iadd, 1) := by decide +kernel
theorem dX8_drawn_18 : decode cX8_drawn 18 = .ok (.iastore, 1) := by decide +kernel
theorem dX8_drawn_19 : decode cX8_drawn 19 = .ok (.aload_n 0, 1) := by decide +kernel
theorem dX8_drawn_20 : decode cX8_drawn 20 = .ok (.getfield 9, 3) := by decide +kernel
theorem dX8_drawn_23 : decode cX8_drawn 23 = .ok (.iconst 4, 1) := by decide +kernel
theorem dX8_drawn_24 : decode cX8_drawn 24 = .ok (.iaload, 1) := by decide +kernel
theorem dX8_drawn_25 : decode cX8_drawn 25 = .ok (.bipush 8, 2) := by decide +kernel
theorem dX8_drawn_27 : decode cX8_drawn 27 = .ok (.iushr, 1) := by decide +kernel
theorem dX8_drawn_28 : decode cX8_drawn 28 = .ok (.iload_n 1, 1) := by decide +kernel
theorem dX8_drawn_29 : decode cX8_drawn 29 = .ok (.irem, 1) := by decide +kernel
theorem dX8_drawn_30 : decode cX8_drawn 30 = .ok (.ireturn, 1) := by decide +kernel
theorem dX8_papers_0 : decode cX8_papers 0 = .ok (.iload_n 1, 1) := by decide +kernel
theorem dX8_papers_1 : decode cX8_papers 1 = .ok (.iconst 1, 1) := by decide +kernel
theorem dX8_papers_2 : decode cX8_papers 2 = .ok (.bipush 12, 2) := by decide +kernel
theorem dX8_papers_4 : decode cX8_papers 4 = .ok (.invokestatic 68, 3) := by decide +kernel
theorem dX8_papers_7 : decode cX8_papers 7 = .ok (.ifCond .ne 10, 3) := by decide +kernel
theorem dX8_papers_10 : decode cX8_papers 10 = .ok (.aload_n 0, 1) := by decide +kernel
theorem dX8_papers_11 : decode cX8_papers 11 = .ok (.ldc 63, 2) := by decide +kernel
theorem dX8_papers_13 : decode cX8_papers 13 = .ok (.invokevirtual 80, 3) := by decide +kernel
theorem dX8_papers_16 : decode cX8_papers 16 = .ok (.ireturn, 1) := by decide +kernel
theorem dX8_papers_17 : decode cX8_papers 17 = .ok (.iconst 0, 1) := by decide +kernel
theorem dX8_papers_18 : decode cX8_papers 18 = .ok (.istore_n 2, 1) := by decide +kernel
theorem dX8_papers_19 : decode cX8_papers 19 = .ok (.iload_n 2, 1) := by decide +kernel
theorem dX8_papers_20 : decode cX8_papers 20 = .ok (.iload_n 1, 1) := by decide +kernel
theorem dX8_papers_21 : decode cX8_papers 21 = .ok (.if_icmp .ge 31, 3) := by decide +kernel
theorem dX8_papers_24 : decode cX8_papers 24 = .ok (.aload_n 0, 1) := by decide +kernel
theorem dX8_papers_25 : decode cX8_papers 25 = .ok (.bipush 6, 2) := by decide +kernel
theorem dX8_papers_27 : decode cX8_papers 27 = .ok (.invokevirtual 248, 3) := by decide +kernel
theorem dX8_papers_30 : decode cX8_papers 30 = .ok (.istore_n 3, 1) := by decide +kernel
theorem dX8_papers_31 : decode cX8_papers 31 = .ok (.aload_n 0, 1) := by decide +kernel
theorem dX8_papers_32 : decode cX8_papers 32 = .ok (.getfield 9, 3) := by decide +kernel
theorem dX8_papers_35 : decode cX8_papers 35 = .ok (.bipush 27, 2) := by decide +kernel
theorem dX8_papers_37 : decode cX8_papers 37 = .ok (.iload_n 3, 1) := by decide +kernel
theorem dX8_papers_38 : decode cX8_papers 38 = .ok (.iadd, 1) := by decide +kernel
theorem dX8_papers_39 : decode cX8_papers 39 = .ok (.aload_n 0, 1) := by decide +kernel
theorem dX8_papers_40 : decode cX8_papers 40 = .ok (.bipush 6, 2) := by decide +kernel
theorem dX8_papers_42 : decode cX8_papers 42 = .ok (.invokevirtual 248, 3) := by decide +kernel
theorem dX8_papers_45 : decode cX8_papers 45 = .ok (.iastore, 1) := by decide +kernel
theorem dX8_papers_46 : decode cX8_papers 46 = .ok (.iinc 2 1, 3) := by decide +kernel
theorem dX8_papers_49 : decode cX8_papers 49 = .ok (.goto (-30), 3) := by decide +kernel
theorem dX8_papers_52 : decode cX8_papers 52 = .ok (.aload_n 0, 1) := by decide +kernel
theorem dX8_papers_53 : decode cX8_papers 53 = .ok (.iconst 0, 1) := by decide +kernel
theorem dX8_papers_54 : decode cX8_papers 54 = .ok (.invokevirtual 191, 3) := by decide +kernel
theorem dX8_papers_57 : decode cX8_papers 57 = .ok (.ireturn, 1) := by decide +kernel
theorem dX8_seed_0 : decode cX8_seed 0 = .ok (.aload_n 0, 1) := by decide +kernel
theorem dX8_seed_1 : decode cX8_seed 1 = .ok (.iconst 4, 1) := by decide +kernel
theorem dX8_seed_2 : decode cX8_seed 2 = .ok (.iload_n 1, 1) := by decide +kernel
theorem dX8_seed_3 : decode cX8_seed 3 = .ok (.invokevirtual 108, 3) := by decide +kernel
theorem dX8_seed_6 : decode cX8_seed 6 = .ok (.ireturn, 1) := by decide +kernel
theorem dX8_feed_0 : decode cX8_feed 0 = .ok (.iload_n 2, 1) := by decide +kernel
theorem dX8_feed_1 : decode cX8_feed 1 = .ok (.iconst 1, 1) := by decide +kernel
theorem dX8_feed_2 : decode cX8_feed 2 = .ok (.iconst 4, 1) := by decide +kernel
theorem dX8_feed_3 : decode cX8_feed 3 = .ok (.invokestatic 68, 3) := by decide +kernel
theorem dX8_feed_6 : decode cX8_feed 6 = .ok (.ifCond .ne 10, 3) := by decide +kernel
theorem dX8_feed_9 : decode cX8_feed 9 = .ok (.aload_n 0, 1) := by decide +kernel
theorem dX8_feed_10 : decode cX8_feed 10 = .ok (.ldc 63, 2) := by decide +kernel
theorem dX8_feed_12 : decode cX8_feed 12 = .ok (.invokevirtual 80, 3) := by decide +kernel
theorem dX8_feed_15 : decode cX8_feed 15 = .ok (.ireturn, 1) := by decide +kernel
theorem dX8_feed_16 : decode cX8_feed 16 = .ok (.aload_n 0, 1) := by decide +kernel
theorem dX8_feed_17 : decode cX8_feed 17 = .ok (.getfield 251, 3) := by decide +kernel
theorem dX8_feed_20 : decode cX8_feed 20 = .ok (.iload_n 2, 1) := by decide +kernel
theorem dX8_feed_21 : decode cX8_feed 21 = .ok (.iadd, 1) := by decide +kernel
theorem dX8_feed_22 : decode cX8_feed 22 = .ok (.bipush 120, 2) := by decide +kernel
theorem dX8_feed_24 : decode cX8_feed 24 = .ok (.if_icmp .le 10, 3) := by decide +kernel
theorem dX8_feed_27 : decode cX8_feed 27 = .ok (.aload_n 0, 1) := by decide +kernel
theorem dX8_feed_28 : decode cX8_feed 28 = .ok (.ldc 84, 2) := by decide +kernel
theorem dX8_feed_30 : decode cX8_feed 30 = .ok (.invokevirtual 80, 3) := by decide +kernel
theorem dX8_feed_33 : decode cX8_feed 33 = .ok (.ireturn, 1) := by decide +kernel
theorem dX8_feed_34 : decode cX8_feed 34 = .ok (.iload_n 2, 1) := by decide +kernel
theorem dX8_feed_35 : decode cX8_feed 35 = .ok (.iconst 1, 1) := by decide +kernel
theorem dX8_feed_36 : decode cX8_feed 36 = .ok (.isub, 1) := by decide +kernel
theorem dX8_feed_37 : decode cX8_feed 37 = .ok (.istore_n 3, 1) := by decide +kernel
theorem dX8_feed_38 : decode cX8_feed 38 = .ok (.iload_n 3, 1) := by decide +kernel
theorem dX8_feed_39 : decode cX8_feed 39 = .ok (.ifCond .lt 38, 3) := by decide +kernel
theorem dX8_feed_42 : decode cX8_feed 42 = .ok (.aload_n 0, 1) := by decide +kernel
theorem dX8_feed_43 : decode cX8_feed 43 = .ok (.getfield 25, 3) := by decide +kernel
theorem dX8_feed_46 : decode cX8_feed 46 = .ok (.aload_n 0, 1) := by decide +kernel
theorem dX8_feed_47 : decode cX8_feed 47 = .ok (.getfield 251, 3) := by decide +kernel
theorem dX8_feed_50 : decode cX8_feed 50 = .ok (.iload_n 1, 1) := by decide +kernel
theorem dX8_feed_51 : decode cX8_feed 51 = .ok (.bipush 8, 2) := by decide +kernel
theorem dX8_feed_53 : decode cX8_feed 53 = .ok (.iload_n 3, 1) := by decide +kernel
theorem dX8_feed_54 : decode cX8_feed 54 = .ok (.imul, 1) := by decide +kernel
theorem dX8_feed_55 : decode cX8_feed 55 = .ok (.ishr, 1) := by decide +kernel
theorem dX8_feed_56 : decode cX8_feed 56 = .ok (.sipush 255, 3) := by decide +kernel
theorem dX8_feed_59 : decode cX8_feed 59 = .ok (.iand, 1) := by decide +kernel
theorem dX8_feed_60 : decode cX8_feed 60 = .ok (.iastore, 1) := by decide +kernel
theorem dX8_feed_61 : decode cX8_feed 61 = .ok (.aload_n 0, 1) := by decide +kernel
theorem dX8_feed_62 : decode cX8_feed 62 = .ok (.dup, 1) := by decide +kernel
theorem dX8_feed_63 : decode cX8_feed 63 = .ok (.getfield 251, 3) := by decide +kernel
theorem dX8_feed_66 : decode cX8_feed 66 = .ok (.iconst 1, 1) := by decide +kernel
theorem dX8_feed_67 : decode cX8_feed 67 = .ok (.iadd, 1) := by decide +kernel
theorem dX8_feed_68 : decode cX8_feed 68 = .ok (.putfield 251, 3) := by decide +kernel
theorem dX8_feed_71 : decode cX8_feed 71 = .ok (.iinc 3 (-1), 3) := by decide +kernel
theorem dX8_feed_74 : decode cX8_feed 74 = .ok (.goto (-36), 3) := by decide +kernel
theorem dX8_feed_77 : decode cX8_feed 77 = .ok (.aload_n 0, 1) := by decide +kernel
theorem dX8_feed_78 : decode cX8_feed 78 = .ok (.getfield 251, 3) := by decide +kernel
theorem dX8_feed_81 : decode cX8_feed 81 = .ok (.ireturn, 1) := by decide +kernel
theorem dX8_wipe_0 : decode cX8_wipe 0 = .ok (.aload_n 0, 1) := by decide +kernel
theorem dX8_wipe_1 : decode cX8_wipe 1 = .ok (.getfield 251, 3) := by decide +kernel
theorem dX8_wipe_4 : decode cX8_wipe 4 = .ok (.istore_n 1, 1) := by decide +kernel
theorem dX8_wipe_5 : decode cX8_wipe 5 = .ok (.aload_n 0, 1) := by decide +kernel
theorem dX8_wipe_6 : decode cX8_wipe 6 = .ok (.iconst 0, 1) := by decide +kernel
theorem dX8_wipe_7 : decode cX8_wipe 7 = .ok (.putfield 251, 3) := by decide +kernel
theorem dX8_wipe_10 : decode cX8_wipe 10 = .ok (.iload_n 1, 1) := by decide +kernel
theorem dX8_wipe_11 : decode cX8_wipe 11 = .ok (.ireturn, 1) := by decide +kernel
theorem dX8_byteAt_0 : decode cX8_byteAt 0 = .ok (.iload_n 1, 1) := by decide +kernel
theorem dX8_byteAt_1 : decode cX8_byteAt 1 = .ok (.aload_n 0, 1) := by decide +kernel
theorem dX8_byteAt_2 : decode cX8_byteAt 2 = .ok (.getfield 251, 3) := by decide +kernel
theorem dX8_byteAt_5 : decode cX8_byteAt 5 = .ok (.if_icmp .ge 12, 3) := by decide +kernel
theorem dX8_byteAt_8 : decode cX8_byteAt 8 = .ok (.aload_n 0, 1) := by decide +kernel
theorem dX8_byteAt_9 : decode cX8_byteAt 9 = .ok (.getfield 25, 3) := by decide +kernel
theorem dX8_byteAt_12 : decode cX8_byteAt 12 = .ok (.iload_n 1, 1) := by decide +kernel
theorem dX8_byteAt_13 : decode cX8_byteAt 13 = .ok (.iaload, 1) := by decide +kernel
theorem dX8_byteAt_14 : decode cX8_byteAt 14 = .ok (.goto 4, 3) := by decide +kernel
theorem dX8_byteAt_17 : decode cX8_byteAt 17 = .ok (.iconst (-1), 1) := by decide +kernel
theorem dX8_byteAt_18 : decode cX8_byteAt 18 = .ok (.ireturn, 1) := by decide +kernel
theorem dX8_next0_0 : decode cX8_next0 0 = .ok (.aload_n 0, 1) := by decide +kernel
theorem dX8_next0_1 : decode cX8_next0 1 = .ok (.aload_n 0, 1) := by decide +kernel
theorem dX8_next0_2 : decode cX8_next0 2 = .ok (.getfield 254, 3) := by decide +kernel
theorem dX8_next0_5 : decode cX8_next0 5 = .ok (.putfield 257, 3) := by decide +kernel
theorem dX8_next0_8 : decode cX8_next0 8 = .ok (.aload_n 0, 1) := by decide +kernel
theorem dX8_next0_9 : decode cX8_next0 9 = .ok (.aload_n 0, 1) := by decide +kernel
theorem dX8_next0_10 : decode cX8_next0 10 = .ok (.getfield 257, 3) := by decide +kernel
theorem dX8_next0_13 : decode cX8_next0 13 = .ok (.invokevirtual 260, 3) := by decide +kernel
theorem dX8_next0_16 : decode cX8_next0 16 = .ok (.bipush 32, 2) := by decide +kernel
theorem dX8_next0_18 : decode cX8_next0 18 = .ok (.if_icmp .ne 16, 3) := by decide +kernel
theorem dX8_next0_21 : decode cX8_next0 21 = .ok (.aload_n 0, 1) := by decide +kernel
theorem dX8_next0_22 : decode cX8_next0 22 = .ok (.dup, 1) := by decide +kernel
theorem dX8_next0_23 : decode cX8_next0 23 = .ok (.getfield 257, 3) := by decide +kernel
theorem dX8_next0_26 : decode cX8_next0 26 = .ok (.iconst 1, 1) := by decide +kernel
theorem dX8_next0_27 : decode cX8_next0 27 = .ok (.iadd, 1) := by decide +kernel
theorem dX8_next0_28 : decode cX8_next0 28 = .ok (.putfield 257, 3) := by decide +kernel
theorem dX8_next0_31 : decode cX8_next0 31 = .ok (.goto (-23), 3) := by decide +kernel
theorem dX8_next0_34 : decode cX8_next0 34 = .ok (.aload_n 0, 1) := by decide +kernel
theorem dX8_next0_35 : decode cX8_next0 35 = .ok (.aload_n 0, 1) := by decide +kernel
theorem dX8_next0_36 : decode cX8_next0 36 = .ok (.getfield 257, 3) := by decide +kernel
theorem dX8_next0_39 : decode cX8_next0 39 = .ok (.invokevirtual 260, 3) := by decide +kernel
theorem dX8_next0_42 : decode cX8_next0 42 = .ok (.istore_n 1, 1) := by decide +kernel
theorem dX8_next0_43 : decode cX8_next0 43 = .ok (.aload_n 0, 1) := by decide +kernel
theorem dX8_next0_44 : decode cX8_next0 44 = .ok (.aload_n 0, 1) := by decide +kernel
theorem dX8_next0_45 : decode cX8_next0 45 = .ok (.getfield 257, 3) := by decide +kernel
theorem dX8_next0_48 : decode cX8_next0 48 = .ok (.putfield 254, 3) := by decide +kernel
theorem dX8_next0_51 : decode cX8_next0 51 = .ok (.aload_n 0, 1) := by decide +kernel
theorem dX8_next0_52 : decode cX8_next0 52 = .ok (.iconst 0, 1) := by decide +kernel
theorem dX8_next0_53 : decode cX8_next0 53 = .ok (.putfield 263, 3) := by decide +kernel
theorem dX8_next0_56 : decode cX8_next0 56 = .ok (.iload_n 1, 1) := by decide +kernel
theorem dX8_next0_57 : decode cX8_next0 57 = .ok (.ifCond .ge 11, 3) := by decide +kernel
theorem dX8_next0_60 : decode cX8_next0 60 = .ok (.aload_n 0, 1) := by decide +kernel
theorem dX8_next0_61 : decode cX8_next0 61 = .ok (.iconst 0, 1) := by decide +kernel
theorem dX8_next0_62 : decode cX8_next0 62 = .ok (.putfield 266, 3) := by decide +kernel
theorem dX8_next0_65 : decode cX8_next0 65 = .ok (.goto 141, 3) := by decide +kernel
theorem dX8_next0_68 : decode cX8_next0 68 = .ok (.iload_n 1, 1) := by decide +kernel
theorem dX8_next0_69 : decode cX8_next0 69 = .ok (.bipush 97, 2) := by decide +kernel
theorem dX8_next0_71 : decode cX8_next0 71 = .ok (.bipush 122, 2) := by decide +kernel
theorem dX8_next0_73 : decode cX8_next0 73 = .ok (.invokestatic 68, 3) := by decide +kernel
theorem dX8_next0_76 : decode cX8_next0 76 = .ok (.ifCond .eq 39, 3) := by decide +kernel
theorem dX8_next0_79 : decode cX8_next0 79 = .ok (.aload_n 0, 1) := by decide +kernel
theorem dX8_next0_80 : decode cX8_next0 80 = .ok (.iconst 1, 1) := by decide +kernel
theorem dX8_next0_81 : decode cX8_next0 81 = .ok (.putfield 266, 3) := by decide +kernel
theorem dX8_next0_84 : decode cX8_next0 84 = .ok (.aload_n 0, 1) := by decide +kernel
theorem dX8_next0_85 : decode cX8_next0 85 = .ok (.aload_n 0, 1) := by decide +kernel
theorem dX8_next0_86 : decode cX8_next0 86 = .ok (.getfield 254, 3) := by decide +kernel
theorem dX8_next0_89 : decode cX8_next0 89 = .ok (.invokevirtual 260, 3) := by decide +kernel
theorem dX8_next0_92 : decode cX8_next0 92 = .ok (.bipush 97, 2) := by decide +kernel
theorem dX8_next0_94 : decode cX8_next0 94 = .ok (.bipush 122, 2) := by decide +kernel
theorem dX8_next0_96 : decode cX8_next0 96 = .ok (.invokestatic 68, 3) := by decide +kernel
theorem dX8_next0_99 : decode cX8_next0 99 = .ok (.ifCond .eq 107, 3) := by decide +kernel
theorem dX8_next0_102 : decode cX8_next0 102 = .ok (.aload_n 0, 1) := by decide +kernel
theorem dX8_next0_103 : decode cX8_next0 103 = .ok (.dup, 1) := by decide +kernel
theorem dX8_next0_104 : decode cX8_next0 104 = .ok (.getfield 254, 3) := by decide +kernel
theorem dX8_next0_107 : decode cX8_next0 107 = .ok (.iconst 1, 1) := by decide +kernel
theorem dX8_next0_108 : decode cX8_next0 108 = .ok (.iadd, 1) := by decide +kernel
theorem dX8_next0_109 : decode cX8_next0 109 = .ok (.putfield 254, 3) := by decide +kernel
theorem dX8_next0_112 : decode cX8_next0 112 = .ok (.goto (-28), 3) := by decide +kernel
theorem dX8_next0_115 : decode cX8_next0 115 = .ok (.iload_n 1, 1) := by decide +kernel
theorem dX8_next0_116 : decode cX8_next0 116 = .ok (.bipush 48, 2) := by decide +kernel
theorem dX8_next0_118 : decode cX8_next0 118 = .ok (.bipush 57, 2) := by decide +kernel
theorem dX8_next0_120 : decode cX8_next0 120 = .ok (.invokestatic 68, 3) := by decide +kernel
theorem dX8_next0_123 : decode cX8_next0 123 = .ok (.ifCond .eq 68, 3) := by decide +kernel
theorem dX8_next0_126 : decode cX8_next0 126 = .ok (.aload_n 0, 1) := by decide +kernel
theorem dX8_next0_127 : decode cX8_next0 127 = .ok (.iconst 2, 1) := by decide +kernel
theorem dX8_next0_128 : decode cX8_next0 128 = .ok (.putfield 266, 3) := by decide +kernel
theorem dX8_next0_131 : decode cX8_next0 131 = .ok (.aload_n 0, 1) := by decide +kernel
theorem dX8_next0_132 : decode cX8_next0 132 = .ok (.aload_n 0, 1) := by decide +kernel
theorem dX8_next0_133 : decode cX8_next0 133 = .ok (.getfield 254, 3) := by decide +kernel
theorem dX8_next0_136 : decode cX8_next0 136 = .ok (.invokevirtual 260, 3) := by decide +kernel
theorem dX8_next0_139 : decode cX8_next0 139 = .ok (.bipush 48, 2) := by decide +kernel
theorem dX8_next0_141 : decode cX8_next0 141 = .ok (.bipush 57, 2) := by decide +kernel
theorem dX8_next0_143 : decode cX8_next0 143 = .ok (.invokestatic 68, 3) := by decide +kernel
theorem dX8_next0_146 : decode cX8_next0 146 = .ok (.ifCond .eq 60, 3) := by decide +kernel
theorem dX8_next0_149 : decode cX8_next0 149 = .ok (.aload_n 0, 1) := by decide +kernel
theorem dX8_next0_150 : decode cX8_next0 150 = .ok (.sipush 1000, 3) := by decide +kernel
theorem dX8_next0_153 : decode cX8_next0 153 = .ok (.bipush 10, 2) := by decide +kernel
theorem dX8_next0_155 : decode cX8_next0 155 = .ok (.aload_n 0, 1) := by decide +kernel
theorem dX8_next0_156 : decode cX8_next0 156 = .ok (.getfield 263, 3) := by decide +kernel
theorem dX8_next0_159 : decode cX8_next0 159 = .ok (.imul, 1) := by decide +kernel
theorem dX8_next0_160 : decode cX8_next0 160 = .ok (.aload_n 0, 1) := by decide +kernel
theorem dX8_next0_161 : decode cX8_next0 161 = .ok (.aload_n 0, 1) := by decide +kernel
theorem dX8_next0_162 : decode cX8_next0 162 = .ok (.getfield 254, 3) := by decide +kernel
theorem dX8_next0_165 : decode cX8_next0 165 = .ok (.invokevirtual 260, 3) := by decide +kernel
theorem dX8_next0_168 : decode cX8_next0 168 = .ok (.iadd, 1) := by decide +kernel
theorem dX8_next0_169 : decode cX8_next0 169 = .ok (.bipush 48, 2) := by decide +kernel
theorem dX8_next0_171 : decode cX8_next0 171 = .ok (.isub, 1) := by decide +kernel
theorem dX8_next0_172 : decode cX8_next0 172 = .ok (.invokestatic 234, 3) := by decide +kernel
theorem dX8_next0_175 : decode cX8_next0 175 = .ok (.putfield 263, 3) := by decide +kernel
theorem dX8_next0_178 : decode cX8_next0 178 = .ok (.aload_n 0, 1) := by decide +kernel
theorem dX8_next0_179 : decode cX8_next0 179 = .ok (.dup, 1) := by decide +kernel
theorem dX8_next0_180 : decode cX8_next0 180 = .ok (.getfield 254, 3) := by decide +kernel
theorem dX8_next0_183 : decode cX8_next0 183 = .ok (.iconst 1, 1) := by decide +kernel
theorem dX8_next0_184 : decode cX8_next0 184 = .ok (.iadd, 1) := by decide +kernel
theorem dX8_next0_185 : decode cX8_next0 185 = .ok (.putfield 254, 3) := by decide +kernel
theorem dX8_next0_188 : decode cX8_next0 188 = .ok (.goto (-57), 3) := by decide +kernel
theorem dX8_next0_191 : decode cX8_next0 191 = .ok (.aload_n 0, 1) := by decide +kernel
theorem dX8_next0_192 : decode cX8_next0 192 = .ok (.iconst 3, 1) := by decide +kernel
theorem dX8_next0_193 : decode cX8_next0 193 = .ok (.putfield 266, 3) := by decide +kernel
theorem dX8_next0_196 : decode cX8_next0 196 = .ok (.aload_n 0, 1) := by decide +kernel
theorem dX8_next0_197 : decode cX8_next0 197 = .ok (.dup, 1) := by decide +kernel
theorem dX8_next0_198 : decode cX8_next0 198 = .ok (.getfield 254, 3) := by decide +kernel
theorem dX8_next0_201 : decode cX8_next0 201 = .ok (.iconst 1, 1) := by decide +kernel
theorem dX8_next0_202 : decode cX8_next0 202 = .ok (.iadd, 1) := by decide +kernel
theorem dX8_next0_203 : decode cX8_next0 203 = .ok (.putfield 254, 3) := by decide +kernel
theorem dX8_next0_206 : decode cX8_next0 206 = .ok (.return_, 1) := by decide +kernel
theorem dX8_isWord_0 : decode cX8_isWord 0 = .ok (.aload_n 0, 1) := by decide +kernel
theorem dX8_isWord_1 : decode cX8_isWord 1 = .ok (.getfield 266, 3) := by decide +kernel
theorem dX8_isWord_4 : decode cX8_isWord 4 = .ok (.iconst 1, 1) := by decide +kernel
theorem dX8_isWord_5 : decode cX8_isWord 5 = .ok (.if_icmp .ne 23, 3) := by decide +kernel
theorem dX8_isWord_8 : decode cX8_isWord 8 = .ok (.aload_n 0, 1) := by decide +kernel
theorem dX8_isWord_9 : decode cX8_isWord 9 = .ok (.getfield 254, 3) := by decide +kernel
theorem dX8_isWord_12 : decode cX8_isWord 12 = .ok (.aload_n 0, 1) := by decide +kernel
theorem dX8_isWord_13 : decode cX8_isWord 13 = .ok (.getfield 257, 3) := by decide +kernel
theorem dX8_isWord_16 : decode cX8_isWord 16 = .ok (.isub, 1) := by decide +kernel
theorem dX8_isWord_17 : decode cX8_isWord 17 = .ok (.aload_n 1, 1) := by decide +kernel
theorem dX8_isWord_18 : decode cX8_isWord 18 = .ok (.invokevirtual 269, 3) := by decide +kernel
theorem dX8_isWord_21 : decode cX8_isWord 21 = .ok (.if_icmp .ne 7, 3) := by decide +kernel
theorem dX8_isWord_24 : decode cX8_isWord 24 = .ok (.iconst 1, 1) := by decide +kernel
theorem dX8_isWord_25 : decode cX8_isWord 25 = .ok (.goto 4, 3) := by decide +kernel
theorem dX8_isWord_28 : decode cX8_isWord 28 = .ok (.iconst 0, 1) := by decide +kernel
theorem dX8_isWord_29 : decode cX8_isWord 29 = .ok (.istore_n 2, 1) := by decide +kernel
theorem dX8_isWord_30 : decode cX8_isWord 30 = .ok (.iconst 0, 1) := by decide +kernel
theorem dX8_isWord_31 : decode cX8_isWord 31 = .ok (.istore_n 3, 1) := by decide +kernel
theorem dX8_isWord_32 : decode cX8_isWord 32 = .ok (.iload_n 3, 1) := by decide +kernel
theorem dX8_isWord_33 : decode cX8_isWord 33 = .ok (.aload_n 1, 1) := by decide +kernel
theorem dX8_isWord_34 : decode cX8_isWord 34 = .ok (.invokevirtual 269, 3) := by decide +kernel
theorem dX8_isWord_37 : decode cX8_isWord 37 = .ok (.if_icmp .ge 38, 3) := by decide +kernel
theorem dX8_isWord_40 : decode cX8_isWord 40 = .ok (.iload_n 2, 1) := by decide +kernel
theorem dX8_isWord_41 : decode cX8_isWord 41 = .ok (.ifCond .eq 34, 3) := by decide +kernel
theorem dX8_isWord_44 : decode cX8_isWord 44 = .ok (.aload_n 0, 1) := by decide +kernel
theorem dX8_isWord_45 : decode cX8_isWord 45 = .ok (.getfield 25, 3) := by decide +kernel
theorem dX8_isWord_48 : decode cX8_isWord 48 = .ok (.aload_n 0, 1) := by decide +kernel
theorem dX8_isWord_49 : decode cX8_isWord 49 = .ok (.getfield 257, 3) := by decide +kernel
theorem dX8_isWord_52 : decode cX8_isWord 52 = .ok (.iload_n 3, 1) := by decide +kernel
theorem dX8_isWord_53 : decode cX8_isWord 53 = .ok (.iadd, 1) := by decide +kernel
theorem dX8_isWord_54 : decode cX8_isWord 54 = .ok (.iaload, 1) := by decide +kernel
theorem dX8_isWord_55 : decode cX8_isWord 55 = .ok (.aload_n 1, 1) := by decide +kernel
theorem dX8_isWord_56 : decode cX8_isWord 56 = .ok (.iload_n 3, 1) := by decide +kernel
theorem dX8_isWord_57 : decode cX8_isWord 57 = .ok (.invokevirtual 272, 3) := by decide +kernel
theorem dX8_isWord_60 : decode cX8_isWord 60 = .ok (.if_icmp .ne 7, 3) := by decide +kernel
theorem dX8_isWord_63 : decode cX8_isWord 63 = .ok (.iconst 1, 1) := by decide +kernel
theorem dX8_isWord_64 : decode cX8_isWord 64 = .ok (.goto 4, 3) := by decide +kernel
theorem dX8_isWord_67 : decode cX8_isWord 67 = .ok (.iconst 0, 1) := by decide +kernel
theorem dX8_isWord_68 : decode cX8_isWord 68 = .ok (.istore_n 2, 1) := by decide +kernel
theorem dX8_isWord_69 : decode cX8_isWord 69 = .ok (.iinc 3 1, 3) := by decide +kernel
theorem dX8_isWord_72 : decode cX8_isWord 72 = .ok (.goto (-40), 3) := by decide +kernel
theorem dX8_isWord_75 : decode cX8_isWord 75 = .ok (.iload_n 2, 1) := by decide +kernel
theorem dX8_isWord_76 : decode cX8_isWord 76 = .ok (.ireturn, 1) := by decide +kernel
theorem dX8_must_0 : decode cX8_must 0 = .ok (.aload_n 0, 1) := by decide +kernel
theorem dX8_must_1 : decode cX8_must 1 = .ok (.aload_n 0, 1) := by decide +kernel
theorem dX8_must_2 : decode cX8_must 2 = .ok (.getfield 276, 3) := by decide +kernel
theorem dX8_must_5 : decode cX8_must 5 = .ok (.ifCond .ne 7, 3) := by decide +kernel
theorem dX8_must_8 : decode cX8_must 8 = .ok (.iload_n 1, 1) := by decide +kernel
theorem dX8_must_9 : decode cX8_must 9 = .ok (.ifCond .ne 7, 3) := by decide +kernel
theorem dX8_must_12 : decode cX8_must 12 = .ok (.iconst 1, 1) := by decide +kernel
theorem dX8_must_13 : decode cX8_must 13 = .ok (.goto 4, 3) := by decide +kernel
theorem dX8_must_16 : decode cX8_must 16 = .ok (.iconst 0, 1) := by decide +kernel
theorem dX8_must_17 : decode cX8_must 17 = .ok (.putfield 276, 3) := by decide +kernel
theorem dX8_must_20 : decode cX8_must 20 = .ok (.aload_n 0, 1) := by decide +kernel
theorem dX8_must_21 : decode cX8_must 21 = .ok (.getfield 276, 3) := by decide +kernel
theorem dX8_must_24 : decode cX8_must 24 = .ok (.ifCond .ne 7, 3) := by decide +kernel
theorem dX8_must_27 : decode cX8_must 27 = .ok (.aload_n 0, 1) := by decide +kernel
theorem dX8_must_28 : decode cX8_must 28 = .ok (.invokevirtual 280, 3) := by decide +kernel
theorem dX8_must_31 : decode cX8_must 31 = .ok (.return_, 1) := by decide +kernel
theorem dX8_number_0 : decode cX8_number 0 = .ok (.aload_n 0, 1) := by decide +kernel
theorem dX8_number_1 : decode cX8_number 1 = .ok (.getfield 263, 3) := by decide +kernel
theorem dX8_number_4 : decode cX8_number 4 = .ok (.istore_n 3, 1) := by decide +kernel
theorem dX8_number_5 : decode cX8_number 5 = .ok (.aload_n 0, 1) := by decide +kernel
theorem dX8_number_6 : decode cX8_number 6 = .ok (.aload_n 0, 1) := by decide +kernel
theorem dX8_number_7 : decode cX8_number 7 = .ok (.getfield 266, 3) := by decide +kernel
theorem dX8_number_10 : decode cX8_number 10 = .ok (.iconst 2, 1) := by decide +kernel
theorem dX8_number_11 : decode cX8_number 11 = .ok (.if_icmp .ne 16, 3) := by decide +kernel
theorem dX8_number_14 : decode cX8_number 14 = .ok (.iload_n 3, 1) := by decide +kernel
theorem dX8_number_15 : decode cX8_number 15 = .ok (.iload_n 1, 1) := by decide +kernel
theorem dX8_number_16 : decode cX8_number 16 = .ok (.iload_n 2, 1) := by decide +kernel
theorem dX8_number_17 : decode cX8_number 17 = .ok (.invokestatic 68, 3) := by decide +kernel
theorem dX8_number_20 : decode cX8_number 20 = .ok (.ifCond .eq 7, 3) := by decide +kernel
theorem dX8_number_23 : decode cX8_number 23 = .ok (.iconst 1, 1) := by decide +kernel
theorem dX8_number_24 : decode cX8_number 24 = .ok (.goto 4, 3) := by decide +kernel
theorem dX8_number_27 : decode cX8_number 27 = .ok (.iconst 0, 1) := by decide +kernel
theorem dX8_number_28 : decode cX8_number 28 = .ok (.invokevirtual 283, 3) := by decide +kernel
theorem dX8_number_31 : decode cX8_number 31 = .ok (.iload_n 3, 1) := by decide +kernel
theorem dX8_number_32 : decode cX8_number 32 = .ok (.ireturn, 1) := by decide +kernel
theorem dX8_item_0 : decode cX8_item 0 = .ok (.iconst 4, 1) := by decide +kernel
theorem dX8_item_1 : decode cX8_item 1 = .ok (.aload_n 0, 1) := by decide +kernel
theorem dX8_item_2 : decode cX8_item 2 = .ok (.getfield 287, 3) := by decide +kernel
theorem dX8_item_5 : decode cX8_item 5 = .ok (.imul, 1) := by decide +kernel
theorem dX8_item_6 : decode cX8_item 6 = .ok (.istore 5, 2) := by decide +kernel
theorem dX8_item_8 : decode cX8_item 8 = .ok (.aload_n 0, 1) := by decide +kernel
theorem dX8_item_9 : decode cX8_item 9 = .ok (.getfield 48, 3) := by decide +kernel
theorem dX8_item_12 : decode cX8_item 12 = .ok (.iload 5, 2) := by decide +kernel
theorem dX8_item_14 : decode cX8_item 14 = .ok (.iload_n 1, 1) := by decide +kernel
theorem dX8_item_15 : decode cX8_item 15 = .ok (.iastore, 1) := by decide +kernel
theorem dX8_item_16 : decode cX8_item 16 = .ok (.aload_n 0, 1) := by decide +kernel
theorem dX8_item_17 : decode cX8_item 17 = .ok (.getfield 48, 3) := by decide +kernel
theorem dX8_item_20 : decode cX8_item 20 = .ok (.iload 5, 2) := by decide +kernel
theorem dX8_item_22 : decode cX8_item 22 = .ok (.iconst 1, 1) := by decide +kernel
theorem dX8_item_23 : decode cX8_item 23 = .ok (.iadd, 1) := by decide +kernel
theorem dX8_item_24 : decode cX8_item 24 = .ok (.iload_n 2, 1) := by decide +kernel
theorem dX8_item_25 : decode cX8_item 25 = .ok (.iastore, 1) := by decide +kernel
theorem dX8_item_26 : decode cX8_item 26 = .ok (.aload_n 0, 1) := by decide +kernel
theorem dX8_item_27 : decode cX8_item 27 = .ok (.getfield 48, 3) := by decide +kernel
theorem dX8_item_30 : decode cX8_item 30 = .ok (.iload 5, 2) := by decide +kernel
theorem dX8_item_32 : decode cX8_item 32 = .ok (.iconst 2, 1) := by decide +kernel
theorem dX8_item_33 : decode cX8_item 33 = .ok (.iadd, 1) := by decide +kernel
theorem dX8_item_34 : decode cX8_item 34 = .ok (.iload_n 3, 1) := by decide +kernel
theorem dX8_item_35 : decode cX8_item 35 = .ok (.iastore, 1) := by decide +kernel
theorem dX8_item_36 : decode cX8_item 36 = .ok (.aload_n 0, 1) := by decide +kernel
theorem dX8_item_37 : decode cX8_item 37 = .ok (.getfield 48, 3) := by decide +kernel
theorem dX8_item_40 : decode cX8_item 40 = .ok (.iload 5, 2) := by decide +kernel
theorem dX8_item_42 : decode cX8_item 42 = .ok (.iconst 3, 1) := by decide +kernel
theorem dX8_item_43 : decode cX8_item 43 = .ok (.iadd, 1) := by decide +kernel
theorem dX8_item_44 : decode cX8_item 44 = .ok (.iload 4, 2) := by decide +kernel
theorem dX8_item_46 : decode cX8_item 46 = .ok (.iastore, 1) := by decide +kernel
theorem dX8_item_47 : decode cX8_item 47 = .ok (.aload_n 0, 1) := by decide +kernel
theorem dX8_item_48 : decode cX8_item 48 = .ok (.dup, 1) := by decide +kernel
theorem dX8_item_49 : decode cX8_item 49 = .ok (.getfield 287, 3) := by decide +kernel
theorem dX8_item_52 : decode cX8_item 52 = .ok (.iconst 1, 1) := by decide +kernel
theorem dX8_item_53 : decode cX8_item 53 = .ok (.iadd, 1) := by decide +kernel
theorem dX8_item_54 : decode cX8_item 54 = .ok (.putfield 287, 3) := by decide +kernel
theorem dX8_item_57 : decode cX8_item 57 = .ok (.return_, 1) := by decide +kernel
theorem dX8_kindTold_0 : decode cX8_kindTold 0 = .ok (.iconst (-1), 1) := by decide +kernel
theorem dX8_kindTold_1 : decode cX8_kindTold 1 = .ok (.istore_n 1, 1) := by decide +kernel
theorem dX8_kindTold_2 : decode cX8_kindTold 2 = .ok (.iconst 0, 1) := by decide +kernel
theorem dX8_kindTold_3 : decode cX8_kindTold 3 = .ok (.istore_n 2, 1) := by decide +kernel
theorem dX8_kindTold_4 : decode cX8_kindTold 4 = .ok (.iload_n 2, 1) := by decide +kernel
theorem dX8_kindTold_5 : decode cX8_kindTold 5 = .ok (.aload_n 0, 1) := by decide +kernel
theorem dX8_kindTold_6 : decode cX8_kindTold 6 = .ok (.getfield 44, 3) := by decide +kernel
theorem dX8_kindTold_9 : decode cX8_kindTold 9 = .ok (.arraylength, 1) := by decide +kernel
theorem dX8_kindTold_10 : decode cX8_kindTold 10 = .ok (.if_icmp .ge 28, 3) := by decide +kernel
theorem dX8_kindTold_13 : decode cX8_kindTold 13 = .ok (.aload_n 0, 1) := by decide +kernel
theorem dX8_kindTold_14 : decode cX8_kindTold 14 = .ok (.aload_n 0, 1) := by decide +kernel
theorem dX8_kindTold_15 : decode cX8_kindTold 15 = .ok (.getfield 44, 3) := by decide +kernel
theorem dX8_kindTold_18 : decode cX8_kindTold 18 = .ok (.iload_n 2, 1) := by decide +kernel
theorem dX8_kindTold_19 : decode cX8_kindTold 19 = .ok (.aaload, 1) := by decide +kernel
theorem dX8_kindTold_20 : decode cX8_kindTold 20 = .ok (.invokevirtual 290, 3) := by decide +kernel
theorem dX8_kindTold_23 : decode cX8_kindTold 23 = .ok (.ifCond .eq 7, 3) := by decide +kernel
theorem dX8_kindTold_26 : decode cX8_kindTold 26 = .ok (.iload_n 2, 1) := by decide +kernel
theorem dX8_kindTold_27 : decode cX8_kindTold 27 = .ok (.goto 4, 3) := by decide +kernel
theorem dX8_kindTold_30 : decode cX8_kindTold 30 = .ok (.iload_n 1, 1) := by decide +kernel
theorem dX8_kindTold_31 : decode cX8_kindTold 31 = .ok (.istore_n 1, 1) := by decide +kernel
theorem dX8_kindTold_32 : decode cX8_kindTold 32 = .ok (.iinc 2 1, 3) := by decide +kernel
theorem dX8_kindTold_35 : decode cX8_kindTold 35 = .ok (.goto (-31), 3) := by decide +kernel
theorem dX8_kindTold_38 : decode cX8_kindTold 38 = .ok (.iload_n 1, 1) := by decide +kernel
theorem dX8_kindTold_39 : decode cX8_kindTold 39 = .ok (.ireturn, 1) := by decide +kernel
theorem dX8_isNext_0 : decode cX8_isNext 0 = .ok (.aload_n 0, 1) := by decide +kernel
theorem dX8_isNext_1 : decode cX8_isNext 1 = .ok (.getfield 276, 3) := by decide +kernel
theorem dX8_isNext_4 : decode cX8_isNext 4 = .ok (.ifCond .ne 15, 3) := by decide +kernel
theorem dX8_isNext_7 : decode cX8_isNext 7 = .ok (.aload_n 0, 1) := by decide +kernel
theorem dX8_isNext_8 : decode cX8_isNext 8 = .ok (.aload_n 1, 1) := by decide +kernel
theorem dX8_isNext_9 : decode cX8_isNext 9 = .ok (.invokevirtual 290, 3) := by decide +kernel
theorem dX8_isNext_12 : decode cX8_isNext 12 = .ok (.ifCond .eq 7, 3) := by decide +kernel
theorem dX8_isNext_15 : decode cX8_isNext 15 = .ok (.iconst 1, 1) := by decide +kernel
theorem dX8_isNext_16 : decode cX8_isNext 16 = .ok (.goto 4, 3) := by decide +kernel
theorem dX8_isNext_19 : decode cX8_isNext 19 = .ok (.iconst 0, 1) := by decide +kernel
theorem dX8_isNext_20 : decode cX8_isNext 20 = .ok (.istore_n 2, 1) := by decide +kernel
theorem dX8_isNext_21 : decode cX8_isNext 21 = .ok (.iload_n 2, 1) := by decide +kernel
theorem dX8_isNext_22 : decode cX8_isNext 22 = .ok (.ifCond .eq 8, 3) := by decide +kernel
theorem dX8_isNext_25 : decode cX8_isNext 25 = .ok (.aload_n 0, 1) := by decide +kernel
theorem dX8_isNext_26 : decode cX8_isNext 26 = .ok (.iconst 1, 1) := by decide +kernel
theorem dX8_isNext_27 : decode cX8_isNext 27 = .ok (.invokevirtual 283, 3) := by decide +kernel
theorem dX8_isNext_30 : decode cX8_isNext 30 = .ok (.iload_n 2, 1) := by decide +kernel
theorem dX8_isNext_31 : decode cX8_isNext 31 = .ok (.ireturn, 1) := by decide +kernel
theorem dX8_readItem_0 : decode cX8_readItem 0 = .ok (.aload_n 0, 1) := by decide +kernel
theorem dX8_readItem_1 : decode cX8_readItem 1 = .ok (.invokevirtual 294, 3) := by decide +kernel
theorem dX8_readItem_4 : decode cX8_readItem 4 = .ok (.istore_n 1, 1) := by decide +kernel
theorem dX8_readItem_5 : decode cX8_readItem 5 = .ok (.iload_n 1, 1) := by decide +kernel
theorem dX8_readItem_6 : decode cX8_readItem 6 = .ok (.ifCond .lt 107, 3) := by decide +kernel
theorem dX8_readItem_9 : decode cX8_readItem 9 = .ok (.aload_n 0, 1) := by decide +kernel
theorem dX8_readItem_10 : decode cX8_readItem 10 = .ok (.aload_n 0, 1) := by decide +kernel
theorem dX8_readItem_11 : decode cX8_readItem 11 = .ok (.getfield 297, 3) := by decide +kernel
theorem dX8_readItem_14 : decode cX8_readItem 14 = .ok (.bipush 10, 2) := by decide +kernel
theorem dX8_readItem_16 : decode cX8_readItem 16 = .ok (.if_icmp .ge 7, 3) := by decide +kernel
theorem dX8_readItem_19 : decode cX8_readItem 19 = .ok (.iconst 1, 1) := by decide +kernel
theorem dX8_readItem_20 : decode cX8_readItem 20 = .ok (.goto 4, 3) := by decide +kernel
theorem dX8_readItem_23 : decode cX8_readItem 23 = .ok (.iconst 0, 1) := by decide +kernel
theorem dX8_readItem_24 : decode cX8_readItem 24 = .ok (.invokevirtual 283, 3) := by decide +kernel
theorem dX8_readItem_27 : decode cX8_readItem 27 = .ok (.aload_n 0, 1) := by decide +kernel
theorem dX8_readItem_28 : decode cX8_readItem 28 = .ok (.dup, 1) := by decide +kernel
theorem dX8_readItem_29 : decode cX8_readItem 29 = .ok (.getfield 297, 3) := by decide +kernel
theorem dX8_readItem_32 : decode cX8_readItem 32 = .ok (.iconst 1, 1) := by decide +kernel
theorem dX8_readItem_33 : decode cX8_readItem 33 = .ok (.iadd, 1) := by decide +kernel
theorem dX8_readItem_34 : decode cX8_readItem 34 = .ok (.putfield 297, 3) := by decide +kernel
theorem dX8_readItem_37 : decode cX8_readItem 37 = .ok (.aload_n 0, 1) := by decide +kernel
theorem dX8_readItem_38 : decode cX8_readItem 38 = .ok (.ldc_w 300, 3) := by decide +kernel
theorem dX8_readItem_41 : decode cX8_readItem 41 = .ok (.invokevirtual 302, 3) := by decide +kernel
theorem dX8_readItem_44 : decode cX8_readItem 44 = .ok (.ifCond .eq 14, 3) := by decide +kernel
theorem dX8_readItem_47 : decode cX8_readItem 47 = .ok (.aload_n 0, 1) := by decide +kernel
theorem dX8_readItem_48 : decode cX8_readItem 48 = .ok (.iconst 0, 1) := by decide +kernel
theorem dX8_readItem_49 : decode cX8_readItem 49 = .ok (.sipush 255, 3) := by decide +kernel
theorem dX8_readItem_52 : decode cX8_readItem 52 = .ok (.invokevirtual 305, 3) := by decide +kernel
theorem dX8_readItem_55 : decode cX8_readItem 55 = .ok (.goto 4, 3) := by decide +kernel
theorem dX8_readItem_58 : decode cX8_readItem 58 = .ok (.iconst 0, 1) := by decide +kernel
theorem dX8_readItem_59 : decode cX8_readItem 59 = .ok (.istore_n 2, 1) := by decide +kernel
theorem dX8_readItem_60 : decode cX8_readItem 60 = .ok (.aload_n 0, 1) := by decide +kernel
theorem dX8_readItem_61 : decode cX8_readItem 61 = .ok (.ldc_w 308, 3) := by decide +kernel
theorem dX8_readItem_64 : decode cX8_readItem 64 = .ok (.invokevirtual 302, 3) := by decide +kernel
theorem dX8_readItem_67 : decode cX8_readItem 67 = .ok (.ifCond .eq 13, 3) := by decide +kernel
theorem dX8_readItem_70 : decode cX8_readItem 70 = .ok (.aload_n 0, 1) := by decide +kernel
theorem dX8_readItem_71 : decode cX8_readItem 71 = .ok (.iconst 1, 1) := by decide +kernel
theorem dX8_readItem_72 : decode cX8_readItem 72 = .ok (.bipush 60, 2) := by decide +kernel
theorem dX8_readItem_74 : decode cX8_readItem 74 = .ok (.invokevirtual 305, 3) := by decide +kernel
theorem dX8_readItem_77 : decode cX8_readItem 77 = .ok (.goto 5, 3) := by decide +kernel
theorem dX8_readItem_80 : decode cX8_readItem 80 = .ok (.bipush 10, 2) := by decide +kernel
theorem dX8_readItem_82 : decode cX8_readItem 82 = .ok (.istore_n 3, 1) := by decide +kernel
theorem dX8_readItem_83 : decode cX8_readItem 83 = .ok (.aload_n 0, 1) := by decide +kernel
theorem dX8_readItem_84 : decode cX8_readItem 84 = .ok (.iload_n 1, 1) := by decide +kernel
theorem dX8_readItem_85 : decode cX8_readItem 85 = .ok (.iload_n 2, 1) := by decide +kernel
theorem dX8_readItem_86 : decode cX8_readItem 86 = .ok (.iload_n 3, 1) := by decide +kernel
theorem dX8_readItem_87 : decode cX8_readItem 87 = .ok (.aload_n 0, 1) := by decide +kernel
theorem dX8_readItem_88 : decode cX8_readItem 88 = .ok (.ldc_w 310, 3) := by decide +kernel
theorem dX8_readItem_91 : decode cX8_readItem 91 = .ok (.invokevirtual 302, 3) := by decide +kernel
theorem dX8_readItem_94 : decode cX8_readItem 94 = .ok (.ifCond .eq 12, 3) := by decide +kernel
theorem dX8_readItem_97 : decode cX8_readItem 97 = .ok (.aload_n 0, 1) := by decide +kernel
theorem dX8_readItem_98 : decode cX8_readItem 98 = .ok (.iconst 0, 1) := by decide +kernel
theorem dX8_readItem_99 : decode cX8_readItem 99 = .ok (.iconst 5, 1) := by decide +kernel
theorem dX8_readItem_100 : decode cX8_readItem 100 = .ok (.invokevirtual 305, 3) := by decide +kernel
theorem dX8_readItem_103 : decode cX8_readItem 103 = .ok (.goto 4, 3) := by decide +kernel
theorem dX8_readItem_106 : decode cX8_readItem 106 = .ok (.iconst (-1), 1) := by decide +kernel
theorem dX8_readItem_107 : decode cX8_readItem 107 = .ok (.invokevirtual 312, 3) := by decide +kernel
theorem dX8_readItem_110 : decode cX8_readItem 110 = .ok (.goto 132, 3) := by decide +kernel
theorem dX8_readItem_113 : decode cX8_readItem 113 = .ok (.aload_n 0, 1) := by decide +kernel
theorem dX8_readItem_114 : decode cX8_readItem 114 = .ok (.ldc_w 316, 3) := by decide +kernel
theorem dX8_readItem_117 : decode cX8_readItem 117 = .ok (.invokevirtual 302, 3) := by decide +kernel
theorem dX8_readItem_120 : decode cX8_readItem 120 = .ok (.ifCond .eq 62, 3) := by decide +kernel
theorem dX8_readItem_123 : decode cX8_readItem 123 = .ok (.aload_n 0, 1) := by decide +kernel
theorem dX8_readItem_124 : decode cX8_readItem 124 = .ok (.iconst 0, 1) := by decide +kernel
theorem dX8_readItem_125 : decode cX8_readItem 125 = .ok (.iconst 5, 1) := by decide +kernel
theorem dX8_readItem_126 : decode cX8_readItem 126 = .ok (.invokevirtual 305, 3) := by decide +kernel
theorem dX8_readItem_129 : decode cX8_readItem 129 = .ok (.istore_n 2, 1) := by decide +kernel
theorem dX8_readItem_130 : decode cX8_readItem 130 = .ok (.aload_n 0, 1) := by decide +kernel
theorem dX8_readItem_131 : decode cX8_readItem 131 = .ok (.aload_n 0, 1) := by decide +kernel
theorem dX8_readItem_132 : decode cX8_readItem 132 = .ok (.ldc_w 300, 3) := by decide +kernel
theorem dX8_readItem_135 : decode cX8_readItem 135 = .ok (.invokevirtual 290, 3) := by decide +kernel
theorem dX8_readItem_138 : decode cX8_readItem 138 = .ok (.invokevirtual 283, 3) := by decide +kernel
theorem dX8_readItem_141 : decode cX8_readItem 141 = .ok (.aload_n 0, 1) := by decide +kernel
theorem dX8_readItem_142 : decode cX8_readItem 142 = .ok (.iconst 0, 1) := by decide +kernel
theorem dX8_readItem_143 : decode cX8_readItem 143 = .ok (.sipush 255, 3) := by decide +kernel
theorem dX8_readItem_146 : decode cX8_readItem 146 = .ok (.invokevirtual 305, 3) := by decide +kernel
theorem dX8_readItem_149 : decode cX8_readItem 149 = .ok (.istore_n 3, 1) := by decide +kernel
theorem dX8_readItem_150 : decode cX8_readItem 150 = .ok (.aload_n 0, 1) := by decide +kernel
theorem dX8_readItem_151 : decode cX8_readItem 151 = .ok (.bipush 10, 2) := by decide +kernel
theorem dX8_readItem_153 : decode cX8_readItem 153 = .ok (.iload_n 2, 1) := by decide +kernel
theorem dX8_readItem_154 : decode cX8_readItem 154 = .ok (.iload_n 3, 1) := by decide +kernel
theorem dX8_readItem_155 : decode cX8_readItem 155 = .ok (.aload_n 0, 1) := by decide +kernel
theorem dX8_readItem_156 : decode cX8_readItem 156 = .ok (.ldc_w 318, 3) := by decide +kernel
theorem dX8_readItem_159 : decode cX8_readItem 159 = .ok (.invokevirtual 302, 3) := by decide +kernel
theorem dX8_readItem_162 : decode cX8_readItem 162 = .ok (.ifCond .eq 13, 3) := by decide +kernel
theorem dX8_readItem_165 : decode cX8_readItem 165 = .ok (.aload_n 0, 1) := by decide +kernel
theorem dX8_readItem_166 : decode cX8_readItem 166 = .ok (.iconst 0, 1) := by decide +kernel
theorem dX8_readItem_167 : decode cX8_readItem 167 = .ok (.bipush 99, 2) := by decide +kernel
theorem dX8_readItem_169 : decode cX8_readItem 169 = .ok (.invokevirtual 305, 3) := by decide +kernel
theorem dX8_readItem_172 : decode cX8_readItem 172 = .ok (.goto 4, 3) := by decide +kernel
theorem dX8_readItem_175 : decode cX8_readItem 175 = .ok (.iconst (-1), 1) := by decide +kernel
theorem dX8_readItem_176 : decode cX8_readItem 176 = .ok (.invokevirtual 312, 3) := by decide +kernel
theorem dX8_readItem_179 : decode cX8_readItem 179 = .ok (.goto 63, 3) := by decide +kernel
theorem dX8_readItem_182 : decode cX8_readItem 182 = .ok (.aload_n 0, 1) := by decide +kernel
theorem dX8_readItem_183 : decode cX8_readItem 183 = .ok (.ldc_w 320, 3) := by decide +kernel
theorem dX8_readItem_186 : decode cX8_readItem 186 = .ok (.invokevirtual 302, 3) := by decide +kernel
theorem dX8_readItem_189 : decode cX8_readItem 189 = .ok (.ifCond .eq 27, 3) := by decide +kernel
theorem dX8_readItem_192 : decode cX8_readItem 192 = .ok (.aload_n 0, 1) := by decide +kernel
theorem dX8_readItem_193 : decode cX8_readItem 193 = .ok (.iconst 0, 1) := by decide +kernel
theorem dX8_readItem_194 : decode cX8_readItem 194 = .ok (.iconst 5, 1) := by decide +kernel
theorem dX8_readItem_195 : decode cX8_readItem 195 = .ok (.invokevirtual 305, 3) := by decide +kernel
theorem dX8_readItem_198 : decode cX8_readItem 198 = .ok (.istore_n 2, 1) := by decide +kernel
theorem dX8_readItem_199 : decode cX8_readItem 199 = .ok (.aload_n 0, 1) := by decide +kernel
theorem dX8_readItem_200 : decode cX8_readItem 200 = .ok (.bipush 11, 2) := by decide +kernel
theorem dX8_readItem_202 : decode cX8_readItem 202 = .ok (.iload_n 2, 1) := by decide +kernel
theorem dX8_readItem_203 : decode cX8_readItem 203 = .ok (.aload_n 0, 1) := by decide +kernel
theorem dX8_readItem_204 : decode cX8_readItem 204 = .ok (.iconst 0, 1) := by decide +kernel
theorem dX8_readItem_205 : decode cX8_readItem 205 = .ok (.iconst 5, 1) := by decide +kernel
theorem dX8_readItem_206 : decode cX8_readItem 206 = .ok (.invokevirtual 305, 3) := by decide +kernel
theorem dX8_readItem_209 : decode cX8_readItem 209 = .ok (.iconst 0, 1) := by decide +kernel
theorem dX8_readItem_210 : decode cX8_readItem 210 = .ok (.invokevirtual 312, 3) := by decide +kernel
theorem dX8_readItem_213 : decode cX8_readItem 213 = .ok (.goto 29, 3) := by decide +kernel
theorem dX8_readItem_216 : decode cX8_readItem 216 = .ok (.aload_n 0, 1) := by decide +kernel
theorem dX8_readItem_217 : decode cX8_readItem 217 = .ok (.aload_n 0, 1) := by decide +kernel
theorem dX8_readItem_218 : decode cX8_readItem 218 = .ok (.ldc_w 322, 3) := by decide +kernel
theorem dX8_readItem_221 : decode cX8_readItem 221 = .ok (.invokevirtual 290, 3) := by decide +kernel
theorem dX8_readItem_224 : decode cX8_readItem 224 = .ok (.invokevirtual 283, 3) := by decide +kernel
theorem dX8_readItem_227 : decode cX8_readItem 227 = .ok (.aload_n 0, 1) := by decide +kernel
theorem dX8_readItem_228 : decode cX8_readItem 228 = .ok (.bipush 12, 2) := by decide +kernel
theorem dX8_readItem_230 : decode cX8_readItem 230 = .ok (.aload_n 0, 1) := by decide +kernel
theorem dX8_readItem_231 : decode cX8_readItem 231 = .ok (.iconst 1, 1) := by decide +kernel
theorem dX8_readItem_232 : decode cX8_readItem 232 = .ok (.bipush 20, 2) := by decide +kernel
theorem dX8_readItem_234 : decode cX8_readItem 234 = .ok (.invokevirtual 305, 3) := by decide +kernel
theorem dX8_readItem_237 : decode cX8_readItem 237 = .ok (.iconst 0, 1) := by decide +kernel
theorem dX8_readItem_238 : decode cX8_readItem 238 = .ok (.iconst 0, 1) := by decide +kernel
theorem dX8_readItem_239 : decode cX8_readItem 239 = .ok (.invokevirtual 312, 3) := by decide +kernel
theorem dX8_readItem_242 : decode cX8_readItem 242 = .ok (.return_, 1) := by decide +kernel
end
section
theorem dX8_isSo_0 : decode cX8_isSo 0 = .ok (.aload_n 0, 1) := by decide +kernel
theorem dX8_isSo_1 : decode cX8_isSo 1 = .ok (.getfield 48, 3) := by decide +kernel
theorem dX8_isSo_4 : decode cX8_isSo 4 = .ok (.iload_n 1, 1) := by decide +kernel
theorem dX8_isSo_5 : decode cX8_isSo 5 = .ok (.iconst 1, 1) := by decide +kernel
theorem dX8_isSo_6 : decode cX8_isSo 6 = .ok (.iadd, 1) := by decide +kernel
theorem dX8_isSo_7 : decode cX8_isSo 7 = .ok (.iaload, 1) := by decide +kernel
theorem dX8_isSo_8 : decode cX8_isSo 8 = .ok (.istore_n 2, 1) := by decide +kernel
theorem dX8_isSo_9 : decode cX8_isSo 9 = .ok (.aload_n 0, 1) := by decide +kernel
theorem dX8_isSo_10 : decode cX8_isSo 10 = .ok (.getfield 48, 3) := by decide +kernel
theorem dX8_isSo_13 : decode cX8_isSo 13 = .ok (.iload_n 1, 1) := by decide +kernel
theorem dX8_isSo_14 : decode cX8_isSo 14 = .ok (.iconst 2, 1) := by decide +kernel
theorem dX8_isSo_15 : decode cX8_isSo 15 = .ok (.iadd, 1) := by decide +kernel
theorem dX8_isSo_16 : decode cX8_isSo 16 = .ok (.iaload, 1) := by decide +kernel
theorem dX8_isSo_17 : decode cX8_isSo 17 = .ok (.istore_n 3, 1) := by decide +kernel
theorem dX8_isSo_18 : decode cX8_isSo 18 = .ok (.aload_n 0, 1) := by decide +kernel
theorem dX8_isSo_19 : decode cX8_isSo 19 = .ok (.getfield 48, 3) := by decide +kernel
theorem dX8_isSo_22 : decode cX8_isSo 22 = .ok (.iload_n 1, 1) := by decide +kernel
theorem dX8_isSo_23 : decode cX8_isSo 23 = .ok (.iconst 3, 1) := by decide +kernel
theorem dX8_isSo_24 : decode cX8_isSo 24 = .ok (.iadd, 1) := by decide +kernel
theorem dX8_isSo_25 : decode cX8_isSo 25 = .ok (.iaload, 1) := by decide +kernel
theorem dX8_isSo_26 : decode cX8_isSo 26 = .ok (.istore 4, 2) := by decide +kernel
theorem dX8_isSo_28 : decode cX8_isSo 28 = .ok (.aload_n 0, 1) := by decide +kernel
theorem dX8_isSo_29 : decode cX8_isSo 29 = .ok (.getfield 48, 3) := by decide +kernel
theorem dX8_isSo_32 : decode cX8_isSo 32 = .ok (.iload_n 1, 1) := by decide +kernel
theorem dX8_isSo_33 : decode cX8_isSo 33 = .ok (.iaload, 1) := by decide +kernel
theorem dX8_isSo_34 : decode cX8_isSo 34 = .ok (.tableswitch 83 10 12 #[26, 64, 76], 26) := by decide +kernel
theorem dX8_isSo_60 : decode cX8_isSo 60 = .ok (.aload_n 0, 1) := by decide +kernel
theorem dX8_isSo_61 : decode cX8_isSo 61 = .ok (.getfield 9, 3) := by decide +kernel
theorem dX8_isSo_64 : decode cX8_isSo 64 = .ok (.bipush 21, 2) := by decide +kernel
theorem dX8_isSo_66 : decode cX8_isSo 66 = .ok (.iload_n 2, 1) := by decide +kernel
theorem dX8_isSo_67 : decode cX8_isSo 67 = .ok (.iadd, 1) := by decide +kernel
theorem dX8_isSo_68 : decode cX8_isSo 68 = .ok (.iload 4, 2) := by decide +kernel
theorem dX8_isSo_70 : decode cX8_isSo 70 = .ok (.ifCond .ge 15, 3) := by decide +kernel
theorem dX8_isSo_73 : decode cX8_isSo 73 = .ok (.aload_n 0, 1) := by decide +kernel
theorem dX8_isSo_74 : decode cX8_isSo 74 = .ok (.getfield 9, 3) := by decide +kernel
theorem dX8_isSo_77 : decode cX8_isSo 77 = .ok (.bipush 21, 2) := by decide +kernel
theorem dX8_isSo_79 : decode cX8_isSo 79 = .ok (.iload_n 2, 1) := by decide +kernel
theorem dX8_isSo_80 : decode cX8_isSo 80 = .ok (.iadd, 1) := by decide +kernel
theorem dX8_isSo_81 : decode cX8_isSo 81 = .ok (.iaload, 1) := by decide +kernel
theorem dX8_isSo_82 : decode cX8_isSo 82 = .ok (.goto 5, 3) := by decide +kernel
theorem dX8_isSo_85 : decode cX8_isSo 85 = .ok (.iload 4, 2) := by decide +kernel
theorem dX8_isSo_87 : decode cX8_isSo 87 = .ok (.iastore, 1) := by decide +kernel
theorem dX8_isSo_88 : decode cX8_isSo 88 = .ok (.aload_n 0, 1) := by decide +kernel
theorem dX8_isSo_89 : decode cX8_isSo 89 = .ok (.bipush 15, 2) := by decide +kernel
theorem dX8_isSo_91 : decode cX8_isSo 91 = .ok (.iload_n 2, 1) := by decide +kernel
theorem dX8_isSo_92 : decode cX8_isSo 92 = .ok (.iadd, 1) := by decide +kernel
theorem dX8_isSo_93 : decode cX8_isSo 93 = .ok (.iload_n 3, 1) := by decide +kernel
theorem dX8_isSo_94 : decode cX8_isSo 94 = .ok (.invokevirtual 108, 3) := by decide +kernel
theorem dX8_isSo_97 : decode cX8_isSo 97 = .ok (.ireturn, 1) := by decide +kernel
theorem dX8_isSo_98 : decode cX8_isSo 98 = .ok (.aload_n 0, 1) := by decide +kernel
theorem dX8_isSo_99 : decode cX8_isSo 99 = .ok (.getfield 9, 3) := by decide +kernel
theorem dX8_isSo_102 : decode cX8_isSo 102 = .ok (.bipush 27, 2) := by decide +kernel
theorem dX8_isSo_104 : decode cX8_isSo 104 = .ok (.iload_n 2, 1) := by decide +kernel
theorem dX8_isSo_105 : decode cX8_isSo 105 = .ok (.iadd, 1) := by decide +kernel
theorem dX8_isSo_106 : decode cX8_isSo 106 = .ok (.iload_n 3, 1) := by decide +kernel
theorem dX8_isSo_107 : decode cX8_isSo 107 = .ok (.iastore, 1) := by decide +kernel
theorem dX8_isSo_108 : decode cX8_isSo 108 = .ok (.iload_n 3, 1) := by decide +kernel
theorem dX8_isSo_109 : decode cX8_isSo 109 = .ok (.ireturn, 1) := by decide +kernel
theorem dX8_isSo_110 : decode cX8_isSo 110 = .ok (.aload_n 0, 1) := by decide +kernel
theorem dX8_isSo_111 : decode cX8_isSo 111 = .ok (.iconst 1, 1) := by decide +kernel
theorem dX8_isSo_112 : decode cX8_isSo 112 = .ok (.iload_n 2, 1) := by decide +kernel
theorem dX8_isSo_113 : decode cX8_isSo 113 = .ok (.invokevirtual 108, 3) := by decide +kernel
theorem dX8_isSo_116 : decode cX8_isSo 116 = .ok (.ireturn, 1) := by decide +kernel
theorem dX8_isSo_117 : decode cX8_isSo 117 = .ok (.aload_n 0, 1) := by decide +kernel
theorem dX8_isSo_118 : decode cX8_isSo 118 = .ok (.aload_n 0, 1) := by decide +kernel
theorem dX8_isSo_119 : decode cX8_isSo 119 = .ok (.getfield 48, 3) := by decide +kernel
theorem dX8_isSo_122 : decode cX8_isSo 122 = .ok (.iload_n 1, 1) := by decide +kernel
theorem dX8_isSo_123 : decode cX8_isSo 123 = .ok (.iaload, 1) := by decide +kernel
theorem dX8_isSo_124 : decode cX8_isSo 124 = .ok (.iload_n 2, 1) := by decide +kernel
theorem dX8_isSo_125 : decode cX8_isSo 125 = .ok (.iload_n 3, 1) := by decide +kernel
theorem dX8_isSo_126 : decode cX8_isSo 126 = .ok (.iload 4, 2) := by decide +kernel
theorem dX8_isSo_128 : decode cX8_isSo 128 = .ok (.invokevirtual 85, 3) := by decide +kernel
theorem dX8_isSo_131 : decode cX8_isSo 131 = .ok (.ireturn, 1) := by decide +kernel
theorem dX8_text_0 : decode cX8_text 0 = .ok (.aload_n 0, 1) := by decide +kernel
theorem dX8_text_1 : decode cX8_text 1 = .ok (.iconst 0, 1) := by decide +kernel
theorem dX8_text_2 : decode cX8_text 2 = .ok (.putfield 254, 3) := by decide +kernel
theorem dX8_text_5 : decode cX8_text 5 = .ok (.aload_n 0, 1) := by decide +kernel
theorem dX8_text_6 : decode cX8_text 6 = .ok (.iconst 0, 1) := by decide +kernel
theorem dX8_text_7 : decode cX8_text 7 = .ok (.putfield 276, 3) := by decide +kernel
theorem dX8_text_10 : decode cX8_text 10 = .ok (.aload_n 0, 1) := by decide +kernel
theorem dX8_text_11 : decode cX8_text 11 = .ok (.iconst 0, 1) := by decide +kernel
theorem dX8_text_12 : decode cX8_text 12 = .ok (.putfield 287, 3) := by decide +kernel
theorem dX8_text_15 : decode cX8_text 15 = .ok (.aload_n 0, 1) := by decide +kernel
theorem dX8_text_16 : decode cX8_text 16 = .ok (.aload_n 0, 1) := by decide +kernel
theorem dX8_text_17 : decode cX8_text 17 = .ok (.getfield 9, 3) := by decide +kernel
theorem dX8_text_20 : decode cX8_text 20 = .ok (.iconst 2, 1) := by decide +kernel
theorem dX8_text_21 : decode cX8_text 21 = .ok (.iaload, 1) := by decide +kernel
theorem dX8_text_22 : decode cX8_text 22 = .ok (.putfield 297, 3) := by decide +kernel
theorem dX8_text_25 : decode cX8_text 25 = .ok (.aload_n 0, 1) := by decide +kernel
theorem dX8_text_26 : decode cX8_text 26 = .ok (.invokevirtual 280, 3) := by decide +kernel
theorem dX8_text_29 : decode cX8_text 29 = .ok (.aload_n 0, 1) := by decide +kernel
theorem dX8_text_30 : decode cX8_text 30 = .ok (.invokevirtual 324, 3) := by decide +kernel
theorem dX8_text_33 : decode cX8_text 33 = .ok (.aload_n 0, 1) := by decide +kernel
theorem dX8_text_34 : decode cX8_text 34 = .ok (.getfield 276, 3) := by decide +kernel
theorem dX8_text_37 : decode cX8_text 37 = .ok (.ifCond .ne 37, 3) := by decide +kernel
theorem dX8_text_40 : decode cX8_text 40 = .ok (.aload_n 0, 1) := by decide +kernel
theorem dX8_text_41 : decode cX8_text 41 = .ok (.getfield 266, 3) := by decide +kernel
theorem dX8_text_44 : decode cX8_text 44 = .ok (.iconst 3, 1) := by decide +kernel
theorem dX8_text_45 : decode cX8_text 45 = .ok (.if_icmp .ne 29, 3) := by decide +kernel
theorem dX8_text_48 : decode cX8_text 48 = .ok (.aload_n 0, 1) := by decide +kernel
theorem dX8_text_49 : decode cX8_text 49 = .ok (.getfield 25, 3) := by decide +kernel
theorem dX8_text_52 : decode cX8_text 52 = .ok (.aload_n 0, 1) := by decide +kernel
theorem dX8_text_53 : decode cX8_text 53 = .ok (.getfield 257, 3) := by decide +kernel
theorem dX8_text_56 : decode cX8_text 56 = .ok (.iaload, 1) := by decide +kernel
theorem dX8_text_57 : decode cX8_text 57 = .ok (.bipush 59, 2) := by decide +kernel
theorem dX8_text_59 : decode cX8_text 59 = .ok (.if_icmp .ne 15, 3) := by decide +kernel
theorem dX8_text_62 : decode cX8_text 62 = .ok (.aload_n 0, 1) := by decide +kernel
theorem dX8_text_63 : decode cX8_text 63 = .ok (.iconst 1, 1) := by decide +kernel
theorem dX8_text_64 : decode cX8_text 64 = .ok (.invokevirtual 283, 3) := by decide +kernel
theorem dX8_text_67 : decode cX8_text 67 = .ok (.aload_n 0, 1) := by decide +kernel
theorem dX8_text_68 : decode cX8_text 68 = .ok (.invokevirtual 324, 3) := by decide +kernel
theorem dX8_text_71 : decode cX8_text 71 = .ok (.goto (-38), 3) := by decide +kernel
theorem dX8_text_74 : decode cX8_text 74 = .ok (.aload_n 0, 1) := by decide +kernel
theorem dX8_text_75 : decode cX8_text 75 = .ok (.aload_n 0, 1) := by decide +kernel
theorem dX8_text_76 : decode cX8_text 76 = .ok (.getfield 266, 3) := by decide +kernel
theorem dX8_text_79 : decode cX8_text 79 = .ok (.ifCond .ne 7, 3) := by decide +kernel
theorem dX8_text_82 : decode cX8_text 82 = .ok (.iconst 1, 1) := by decide +kernel
theorem dX8_text_83 : decode cX8_text 83 = .ok (.goto 4, 3) := by decide +kernel
theorem dX8_text_86 : decode cX8_text 86 = .ok (.iconst 0, 1) := by decide +kernel
theorem dX8_text_87 : decode cX8_text 87 = .ok (.invokevirtual 283, 3) := by decide +kernel
theorem dX8_text_90 : decode cX8_text 90 = .ok (.aload_n 0, 1) := by decide +kernel
theorem dX8_text_91 : decode cX8_text 91 = .ok (.iconst 0, 1) := by decide +kernel
theorem dX8_text_92 : decode cX8_text 92 = .ok (.putfield 251, 3) := by decide +kernel
theorem dX8_text_95 : decode cX8_text 95 = .ok (.aload_n 0, 1) := by decide +kernel
theorem dX8_text_96 : decode cX8_text 96 = .ok (.getfield 276, 3) := by decide +kernel
theorem dX8_text_99 : decode cX8_text 99 = .ok (.ifCond .eq 10, 3) := by decide +kernel
theorem dX8_text_102 : decode cX8_text 102 = .ok (.iconst (-1), 1) := by decide +kernel
theorem dX8_text_103 : decode cX8_text 103 = .ok (.aload_n 0, 1) := by decide +kernel
theorem dX8_text_104 : decode cX8_text 104 = .ok (.getfield 257, 3) := by decide +kernel
theorem dX8_text_107 : decode cX8_text 107 = .ok (.isub, 1) := by decide +kernel
theorem dX8_text_108 : decode cX8_text 108 = .ok (.ireturn, 1) := by decide +kernel
theorem dX8_text_109 : decode cX8_text 109 = .ok (.iconst 0, 1) := by decide +kernel
theorem dX8_text_110 : decode cX8_text 110 = .ok (.istore_n 1, 1) := by decide +kernel
theorem dX8_text_111 : decode cX8_text 111 = .ok (.iconst 0, 1) := by decide +kernel
theorem dX8_text_112 : decode cX8_text 112 = .ok (.istore_n 2, 1) := by decide +kernel
theorem dX8_text_113 : decode cX8_text 113 = .ok (.iload_n 2, 1) := by decide +kernel
theorem dX8_text_114 : decode cX8_text 114 = .ok (.aload_n 0, 1) := by decide +kernel
theorem dX8_text_115 : decode cX8_text 115 = .ok (.getfield 287, 3) := by decide +kernel
theorem dX8_text_118 : decode cX8_text 118 = .ok (.if_icmp .ge 27, 3) := by decide +kernel
theorem dX8_text_121 : decode cX8_text 121 = .ok (.iload_n 1, 1) := by decide +kernel
theorem dX8_text_122 : decode cX8_text 122 = .ok (.aload_n 0, 1) := by decide +kernel
theorem dX8_text_123 : decode cX8_text 123 = .ok (.iconst 4, 1) := by decide +kernel
theorem dX8_text_124 : decode cX8_text 124 = .ok (.iload_n 2, 1) := by decide +kernel
theorem dX8_text_125 : decode cX8_text 125 = .ok (.imul, 1) := by decide +kernel
theorem dX8_text_126 : decode cX8_text 126 = .ok (.invokevirtual 327, 3) := by decide +kernel
theorem dX8_text_129 : decode cX8_text 129 = .ok (.ifCond .ge 7, 3) := by decide +kernel
theorem dX8_text_132 : decode cX8_text 132 = .ok (.iconst 0, 1) := by decide +kernel
theorem dX8_text_133 : decode cX8_text 133 = .ok (.goto 4, 3) := by decide +kernel
theorem dX8_text_136 : decode cX8_text 136 = .ok (.iconst 1, 1) := by decide +kernel
theorem dX8_text_137 : decode cX8_text 137 = .ok (.iadd, 1) := by decide +kernel
theorem dX8_text_138 : decode cX8_text 138 = .ok (.istore_n 1, 1) := by decide +kernel
theorem dX8_text_139 : decode cX8_text 139 = .ok (.iinc 2 1, 3) := by decide +kernel
theorem dX8_text_142 : decode cX8_text 142 = .ok (.goto (-29), 3) := by decide +kernel
theorem dX8_text_145 : decode cX8_text 145 = .ok (.iload_n 1, 1) := by decide +kernel
theorem dX8_text_146 : decode cX8_text 146 = .ok (.ireturn, 1) := by decide +kernel
theorem dX8_isSpot_0 : decode cX8_isSpot 0 = .ok (.iload_n 0, 1) := by decide +kernel
theorem dX8_isSpot_1 : decode cX8_isSpot 1 = .ok (.iconst 0, 1) := by decide +kernel
theorem dX8_isSpot_2 : decode cX8_isSpot 2 = .ok (.bipush 9, 2) := by decide +kernel
theorem dX8_isSpot_4 : decode cX8_isSpot 4 = .ok (.invokestatic 68, 3) := by decide +kernel
theorem dX8_isSpot_7 : decode cX8_isSpot 7 = .ok (.ireturn, 1) := by decide +kernel
theorem dX8_hold_0 : decode cX8_hold 0 = .ok (.iload_n 1, 1) := by decide +kernel
theorem dX8_hold_1 : decode cX8_hold 1 = .ok (.invokestatic 330, 3) := by decide +kernel
theorem dX8_hold_4 : decode cX8_hold 4 = .ok (.ifCond .eq 16, 3) := by decide +kernel
theorem dX8_hold_7 : decode cX8_hold 7 = .ok (.iload_n 2, 1) := by decide +kernel
theorem dX8_hold_8 : decode cX8_hold 8 = .ok (.iconst (-1), 1) := by decide +kernel
theorem dX8_hold_9 : decode cX8_hold 9 = .ok (.if_icmp .eq 18, 3) := by decide +kernel
theorem dX8_hold_12 : decode cX8_hold 12 = .ok (.aload_n 0, 1) := by decide +kernel
theorem dX8_hold_13 : decode cX8_hold 13 = .ok (.iload_n 2, 1) := by decide +kernel
theorem dX8_hold_14 : decode cX8_hold 14 = .ok (.invokevirtual 99, 3) := by decide +kernel
theorem dX8_hold_17 : decode cX8_hold 17 = .ok (.ifCond .ne 10, 3) := by decide +kernel
theorem dX8_hold_20 : decode cX8_hold 20 = .ok (.aload_n 0, 1) := by decide +kernel
theorem dX8_hold_21 : decode cX8_hold 21 = .ok (.ldc 63, 2) := by decide +kernel
theorem dX8_hold_23 : decode cX8_hold 23 = .ok (.invokevirtual 80, 3) := by decide +kernel
theorem dX8_hold_26 : decode cX8_hold 26 = .ok (.ireturn, 1) := by decide +kernel
theorem dX8_hold_27 : decode cX8_hold 27 = .ok (.aload_n 0, 1) := by decide +kernel
theorem dX8_hold_28 : decode cX8_hold 28 = .ok (.getfield 9, 3) := by decide +kernel
theorem dX8_hold_31 : decode cX8_hold 31 = .ok (.iconst 5, 1) := by decide +kernel
theorem dX8_hold_32 : decode cX8_hold 32 = .ok (.iload_n 1, 1) := by decide +kernel
theorem dX8_hold_33 : decode cX8_hold 33 = .ok (.iadd, 1) := by decide +kernel
theorem dX8_hold_34 : decode cX8_hold 34 = .ok (.iload_n 2, 1) := by decide +kernel
theorem dX8_hold_35 : decode cX8_hold 35 = .ok (.iastore, 1) := by decide +kernel
theorem dX8_hold_36 : decode cX8_hold 36 = .ok (.iconst 1, 1) := by decide +kernel
theorem dX8_hold_37 : decode cX8_hold 37 = .ok (.ireturn, 1) := by decide +kernel
theorem dX8_as_0 : decode cX8_as 0 = .ok (.iload_n 1, 1) := by decide +kernel
theorem dX8_as_1 : decode cX8_as 1 = .ok (.invokestatic 330, 3) := by decide +kernel
theorem dX8_as_4 : decode cX8_as 4 = .ok (.ifCond .eq 10, 3) := by decide +kernel
theorem dX8_as_7 : decode cX8_as 7 = .ok (.iload_n 2, 1) := by decide +kernel
theorem dX8_as_8 : decode cX8_as 8 = .ok (.invokestatic 76, 3) := by decide +kernel
theorem dX8_as_11 : decode cX8_as 11 = .ok (.ifCond .ne 10, 3) := by decide +kernel
theorem dX8_as_14 : decode cX8_as 14 = .ok (.aload_n 0, 1) := by decide +kernel
theorem dX8_as_15 : decode cX8_as 15 = .ok (.ldc 63, 2) := by decide +kernel
theorem dX8_as_17 : decode cX8_as 17 = .ok (.invokevirtual 80, 3) := by decide +kernel
theorem dX8_as_20 : decode cX8_as 20 = .ok (.ireturn, 1) := by decide +kernel
theorem dX8_as_21 : decode cX8_as 21 = .ok (.aload_n 0, 1) := by decide +kernel
theorem dX8_as_22 : decode cX8_as 22 = .ok (.getfield 9, 3) := by decide +kernel
theorem dX8_as_25 : decode cX8_as 25 = .ok (.iconst 5, 1) := by decide +kernel
theorem dX8_as_26 : decode cX8_as 26 = .ok (.iload_n 1, 1) := by decide +kernel
theorem dX8_as_27 : decode cX8_as 27 = .ok (.iadd, 1) := by decide +kernel
theorem dX8_as_28 : decode cX8_as 28 = .ok (.iaload, 1) := by decide +kernel
theorem dX8_as_29 : decode cX8_as 29 = .ok (.istore_n 3, 1) := by decide +kernel
theorem dX8_as_30 : decode cX8_as 30 = .ok (.iload_n 3, 1) := by decide +kernel
theorem dX8_as_31 : decode cX8_as 31 = .ok (.ifCond .ge 10, 3) := by decide +kernel
theorem dX8_as_34 : decode cX8_as 34 = .ok (.aload_n 0, 1) := by decide +kernel
theorem dX8_as_35 : decode cX8_as 35 = .ok (.ldc 240, 2) := by decide +kernel
theorem dX8_as_37 : decode cX8_as 37 = .ok (.invokevirtual 80, 3) := by decide +kernel
theorem dX8_as_40 : decode cX8_as 40 = .ok (.ireturn, 1) := by decide +kernel
theorem dX8_as_41 : decode cX8_as 41 = .ok (.aload_n 0, 1) := by decide +kernel
theorem dX8_as_42 : decode cX8_as 42 = .ok (.iload_n 3, 1) := by decide +kernel
theorem dX8_as_43 : decode cX8_as 43 = .ok (.iconst 0, 1) := by decide +kernel
theorem dX8_as_44 : decode cX8_as 44 = .ok (.invokevirtual 92, 3) := by decide +kernel
theorem dX8_as_47 : decode cX8_as 47 = .ok (.iload_n 2, 1) := by decide +kernel
theorem dX8_as_48 : decode cX8_as 48 = .ok (.invokestatic 95, 3) := by decide +kernel
theorem dX8_as_51 : decode cX8_as 51 = .ok (.ifCond .eq 7, 3) := by decide +kernel
theorem dX8_as_54 : decode cX8_as 54 = .ok (.iload_n 3, 1) := by decide +kernel
theorem dX8_as_55 : decode cX8_as 55 = .ok (.goto 9, 3) := by decide +kernel
theorem dX8_as_58 : decode cX8_as 58 = .ok (.aload_n 0, 1) := by decide +kernel
theorem dX8_as_59 : decode cX8_as 59 = .ok (.ldc 201, 2) := by decide +kernel
theorem dX8_as_61 : decode cX8_as 61 = .ok (.invokevirtual 80, 3) := by decide +kernel
theorem dX8_as_64 : decode cX8_as 64 = .ok (.ireturn, 1) := by decide +kernel
theorem dX8_isSheet_0 : decode cX8_isSheet 0 = .ok (.iload_n 0, 1) := by decide +kernel
theorem dX8_isSheet_1 : decode cX8_isSheet 1 = .ok (.iconst 0, 1) := by decide +kernel
theorem dX8_isSheet_2 : decode cX8_isSheet 2 = .ok (.iconst 3, 1) := by decide +kernel
theorem dX8_isSheet_3 : decode cX8_isSheet 3 = .ok (.invokestatic 68, 3) := by decide +kernel
theorem dX8_isSheet_6 : decode cX8_isSheet 6 = .ok (.ireturn, 1) := by decide +kernel
theorem dX8_cutTo_0 : decode cX8_cutTo 0 = .ok (.iload_n 1, 1) := by decide +kernel
theorem dX8_cutTo_1 : decode cX8_cutTo 1 = .ok (.bipush 8, 2) := by decide +kernel
theorem dX8_cutTo_3 : decode cX8_cutTo 3 = .ok (.if_icmp .ne 8, 3) := by decide +kernel
theorem dX8_cutTo_6 : decode cX8_cutTo 6 = .ok (.iload_n 0, 1) := by decide +kernel
theorem dX8_cutTo_7 : decode cX8_cutTo 7 = .ok (.i2b, 1) := by decide +kernel
theorem dX8_cutTo_8 : decode cX8_cutTo 8 = .ok (.goto 15, 3) := by decide +kernel
theorem dX8_cutTo_11 : decode cX8_cutTo 11 = .ok (.iload_n 1, 1) := by decide +kernel
theorem dX8_cutTo_12 : decode cX8_cutTo 12 = .ok (.bipush 16, 2) := by decide +kernel
theorem dX8_cutTo_14 : decode cX8_cutTo 14 = .ok (.if_icmp .ne 8, 3) := by decide +kernel
theorem dX8_cutTo_17 : decode cX8_cutTo 17 = .ok (.iload_n 0, 1) := by decide +kernel
theorem dX8_cutTo_18 : decode cX8_cutTo 18 = .ok (.i2s, 1) := by decide +kernel
theorem dX8_cutTo_19 : decode cX8_cutTo 19 = .ok (.goto 4, 3) := by decide +kernel
theorem dX8_cutTo_22 : decode cX8_cutTo 22 = .ok (.iload_n 0, 1) := by decide +kernel
theorem dX8_cutTo_23 : decode cX8_cutTo 23 = .ok (.ireturn, 1) := by decide +kernel
theorem dX8_sheet_0 : decode cX8_sheet 0 = .ok (.iload_n 1, 1) := by decide +kernel
theorem dX8_sheet_1 : decode cX8_sheet 1 = .ok (.invokestatic 237, 3) := by decide +kernel
theorem dX8_sheet_4 : decode cX8_sheet 4 = .ok (.ifCond .eq 25, 3) := by decide +kernel
theorem dX8_sheet_7 : decode cX8_sheet 7 = .ok (.iload_n 2, 1) := by decide +kernel
theorem dX8_sheet_8 : decode cX8_sheet 8 = .ok (.ifCond .eq 28, 3) := by decide +kernel
theorem dX8_sheet_11 : decode cX8_sheet 11 = .ok (.iload_n 2, 1) := by decide +kernel
theorem dX8_sheet_12 : decode cX8_sheet 12 = .ok (.bipush 8, 2) := by decide +kernel
theorem dX8_sheet_14 : decode cX8_sheet 14 = .ok (.if_icmp .eq 22, 3) := by decide +kernel
theorem dX8_sheet_17 : decode cX8_sheet 17 = .ok (.iload_n 2, 1) := by decide +kernel
theorem dX8_sheet_18 : decode cX8_sheet 18 = .ok (.bipush 16, 2) := by decide +kernel
theorem dX8_sheet_20 : decode cX8_sheet 20 = .ok (.if_icmp .eq 16, 3) := by decide +kernel
theorem dX8_sheet_23 : decode cX8_sheet 23 = .ok (.iload_n 2, 1) := by decide +kernel
theorem dX8_sheet_24 : decode cX8_sheet 24 = .ok (.bipush 32, 2) := by decide +kernel
theorem dX8_sheet_26 : decode cX8_sheet 26 = .ok (.if_icmp .eq 10, 3) := by decide +kernel
theorem dX8_sheet_29 : decode cX8_sheet 29 = .ok (.aload_n 0, 1) := by decide +kernel
theorem dX8_sheet_30 : decode cX8_sheet 30 = .ok (.ldc 63, 2) := by decide +kernel
theorem dX8_sheet_32 : decode cX8_sheet 32 = .ok (.invokevirtual 80, 3) := by decide +kernel
theorem dX8_sheet_35 : decode cX8_sheet 35 = .ok (.ireturn, 1) := by decide +kernel
theorem dX8_sheet_36 : decode cX8_sheet 36 = .ok (.iload_n 3, 1) := by decide +kernel
theorem dX8_sheet_37 : decode cX8_sheet 37 = .ok (.ifCond .ge 11, 3) := by decide +kernel
theorem dX8_sheet_40 : decode cX8_sheet 40 = .ok (.aload_n 0, 1) := by decide +kernel
theorem dX8_sheet_41 : decode cX8_sheet 41 = .ok (.ldc_w 333, 3) := by decide +kernel
theorem dX8_sheet_44 : decode cX8_sheet 44 = .ok (.invokevirtual 80, 3) := by decide +kernel
theorem dX8_sheet_47 : decode cX8_sheet 47 = .ok (.ireturn, 1) := by decide +kernel
theorem dX8_sheet_48 : decode cX8_sheet 48 = .ok (.iload_n 3, 1) := by decide +kernel
theorem dX8_sheet_49 : decode cX8_sheet 49 = .ok (.bipush 40, 2) := by decide +kernel
theorem dX8_sheet_51 : decode cX8_sheet 51 = .ok (.if_icmp .le 10, 3) := by decide +kernel
theorem dX8_sheet_54 : decode cX8_sheet 54 = .ok (.aload_n 0, 1) := by decide +kernel
theorem dX8_sheet_55 : decode cX8_sheet 55 = .ok (.ldc 63, 2) := by decide +kernel
theorem dX8_sheet_57 : decode cX8_sheet 57 = .ok (.invokevirtual 80, 3) := by decide +kernel
theorem dX8_sheet_60 : decode cX8_sheet 60 = .ok (.ireturn, 1) := by decide +kernel
theorem dX8_sheet_61 : decode cX8_sheet 61 = .ok (.aload_n 0, 1) := by decide +kernel
theorem dX8_sheet_62 : decode cX8_sheet 62 = .ok (.getfield 51, 3) := by decide +kernel
theorem dX8_sheet_65 : decode cX8_sheet 65 = .ok (.iload_n 1, 1) := by decide +kernel
theorem dX8_sheet_66 : decode cX8_sheet 66 = .ok (.iload_n 2, 1) := by decide +kernel
theorem dX8_sheet_67 : decode cX8_sheet 67 = .ok (.iastore, 1) := by decide +kernel
theorem dX8_sheet_68 : decode cX8_sheet 68 = .ok (.aload_n 0, 1) := by decide +kernel
theorem dX8_sheet_69 : decode cX8_sheet 69 = .ok (.getfield 54, 3) := by decide +kernel
theorem dX8_sheet_72 : decode cX8_sheet 72 = .ok (.iload_n 1, 1) := by decide +kernel
theorem dX8_sheet_73 : decode cX8_sheet 73 = .ok (.iload_n 2, 1) := by decide +kernel
theorem dX8_sheet_74 : decode cX8_sheet 74 = .ok (.ifCond .ne 7, 3) := by decide +kernel
theorem dX8_sheet_77 : decode cX8_sheet 77 = .ok (.iconst 0, 1) := by decide +kernel
theorem dX8_sheet_78 : decode cX8_sheet 78 = .ok (.goto 4, 3) := by decide +kernel
theorem dX8_sheet_81 : decode cX8_sheet 81 = .ok (.iload_n 3, 1) := by decide +kernel
theorem dX8_sheet_82 : decode cX8_sheet 82 = .ok (.iastore, 1) := by decide +kernel
theorem dX8_sheet_83 : decode cX8_sheet 83 = .ok (.iconst 0, 1) := by decide +kernel
theorem dX8_sheet_84 : decode cX8_sheet 84 = .ok (.istore 4, 2) := by decide +kernel
theorem dX8_sheet_86 : decode cX8_sheet 86 = .ok (.iload 4, 2) := by decide +kernel
theorem dX8_sheet_88 : decode cX8_sheet 88 = .ok (.bipush 40, 2) := by decide +kernel
theorem dX8_sheet_90 : decode cX8_sheet 90 = .ok (.if_icmp .ge 22, 3) := by decide +kernel
theorem dX8_sheet_93 : decode cX8_sheet 93 = .ok (.aload_n 0, 1) := by decide +kernel
theorem dX8_sheet_94 : decode cX8_sheet 94 = .ok (.getfield 57, 3) := by decide +kernel
theorem dX8_sheet_97 : decode cX8_sheet 97 = .ok (.bipush 40, 2) := by decide +kernel
theorem dX8_sheet_99 : decode cX8_sheet 99 = .ok (.iload_n 1, 1) := by decide +kernel
theorem dX8_sheet_100 : decode cX8_sheet 100 = .ok (.imul, 1) := by decide +kernel
theorem dX8_sheet_101 : decode cX8_sheet 101 = .ok (.iload 4, 2) := by decide +kernel
theorem dX8_sheet_103 : decode cX8_sheet 103 = .ok (.iadd, 1) := by decide +kernel
theorem dX8_sheet_104 : decode cX8_sheet 104 = .ok (.iconst 0, 1) := by decide +kernel
theorem dX8_sheet_105 : decode cX8_sheet 105 = .ok (.iastore, 1) := by decide +kernel
theorem dX8_sheet_106 : decode cX8_sheet 106 = .ok (.iinc 4 1, 3) := by decide +kernel
theorem dX8_sheet_109 : decode cX8_sheet 109 = .ok (.goto (-23), 3) := by decide +kernel
theorem dX8_sheet_112 : decode cX8_sheet 112 = .ok (.aload_n 0, 1) := by decide +kernel
theorem dX8_sheet_113 : decode cX8_sheet 113 = .ok (.getfield 54, 3) := by decide +kernel
theorem dX8_sheet_116 : decode cX8_sheet 116 = .ok (.iload_n 1, 1) := by decide +kernel
theorem dX8_sheet_117 : decode cX8_sheet 117 = .ok (.iaload, 1) := by decide +kernel
theorem dX8_sheet_118 : decode cX8_sheet 118 = .ok (.ireturn, 1) := by decide +kernel
theorem dX8_write_0 : decode cX8_write 0 = .ok (.iload_n 1, 1) := by decide +kernel
theorem dX8_write_1 : decode cX8_write 1 = .ok (.invokestatic 237, 3) := by decide +kernel
theorem dX8_write_4 : decode cX8_write 4 = .ok (.ifCond .ne 10, 3) := by decide +kernel
theorem dX8_write_7 : decode cX8_write 7 = .ok (.aload_n 0, 1) := by decide +kernel
theorem dX8_write_8 : decode cX8_write 8 = .ok (.ldc 63, 2) := by decide +kernel
theorem dX8_write_10 : decode cX8_write 10 = .ok (.invokevirtual 80, 3) := by decide +kernel
theorem dX8_write_13 : decode cX8_write 13 = .ok (.ireturn, 1) := by decide +kernel
theorem dX8_write_14 : decode cX8_write 14 = .ok (.aload_n 0, 1) := by decide +kernel
theorem dX8_write_15 : decode cX8_write 15 = .ok (.getfield 51, 3) := by decide +kernel
theorem dX8_write_18 : decode cX8_write 18 = .ok (.iload_n 1, 1) := by decide +kernel
theorem dX8_write_19 : decode cX8_write 19 = .ok (.iaload, 1) := by decide +kernel
theorem dX8_write_20 : decode cX8_write 20 = .ok (.ifCond .ne 10, 3) := by decide +kernel
theorem dX8_write_23 : decode cX8_write 23 = .ok (.aload_n 0, 1) := by decide +kernel
theorem dX8_write_24 : decode cX8_write 24 = .ok (.ldc 240, 2) := by decide +kernel
theorem dX8_write_26 : decode cX8_write 26 = .ok (.invokevirtual 80, 3) := by decide +kernel
theorem dX8_write_29 : decode cX8_write 29 = .ok (.ireturn, 1) := by decide +kernel
theorem dX8_write_30 : decode cX8_write 30 = .ok (.iload_n 2, 1) := by decide +kernel
theorem dX8_write_31 : decode cX8_write 31 = .ok (.iconst 0, 1) := by decide +kernel
theorem dX8_write_32 : decode cX8_write 32 = .ok (.aload_n 0, 1) := by decide +kernel
theorem dX8_write_33 : decode cX8_write 33 = .ok (.getfield 54, 3) := by decide +kernel
theorem dX8_write_36 : decode cX8_write 36 = .ok (.iload_n 1, 1) := by decide +kernel
theorem dX8_write_37 : decode cX8_write 37 = .ok (.iaload, 1) := by decide +kernel
theorem dX8_write_38 : decode cX8_write 38 = .ok (.iconst 1, 1) := by decide +kernel
theorem dX8_write_39 : decode cX8_write 39 = .ok (.isub, 1) := by decide +kernel
theorem dX8_write_40 : decode cX8_write 40 = .ok (.invokestatic 68, 3) := by decide +kernel
theorem dX8_write_43 : decode cX8_write 43 = .ok (.ifCond .ne 10, 3) := by decide +kernel
theorem dX8_write_46 : decode cX8_write 46 = .ok (.aload_n 0, 1) := by decide +kernel
theorem dX8_write_47 : decode cX8_write 47 = .ok (.ldc 63, 2) := by decide +kernel
theorem dX8_write_49 : decode cX8_write 49 = .ok (.invokevirtual 80, 3) := by decide +kernel
theorem dX8_write_52 : decode cX8_write 52 = .ok (.ireturn, 1) := by decide +kernel
theorem dX8_write_53 : decode cX8_write 53 = .ok (.aload_n 0, 1) := by decide +kernel
theorem dX8_write_54 : decode cX8_write 54 = .ok (.getfield 57, 3) := by decide +kernel
theorem dX8_write_57 : decode cX8_write 57 = .ok (.bipush 40, 2) := by decide +kernel
theorem dX8_write_59 : decode cX8_write 59 = .ok (.iload_n 1, 1) := by decide +kernel
theorem dX8_write_60 : decode cX8_write 60 = .ok (.imul, 1) := by decide +kernel
theorem dX8_write_61 : decode cX8_write 61 = .ok (.iload_n 2, 1) := by decide +kernel
theorem dX8_write_62 : decode cX8_write 62 = .ok (.iadd, 1) := by decide +kernel
theorem dX8_write_63 : decode cX8_write 63 = .ok (.iload_n 3, 1) := by decide +kernel
theorem dX8_write_64 : decode cX8_write 64 = .ok (.aload_n 0, 1) := by decide +kernel
theorem dX8_write_65 : decode cX8_write 65 = .ok (.getfield 51, 3) := by decide +kernel
theorem dX8_write_68 : decode cX8_write 68 = .ok (.iload_n 1, 1) := by decide +kernel
theorem dX8_write_69 : decode cX8_write 69 = .ok (.iaload, 1) := by decide +kernel
theorem dX8_write_70 : decode cX8_write 70 = .ok (.invokestatic 334, 3) := by decide +kernel
theorem dX8_write_73 : decode cX8_write 73 = .ok (.iastore, 1) := by decide +kernel
theorem dX8_write_74 : decode cX8_write 74 = .ok (.iconst 1, 1) := by decide +kernel
theorem dX8_write_75 : decode cX8_write 75 = .ok (.ireturn, 1) := by decide +kernel
theorem dX8_copy_0 : decode cX8_copy 0 = .ok (.iload_n 1, 1) := by decide +kernel
theorem dX8_copy_1 : decode cX8_copy 1 = .ok (.invokestatic 237, 3) := by decide +kernel
theorem dX8_copy_4 : decode cX8_copy 4 = .ok (.ifCond .eq 10, 3) := by decide +kernel
theorem dX8_copy_7 : decode cX8_copy 7 = .ok (.iload_n 3, 1) := by decide +kernel
theorem dX8_copy_8 : decode cX8_copy 8 = .ok (.invokestatic 237, 3) := by decide +kernel
theorem dX8_copy_11 : decode cX8_copy 11 = .ok (.ifCond .ne 10, 3) := by decide +kernel
theorem dX8_copy_14 : decode cX8_copy 14 = .ok (.aload_n 0, 1) := by decide +kernel
theorem dX8_copy_15 : decode cX8_copy 15 = .ok (.ldc 63, 2) := by decide +kernel
theorem dX8_copy_17 : decode cX8_copy 17 = .ok (.invokevirtual 80, 3) := by decide +kernel
theorem dX8_copy_20 : decode cX8_copy 20 = .ok (.ireturn, 1) := by decide +kernel
theorem dX8_copy_21 : decode cX8_copy 21 = .ok (.aload_n 0, 1) := by decide +kernel
theorem dX8_copy_22 : decode cX8_copy 22 = .ok (.getfield 51, 3) := by decide +kernel
theorem dX8_copy_25 : decode cX8_copy 25 = .ok (.iload_n 1, 1) := by decide +kernel
theorem dX8_copy_26 : decode cX8_copy 26 = .ok (.iaload, 1) := by decide +kernel
theorem dX8_copy_27 : decode cX8_copy 27 = .ok (.ifCond .eq 12, 3) := by decide +kernel
theorem dX8_copy_30 : decode cX8_copy 30 = .ok (.aload_n 0, 1) := by decide +kernel
theorem dX8_copy_31 : decode cX8_copy 31 = .ok (.getfield 51, 3) := by decide +kernel
theorem dX8_copy_34 : decode cX8_copy 34 = .ok (.iload_n 3, 1) := by decide +kernel
theorem dX8_copy_35 : decode cX8_copy 35 = .ok (.iaload, 1) := by decide +kernel
theorem dX8_copy_36 : decode cX8_copy 36 = .ok (.ifCond .ne 10, 3) := by decide +kernel
theorem dX8_copy_39 : decode cX8_copy 39 = .ok (.aload_n 0, 1) := by decide +kernel
theorem dX8_copy_40 : decode cX8_copy 40 = .ok (.ldc 240, 2) := by decide +kernel
theorem dX8_copy_42 : decode cX8_copy 42 = .ok (.invokevirtual 80, 3) := by decide +kernel
theorem dX8_copy_45 : decode cX8_copy 45 = .ok (.ireturn, 1) := by decide +kernel
theorem dX8_copy_46 : decode cX8_copy 46 = .ok (.aload_n 0, 1) := by decide +kernel
theorem dX8_copy_47 : decode cX8_copy 47 = .ok (.getfield 51, 3) := by decide +kernel
theorem dX8_copy_50 : decode cX8_copy 50 = .ok (.iload_n 1, 1) := by decide +kernel
theorem dX8_copy_51 : decode cX8_copy 51 = .ok (.iaload, 1) := by decide +kernel
theorem dX8_copy_52 : decode cX8_copy 52 = .ok (.aload_n 0, 1) := by decide +kernel
theorem dX8_copy_53 : decode cX8_copy 53 = .ok (.getfield 51, 3) := by decide +kernel
theorem dX8_copy_56 : decode cX8_copy 56 = .ok (.iload_n 3, 1) := by decide +kernel
theorem dX8_copy_57 : decode cX8_copy 57 = .ok (.iaload, 1) := by decide +kernel
theorem dX8_copy_58 : decode cX8_copy 58 = .ok (.if_icmp .eq 10, 3) := by decide +kernel
theorem dX8_copy_61 : decode cX8_copy 61 = .ok (.aload_n 0, 1) := by decide +kernel
theorem dX8_copy_62 : decode cX8_copy 62 = .ok (.ldc 201, 2) := by decide +kernel
theorem dX8_copy_64 : decode cX8_copy 64 = .ok (.invokevirtual 80, 3) := by decide +kernel
theorem dX8_copy_67 : decode cX8_copy 67 = .ok (.ireturn, 1) := by decide +kernel
theorem dX8_copy_68 : decode cX8_copy 68 = .ok (.iload_n 2, 1) := by decide +kernel
theorem dX8_copy_69 : decode cX8_copy 69 = .ok (.ifCond .lt 48, 3) := by decide +kernel
theorem dX8_copy_72 : decode cX8_copy 72 = .ok (.iload 4, 2) := by decide +kernel
theorem dX8_copy_74 : decode cX8_copy 74 = .ok (.ifCond .lt 43, 3) := by decide +kernel
theorem dX8_copy_77 : decode cX8_copy 77 = .ok (.iload 5, 2) := by decide +kernel
theorem dX8_copy_79 : decode cX8_copy 79 = .ok (.ifCond .lt 38, 3) := by decide +kernel
theorem dX8_copy_82 : decode cX8_copy 82 = .ok (.iload_n 2, 1) := by decide +kernel
theorem dX8_copy_83 : decode cX8_copy 83 = .ok (.i2l, 1) := by decide +kernel
theorem dX8_copy_84 : decode cX8_copy 84 = .ok (.iload 5, 2) := by decide +kernel
theorem dX8_copy_86 : decode cX8_copy 86 = .ok (.i2l, 1) := by decide +kernel
theorem dX8_copy_87 : decode cX8_copy 87 = .ok (.ladd, 1) := by decide +kernel
theorem dX8_copy_88 : decode cX8_copy 88 = .ok (.aload_n 0, 1) := by decide +kernel
theorem dX8_copy_89 : decode cX8_copy 89 = .ok (.getfield 54, 3) := by decide +kernel
theorem dX8_copy_92 : decode cX8_copy 92 = .ok (.iload_n 1, 1) := by decide +kernel
theorem dX8_copy_93 : decode cX8_copy 93 = .ok (.iaload, 1) := by decide +kernel
theorem dX8_copy_94 : decode cX8_copy 94 = .ok (.i2l, 1) := by decide +kernel
theorem dX8_copy_95 : decode cX8_copy 95 = .ok (.lcmp, 1) := by decide +kernel
theorem dX8_copy_96 : decode cX8_copy 96 = .ok (.ifCond .gt 21, 3) := by decide +kernel
theorem dX8_copy_99 : decode cX8_copy 99 = .ok (.iload 4, 2) := by decide +kernel
theorem dX8_copy_101 : decode cX8_copy 101 = .ok (.i2l, 1) := by decide +kernel
theorem dX8_copy_102 : decode cX8_copy 102 = .ok (.iload 5, 2) := by decide +kernel
theorem dX8_copy_104 : decode cX8_copy 104 = .ok (.i2l, 1) := by decide +kernel
theorem dX8_copy_105 : decode cX8_copy 105 = .ok (.ladd, 1) := by decide +kernel
theorem dX8_copy_106 : decode cX8_copy 106 = .ok (.aload_n 0, 1) := by decide +kernel
theorem dX8_copy_107 : decode cX8_copy 107 = .ok (.getfield 54, 3) := by decide +kernel
theorem dX8_copy_110 : decode cX8_copy 110 = .ok (.iload_n 3, 1) := by decide +kernel
theorem dX8_copy_111 : decode cX8_copy 111 = .ok (.iaload, 1) := by decide +kernel
theorem dX8_copy_112 : decode cX8_copy 112 = .ok (.i2l, 1) := by decide +kernel
theorem dX8_copy_113 : decode cX8_copy 113 = .ok (.lcmp, 1) := by decide +kernel
theorem dX8_copy_114 : decode cX8_copy 114 = .ok (.ifCond .le 10, 3) := by decide +kernel
theorem dX8_copy_117 : decode cX8_copy 117 = .ok (.aload_n 0, 1) := by decide +kernel
theorem dX8_copy_118 : decode cX8_copy 118 = .ok (.ldc 63, 2) := by decide +kernel
theorem dX8_copy_120 : decode cX8_copy 120 = .ok (.invokevirtual 80, 3) := by decide +kernel
theorem dX8_copy_123 : decode cX8_copy 123 = .ok (.ireturn, 1) := by decide +kernel
theorem dX8_copy_124 : decode cX8_copy 124 = .ok (.iconst 0, 1) := by decide +kernel
theorem dX8_copy_125 : decode cX8_copy 125 = .ok (.istore 6, 2) := by decide +kernel
theorem dX8_copy_127 : decode cX8_copy 127 = .ok (.iload 6, 2) := by decide +kernel
theorem dX8_copy_129 : decode cX8_copy 129 = .ok (.iload 5, 2) := by decide +kernel
theorem dX8_copy_131 : decode cX8_copy 131 = .ok (.if_icmp .ge 30, 3) := by decide +kernel
theorem dX8_copy_134 : decode cX8_copy 134 = .ok (.aload_n 0, 1) := by decide +kernel
theorem dX8_copy_135 : decode cX8_copy 135 = .ok (.getfield 60, 3) := by decide +kernel
theorem dX8_copy_138 : decode cX8_copy 138 = .ok (.iload 6, 2) := by decide +kernel
theorem dX8_copy_140 : decode cX8_copy 140 = .ok (.aload_n 0, 1) := by decide +kernel
theorem dX8_copy_141 : decode cX8_copy 141 = .ok (.getfield 57, 3) := by decide +kernel
theorem dX8_copy_144 : decode cX8_copy 144 = .ok (.bipush 40, 2) := by decide +kernel
theorem dX8_copy_146 : decode cX8_copy 146 = .ok (.iload_n 1, 1) := by decide +kernel
theorem dX8_copy_147 : decode cX8_copy 147 = .ok (.imul, 1) := by decide +kernel
theorem dX8_copy_148 : decode cX8_copy 148 = .ok (.iload_n 2, 1) := by decide +kernel
theorem dX8_copy_149 : decode cX8_copy 149 = .ok (.iadd, 1) := by decide +kernel
theorem dX8_copy_150 : decode cX8_copy 150 = .ok (.iload 6, 2) := by decide +kernel
theorem dX8_copy_152 : decode cX8_copy 152 = .ok (.iadd, 1) := by decide +kernel
theorem dX8_copy_153 : decode cX8_copy 153 = .ok (.iaload, 1) := by decide +kernel
theorem dX8_copy_154 : decode cX8_copy 154 = .ok (.iastore, 1) := by decide +kernel
theorem dX8_copy_155 : decode cX8_copy 155 = .ok (.iinc 6 1, 3) := by decide +kernel
theorem dX8_copy_158 : decode cX8_copy 158 = .ok (.goto (-31), 3) := by decide +kernel
theorem dX8_copy_161 : decode cX8_copy 161 = .ok (.iconst 0, 1) := by decide +kernel
theorem dX8_copy_162 : decode cX8_copy 162 = .ok (.istore 6, 2) := by decide +kernel
theorem dX8_copy_164 : decode cX8_copy 164 = .ok (.iload 6, 2) := by decide +kernel
theorem dX8_copy_166 : decode cX8_copy 166 = .ok (.iload 5, 2) := by decide +kernel
theorem dX8_copy_168 : decode cX8_copy 168 = .ok (.if_icmp .ge 31, 3) := by decide +kernel
theorem dX8_copy_171 : decode cX8_copy 171 = .ok (.aload_n 0, 1) := by decide +kernel
theorem dX8_copy_172 : decode cX8_copy 172 = .ok (.getfield 57, 3) := by decide +kernel
theorem dX8_copy_175 : decode cX8_copy 175 = .ok (.bipush 40, 2) := by decide +kernel
theorem dX8_copy_177 : decode cX8_copy 177 = .ok (.iload_n 3, 1) := by decide +kernel
theorem dX8_copy_178 : decode cX8_copy 178 = .ok (.imul, 1) := by decide +kernel
theorem dX8_copy_179 : decode cX8_copy 179 = .ok (.iload 4, 2) := by decide +kernel
theorem dX8_copy_181 : decode cX8_copy 181 = .ok (.iadd, 1) := by decide +kernel
theorem dX8_copy_182 : decode cX8_copy 182 = .ok (.iload 6, 2) := by decide +kernel
theorem dX8_copy_184 : decode cX8_copy 184 = .ok (.iadd, 1) := by decide +kernel
theorem dX8_copy_185 : decode cX8_copy 185 = .ok (.aload_n 0, 1) := by decide +kernel
theorem dX8_copy_186 : decode cX8_copy 186 = .ok (.getfield 60, 3) := by decide +kernel
theorem dX8_copy_189 : decode cX8_copy 189 = .ok (.iload 6, 2) := by decide +kernel
theorem dX8_copy_191 : decode cX8_copy 191 = .ok (.iaload, 1) := by decide +kernel
theorem dX8_copy_192 : decode cX8_copy 192 = .ok (.iastore, 1) := by decide +kernel
theorem dX8_copy_193 : decode cX8_copy 193 = .ok (.iinc 6 1, 3) := by decide +kernel
theorem dX8_copy_196 : decode cX8_copy 196 = .ok (.goto (-32), 3) := by decide +kernel
theorem dX8_copy_199 : decode cX8_copy 199 = .ok (.iload 5, 2) := by decide +kernel
theorem dX8_copy_201 : decode cX8_copy 201 = .ok (.ireturn, 1) := by decide +kernel
theorem dX8_load_0 : decode cX8_load 0 = .ok (.iload_n 1, 1) := by decide +kernel
theorem dX8_load_1 : decode cX8_load 1 = .ok (.invokestatic 237, 3) := by decide +kernel
theorem dX8_load_4 : decode cX8_load 4 = .ok (.ifCond .ne 10, 3) := by decide +kernel
theorem dX8_load_7 : decode cX8_load 7 = .ok (.aload_n 0, 1) := by decide +kernel
theorem dX8_load_8 : decode cX8_load 8 = .ok (.ldc 63, 2) := by decide +kernel
theorem dX8_load_10 : decode cX8_load 10 = .ok (.invokevirtual 80, 3) := by decide +kernel
theorem dX8_load_13 : decode cX8_load 13 = .ok (.ireturn, 1) := by decide +kernel
theorem dX8_load_14 : decode cX8_load 14 = .ok (.aload_n 0, 1) := by decide +kernel
theorem dX8_load_15 : decode cX8_load 15 = .ok (.getfield 51, 3) := by decide +kernel
theorem dX8_load_18 : decode cX8_load 18 = .ok (.iload_n 1, 1) := by decide +kernel
theorem dX8_load_19 : decode cX8_load 19 = .ok (.iaload, 1) := by decide +kernel
theorem dX8_load_20 : decode cX8_load 20 = .ok (.ifCond .ne 10, 3) := by decide +kernel
theorem dX8_load_23 : decode cX8_load 23 = .ok (.aload_n 0, 1) := by decide +kernel
theorem dX8_load_24 : decode cX8_load 24 = .ok (.ldc 240, 2) := by decide +kernel
theorem dX8_load_26 : decode cX8_load 26 = .ok (.invokevirtual 80, 3) := by decide +kernel
theorem dX8_load_29 : decode cX8_load 29 = .ok (.ireturn, 1) := by decide +kernel
theorem dX8_load_30 : decode cX8_load 30 = .ok (.iconst 0, 1) := by decide +kernel
theorem dX8_load_31 : decode cX8_load 31 = .ok (.istore_n 2, 1) := by decide +kernel
theorem dX8_load_32 : decode cX8_load 32 = .ok (.iload_n 2, 1) := by decide +kernel
theorem dX8_load_33 : decode cX8_load 33 = .ok (.aload_n 0, 1) := by decide +kernel
theorem dX8_load_34 : decode cX8_load 34 = .ok (.getfield 54, 3) := by decide +kernel
theorem dX8_load_37 : decode cX8_load 37 = .ok (.iload_n 1, 1) := by decide +kernel
theorem dX8_load_38 : decode cX8_load 38 = .ok (.iaload, 1) := by decide +kernel
theorem dX8_load_39 : decode cX8_load 39 = .ok (.if_icmp .ge 58, 3) := by decide +kernel
theorem dX8_load_42 : decode cX8_load 42 = .ok (.aload_n 0, 1) := by decide +kernel
theorem dX8_load_43 : decode cX8_load 43 = .ok (.iload_n 2, 1) := by decide +kernel
theorem dX8_load_44 : decode cX8_load 44 = .ok (.invokevirtual 99, 3) := by decide +kernel
theorem dX8_load_47 : decode cX8_load 47 = .ok (.ifCond .eq 50, 3) := by decide +kernel
theorem dX8_load_50 : decode cX8_load 50 = .ok (.aload_n 0, 1) := by decide +kernel
theorem dX8_load_51 : decode cX8_load 51 = .ok (.getfield 57, 3) := by decide +kernel
theorem dX8_load_54 : decode cX8_load 54 = .ok (.bipush 40, 2) := by decide +kernel
theorem dX8_load_56 : decode cX8_load 56 = .ok (.iload_n 1, 1) := by decide +kernel
theorem dX8_load_57 : decode cX8_load 57 = .ok (.imul, 1) := by decide +kernel
theorem dX8_load_58 : decode cX8_load 58 = .ok (.iload_n 2, 1) := by decide +kernel
theorem dX8_load_59 : decode cX8_load 59 = .ok (.iadd, 1) := by decide +kernel
theorem dX8_load_60 : decode cX8_load 60 = .ok (.iaload, 1) := by decide +kernel
theorem dX8_load_61 : decode cX8_load 61 = .ok (.iconst 1, 1) := by decide +kernel
theorem dX8_load_62 : decode cX8_load 62 = .ok (.bipush 60, 2) := by decide +kernel
theorem dX8_load_64 : decode cX8_load 64 = .ok (.invokestatic 68, 3) := by decide +kernel
theorem dX8_load_67 : decode cX8_load 67 = .ok (.ifCond .eq 30, 3) := by decide +kernel
theorem dX8_load_70 : decode cX8_load 70 = .ok (.aload_n 0, 1) := by decide +kernel
theorem dX8_load_71 : decode cX8_load 71 = .ok (.getfield 9, 3) := by decide +kernel
theorem dX8_load_74 : decode cX8_load 74 = .ok (.iload_n 2, 1) := by decide +kernel
theorem dX8_load_75 : decode cX8_load 75 = .ok (.iconst 2, 1) := by decide +kernel
theorem dX8_load_76 : decode cX8_load 76 = .ok (.invokestatic 72, 3) := by decide +kernel
theorem dX8_load_79 : decode cX8_load 79 = .ok (.aload_n 0, 1) := by decide +kernel
theorem dX8_load_80 : decode cX8_load 80 = .ok (.getfield 57, 3) := by decide +kernel
theorem dX8_load_83 : decode cX8_load 83 = .ok (.bipush 40, 2) := by decide +kernel
theorem dX8_load_85 : decode cX8_load 85 = .ok (.iload_n 1, 1) := by decide +kernel
theorem dX8_load_86 : decode cX8_load 86 = .ok (.imul, 1) := by decide +kernel
theorem dX8_load_87 : decode cX8_load 87 = .ok (.iload_n 2, 1) := by decide +kernel
theorem dX8_load_88 : decode cX8_load 88 = .ok (.iadd, 1) := by decide +kernel
theorem dX8_load_89 : decode cX8_load 89 = .ok (.iaload, 1) := by decide +kernel
theorem dX8_load_90 : decode cX8_load 90 = .ok (.iastore, 1) := by decide +kernel
theorem dX8_load_91 : decode cX8_load 91 = .ok (.iinc 2 1, 3) := by decide +kernel
theorem dX8_load_94 : decode cX8_load 94 = .ok (.goto (-62), 3) := by decide +kernel
theorem dX8_load_97 : decode cX8_load 97 = .ok (.iload_n 2, 1) := by decide +kernel
theorem dX8_load_98 : decode cX8_load 98 = .ok (.ireturn, 1) := by decide +kernel
theorem dX8_judge_0 : decode cX8_judge 0 = .ok (.iload_n 1, 1) := by decide +kernel
theorem dX8_judge_1 : decode cX8_judge 1 = .ok (.invokestatic 237, 3) := by decide +kernel
theorem dX8_judge_4 : decode cX8_judge 4 = .ok (.ifCond .ne 10, 3) := by decide +kernel
theorem dX8_judge_7 : decode cX8_judge 7 = .ok (.aload_n 0, 1) := by decide +kernel
theorem dX8_judge_8 : decode cX8_judge 8 = .ok (.ldc 63, 2) := by decide +kernel
theorem dX8_judge_10 : decode cX8_judge 10 = .ok (.invokevirtual 80, 3) := by decide +kernel
theorem dX8_judge_13 : decode cX8_judge 13 = .ok (.ireturn, 1) := by decide +kernel
theorem dX8_judge_14 : decode cX8_judge 14 = .ok (.aload_n 0, 1) := by decide +kernel
theorem dX8_judge_15 : decode cX8_judge 15 = .ok (.getfield 51, 3) := by decide +kernel
theorem dX8_judge_18 : decode cX8_judge 18 = .ok (.iload_n 1, 1) := by decide +kernel
theorem dX8_judge_19 : decode cX8_judge 19 = .ok (.iaload, 1) := by decide +kernel
theorem dX8_judge_20 : decode cX8_judge 20 = .ok (.ifCond .ne 10, 3) := by decide +kernel
theorem dX8_judge_23 : decode cX8_judge 23 = .ok (.aload_n 0, 1) := by decide +kernel
theorem dX8_judge_24 : decode cX8_judge 24 = .ok (.ldc 240, 2) := by decide +kernel
theorem dX8_judge_26 : decode cX8_judge 26 = .ok (.invokevirtual 80, 3) := by decide +kernel
theorem dX8_judge_29 : decode cX8_judge 29 = .ok (.ireturn, 1) := by decide +kernel
theorem dX8_judge_30 : decode cX8_judge 30 = .ok (.iconst 0, 1) := by decide +kernel
theorem dX8_judge_31 : decode cX8_judge 31 = .ok (.istore_n 2, 1) := by decide +kernel
theorem dX8_judge_32 : decode cX8_judge 32 = .ok (.iload_n 2, 1) := by decide +kernel
theorem dX8_judge_33 : decode cX8_judge 33 = .ok (.aload_n 0, 1) := by decide +kernel
theorem dX8_judge_34 : decode cX8_judge 34 = .ok (.getfield 54, 3) := by decide +kernel
theorem dX8_judge_37 : decode cX8_judge 37 = .ok (.iload_n 1, 1) := by decide +kernel
theorem dX8_judge_38 : decode cX8_judge 38 = .ok (.iaload, 1) := by decide +kernel
theorem dX8_judge_39 : decode cX8_judge 39 = .ok (.if_icmp .ge 35, 3) := by decide +kernel
theorem dX8_judge_42 : decode cX8_judge 42 = .ok (.iload_n 2, 1) := by decide +kernel
theorem dX8_judge_43 : decode cX8_judge 43 = .ok (.invokestatic 114, 3) := by decide +kernel
theorem dX8_judge_46 : decode cX8_judge 46 = .ok (.ifCond .eq 28, 3) := by decide +kernel
theorem dX8_judge_49 : decode cX8_judge 49 = .ok (.aload_n 0, 1) := by decide +kernel
theorem dX8_judge_50 : decode cX8_judge 50 = .ok (.getfield 57, 3) := by decide +kernel
theorem dX8_judge_53 : decode cX8_judge 53 = .ok (.bipush 40, 2) := by decide +kernel
theorem dX8_judge_55 : decode cX8_judge 55 = .ok (.iload_n 1, 1) := by decide +kernel
theorem dX8_judge_56 : decode cX8_judge 56 = .ok (.imul, 1) := by decide +kernel
theorem dX8_judge_57 : decode cX8_judge 57 = .ok (.iload_n 2, 1) := by decide +kernel
theorem dX8_judge_58 : decode cX8_judge 58 = .ok (.iadd, 1) := by decide +kernel
theorem dX8_judge_59 : decode cX8_judge 59 = .ok (.iaload, 1) := by decide +kernel
theorem dX8_judge_60 : decode cX8_judge 60 = .ok (.aload_n 0, 1) := by decide +kernel
theorem dX8_judge_61 : decode cX8_judge 61 = .ok (.iload_n 2, 1) := by decide +kernel
theorem dX8_judge_62 : decode cX8_judge 62 = .ok (.invokevirtual 141, 3) := by decide +kernel
theorem dX8_judge_65 : decode cX8_judge 65 = .ok (.if_icmp .ne 9, 3) := by decide +kernel
theorem dX8_judge_68 : decode cX8_judge 68 = .ok (.iinc 2 1, 3) := by decide +kernel
theorem dX8_judge_71 : decode cX8_judge 71 = .ok (.goto (-39), 3) := by decide +kernel
theorem dX8_judge_74 : decode cX8_judge 74 = .ok (.iload_n 2, 1) := by decide +kernel
theorem dX8_judge_75 : decode cX8_judge 75 = .ok (.aload_n 0, 1) := by decide +kernel
theorem dX8_judge_76 : decode cX8_judge 76 = .ok (.getfield 54, 3) := by decide +kernel
theorem dX8_judge_79 : decode cX8_judge 79 = .ok (.iload_n 1, 1) := by decide +kernel
theorem dX8_judge_80 : decode cX8_judge 80 = .ok (.iaload, 1) := by decide +kernel
theorem dX8_judge_81 : decode cX8_judge 81 = .ok (.if_icmp .ne 7, 3) := by decide +kernel
theorem dX8_judge_84 : decode cX8_judge 84 = .ok (.iconst 0, 1) := by decide +kernel
theorem dX8_judge_85 : decode cX8_judge 85 = .ok (.goto 6, 3) := by decide +kernel
theorem dX8_judge_88 : decode cX8_judge 88 = .ok (.iconst 1, 1) := by decide +kernel
theorem dX8_judge_89 : decode cX8_judge 89 = .ok (.iload_n 2, 1) := by decide +kernel
theorem dX8_judge_90 : decode cX8_judge 90 = .ok (.iadd, 1) := by decide +kernel
theorem dX8_judge_91 : decode cX8_judge 91 = .ok (.ireturn, 1) := by decide +kernel
theorem dX8_image_0 : decode cX8_image 0 = .ok (.aload_n 0, 1) := by decide +kernel
theorem dX8_image_1 : decode cX8_image 1 = .ok (.getfield 9, 3) := by decide +kernel
theorem dX8_image_4 : decode cX8_image 4 = .ok (.aload_n 0, 1) := by decide +kernel
theorem dX8_image_5 : decode cX8_image 5 = .ok (.getfield 13, 3) := by decide +kernel
theorem dX8_image_8 : decode cX8_image 8 = .ok (.invokestatic 64, 3) := by decide +kernel
theorem dX8_image_11 : decode cX8_image 11 = .ok (.aload_n 0, 1) := by decide +kernel
theorem dX8_image_12 : decode cX8_image 12 = .ok (.iconst 1, 1) := by decide +kernel
theorem dX8_image_13 : decode cX8_image 13 = .ok (.putfield 337, 3) := by decide +kernel
theorem dX8_image_16 : decode cX8_image 16 = .ok (.iconst 1, 1) := by decide +kernel
theorem dX8_image_17 : decode cX8_image 17 = .ok (.ireturn, 1) := by decide +kernel
theorem dX8_undo_0 : decode cX8_undo 0 = .ok (.aload_n 0, 1) := by decide +kernel
theorem dX8_undo_1 : decode cX8_undo 1 = .ok (.getfield 337, 3) := by decide +kernel
theorem dX8_undo_4 : decode cX8_undo 4 = .ok (.ifCond .ne 10, 3) := by decide +kernel
theorem dX8_undo_7 : decode cX8_undo 7 = .ok (.aload_n 0, 1) := by decide +kernel
theorem dX8_undo_8 : decode cX8_undo 8 = .ok (.ldc 197, 2) := by decide +kernel
theorem dX8_undo_10 : decode cX8_undo 10 = .ok (.invokevirtual 80, 3) := by decide +kernel
theorem dX8_undo_13 : decode cX8_undo 13 = .ok (.ireturn, 1) := by decide +kernel
theorem dX8_undo_14 : decode cX8_undo 14 = .ok (.aload_n 0, 1) := by decide +kernel
theorem dX8_undo_15 : decode cX8_undo 15 = .ok (.getfield 13, 3) := by decide +kernel
theorem dX8_undo_18 : decode cX8_undo 18 = .ok (.aload_n 0, 1) := by decide +kernel
theorem dX8_undo_19 : decode cX8_undo 19 = .ok (.getfield 9, 3) := by decide +kernel
theorem dX8_undo_22 : decode cX8_undo 22 = .ok (.invokestatic 64, 3) := by decide +kernel
theorem dX8_undo_25 : decode cX8_undo 25 = .ok (.aload_n 0, 1) := by decide +kernel
theorem dX8_undo_26 : decode cX8_undo 26 = .ok (.getfield 9, 3) := by decide +kernel
theorem dX8_undo_29 : decode cX8_undo 29 = .ok (.iconst 0, 1) := by decide +kernel
theorem dX8_undo_30 : decode cX8_undo 30 = .ok (.iaload, 1) := by decide +kernel
theorem dX8_undo_31 : decode cX8_undo 31 = .ok (.ireturn, 1) := by decide +kernel
theorem dX8_tear_0 : decode cX8_tear 0 = .ok (.aload_n 0, 1) := by decide +kernel
theorem dX8_tear_1 : decode cX8_tear 1 = .ok (.getfield 337, 3) := by decide +kernel
theorem dX8_tear_4 : decode cX8_tear 4 = .ok (.ifCond .eq 7, 3) := by decide +kernel
theorem dX8_tear_7 : decode cX8_tear 7 = .ok (.iconst 1, 1) := by decide +kernel
theorem dX8_tear_8 : decode cX8_tear 8 = .ok (.goto 4, 3) := by decide +kernel
theorem dX8_tear_11 : decode cX8_tear 11 = .ok (.iconst 0, 1) := by decide +kernel
theorem dX8_tear_12 : decode cX8_tear 12 = .ok (.istore_n 1, 1) := by decide +kernel
theorem dX8_tear_13 : decode cX8_tear 13 = .ok (.aload_n 0, 1) := by decide +kernel
theorem dX8_tear_14 : decode cX8_tear 14 = .ok (.iconst 0, 1) := by decide +kernel
theorem dX8_tear_15 : decode cX8_tear 15 = .ok (.putfield 337, 3) := by decide +kernel
theorem dX8_tear_18 : decode cX8_tear 18 = .ok (.iload_n 1, 1) := by decide +kernel
theorem dX8_tear_19 : decode cX8_tear 19 = .ok (.ireturn, 1) := by decide +kernel
theorem dX8_count_0 : decode cX8_count 0 = .ok (.iconst 0, 1) := by decide +kernel
theorem dX8_count_1 : decode cX8_count 1 = .ok (.istore_n 2, 1) := by decide +kernel
theorem dX8_count_2 : decode cX8_count 2 = .ok (.iload_n 1, 1) := by decide +kernel
theorem dX8_count_3 : decode cX8_count 3 = .ok (.tableswitch 178 0 7 #[45, 52, 59, 66, 102, 131, 136, 143], 45) := by decide +kernel
theorem dX8_count_48 : decode cX8_count 48 = .ok (.aload_n 0, 1) := by decide +kernel
theorem dX8_count_49 : decode cX8_count 49 = .ok (.getfield 9, 3) := by decide +kernel
theorem dX8_count_52 : decode cX8_count 52 = .ok (.iconst 0, 1) := by decide +kernel
theorem dX8_count_53 : decode cX8_count 53 = .ok (.iaload, 1) := by decide +kernel
theorem dX8_count_54 : decode cX8_count 54 = .ok (.ireturn, 1) := by decide +kernel
theorem dX8_count_55 : decode cX8_count 55 = .ok (.aload_n 0, 1) := by decide +kernel
theorem dX8_count_56 : decode cX8_count 56 = .ok (.getfield 9, 3) := by decide +kernel
theorem dX8_count_59 : decode cX8_count 59 = .ok (.iconst 2, 1) := by decide +kernel
theorem dX8_count_60 : decode cX8_count 60 = .ok (.iaload, 1) := by decide +kernel
theorem dX8_count_61 : decode cX8_count 61 = .ok (.ireturn, 1) := by decide +kernel
theorem dX8_count_62 : decode cX8_count 62 = .ok (.aload_n 0, 1) := by decide +kernel
theorem dX8_count_63 : decode cX8_count 63 = .ok (.getfield 9, 3) := by decide +kernel
theorem dX8_count_66 : decode cX8_count 66 = .ok (.iconst 3, 1) := by decide +kernel
theorem dX8_count_67 : decode cX8_count 67 = .ok (.iaload, 1) := by decide +kernel
theorem dX8_count_68 : decode cX8_count 68 = .ok (.ireturn, 1) := by decide +kernel
theorem dX8_count_69 : decode cX8_count 69 = .ok (.iconst 0, 1) := by decide +kernel
theorem dX8_count_70 : decode cX8_count 70 = .ok (.istore_n 3, 1) := by decide +kernel
theorem dX8_count_71 : decode cX8_count 71 = .ok (.iload_n 3, 1) := by decide +kernel
theorem dX8_count_72 : decode cX8_count 72 = .ok (.bipush 6, 2) := by decide +kernel
theorem dX8_count_74 : decode cX8_count 74 = .ok (.if_icmp .ge 29, 3) := by decide +kernel
theorem dX8_count_77 : decode cX8_count 77 = .ok (.iload_n 2, 1) := by decide +kernel
theorem dX8_count_78 : decode cX8_count 78 = .ok (.aload_n 0, 1) := by decide +kernel
theorem dX8_count_79 : decode cX8_count 79 = .ok (.getfield 9, 3) := by decide +kernel
theorem dX8_count_82 : decode cX8_count 82 = .ok (.bipush 27, 2) := by decide +kernel
theorem dX8_count_84 : decode cX8_count 84 = .ok (.iload_n 3, 1) := by decide +kernel
theorem dX8_count_85 : decode cX8_count 85 = .ok (.iadd, 1) := by decide +kernel
theorem dX8_count_86 : decode cX8_count 86 = .ok (.iaload, 1) := by decide +kernel
theorem dX8_count_87 : decode cX8_count 87 = .ok (.ifCond .ge 7, 3) := by decide +kernel
theorem dX8_count_90 : decode cX8_count 90 = .ok (.iconst 0, 1) := by decide +kernel
theorem dX8_count_91 : decode cX8_count 91 = .ok (.goto 4, 3) := by decide +kernel
theorem dX8_count_94 : decode cX8_count 94 = .ok (.iconst 1, 1) := by decide +kernel
theorem dX8_count_95 : decode cX8_count 95 = .ok (.iadd, 1) := by decide +kernel
theorem dX8_count_96 : decode cX8_count 96 = .ok (.istore_n 2, 1) := by decide +kernel
theorem dX8_count_97 : decode cX8_count 97 = .ok (.iinc 3 1, 3) := by decide +kernel
theorem dX8_count_100 : decode cX8_count 100 = .ok (.goto (-29), 3) := by decide +kernel
theorem dX8_count_103 : decode cX8_count 103 = .ok (.iload_n 2, 1) := by decide +kernel
theorem dX8_count_104 : decode cX8_count 104 = .ok (.ireturn, 1) := by decide +kernel
theorem dX8_count_105 : decode cX8_count 105 = .ok (.iconst 0, 1) := by decide +kernel
theorem dX8_count_106 : decode cX8_count 106 = .ok (.istore_n 3, 1) := by decide +kernel
theorem dX8_count_107 : decode cX8_count 107 = .ok (.iload_n 3, 1) := by decide +kernel
theorem dX8_count_108 : decode cX8_count 108 = .ok (.aload_n 0, 1) := by decide +kernel
theorem dX8_count_109 : decode cX8_count 109 = .ok (.getfield 9, 3) := by decide +kernel
theorem dX8_count_112 : decode cX8_count 112 = .ok (.iconst 2, 1) := by decide +kernel
theorem dX8_count_113 : decode cX8_count 113 = .ok (.iaload, 1) := by decide +kernel
theorem dX8_count_114 : decode cX8_count 114 = .ok (.if_icmp .ge 18, 3) := by decide +kernel
theorem dX8_count_117 : decode cX8_count 117 = .ok (.iload_n 2, 1) := by decide +kernel
theorem dX8_count_118 : decode cX8_count 118 = .ok (.aload_n 0, 1) := by decide +kernel
theorem dX8_count_119 : decode cX8_count 119 = .ok (.iload_n 3, 1) := by decide +kernel
theorem dX8_count_120 : decode cX8_count 120 = .ok (.iconst 2, 1) := by decide +kernel
theorem dX8_count_121 : decode cX8_count 121 = .ok (.invokevirtual 92, 3) := by decide +kernel
theorem dX8_count_124 : decode cX8_count 124 = .ok (.iadd, 1) := by decide +kernel
theorem dX8_count_125 : decode cX8_count 125 = .ok (.istore_n 2, 1) := by decide +kernel
theorem dX8_count_126 : decode cX8_count 126 = .ok (.iinc 3 1, 3) := by decide +kernel
theorem dX8_count_129 : decode cX8_count 129 = .ok (.goto (-22), 3) := by decide +kernel
theorem dX8_count_132 : decode cX8_count 132 = .ok (.iload_n 2, 1) := by decide +kernel
theorem dX8_count_133 : decode cX8_count 133 = .ok (.ireturn, 1) := by decide +kernel
theorem dX8_count_134 : decode cX8_count 134 = .ok (.aload_n 0, 1) := by decide +kernel
theorem dX8_count_135 : decode cX8_count 135 = .ok (.getfield 251, 3) := by decide +kernel
theorem dX8_count_138 : decode cX8_count 138 = .ok (.ireturn, 1) := by decide +kernel
theorem dX8_count_139 : decode cX8_count 139 = .ok (.aload_n 0, 1) := by decide +kernel
theorem dX8_count_140 : decode cX8_count 140 = .ok (.getfield 9, 3) := by decide +kernel
theorem dX8_count_143 : decode cX8_count 143 = .ok (.iconst 4, 1) := by decide +kernel
theorem dX8_count_144 : decode cX8_count 144 = .ok (.iaload, 1) := by decide +kernel
theorem dX8_count_145 : decode cX8_count 145 = .ok (.ireturn, 1) := by decide +kernel
theorem dX8_count_146 : decode cX8_count 146 = .ok (.iconst 0, 1) := by decide +kernel
theorem dX8_count_147 : decode cX8_count 147 = .ok (.istore_n 3, 1) := by decide +kernel
theorem dX8_count_148 : decode cX8_count 148 = .ok (.iload_n 3, 1) := by decide +kernel
theorem dX8_count_149 : decode cX8_count 149 = .ok (.bipush 10, 2) := by decide +kernel
theorem dX8_count_151 : decode cX8_count 151 = .ok (.if_icmp .ge 28, 3) := by decide +kernel
theorem dX8_count_154 : decode cX8_count 154 = .ok (.iload_n 2, 1) := by decide +kernel
theorem dX8_count_155 : decode cX8_count 155 = .ok (.aload_n 0, 1) := by decide +kernel
theorem dX8_count_156 : decode cX8_count 156 = .ok (.getfield 9, 3) := by decide +kernel
theorem dX8_count_159 : decode cX8_count 159 = .ok (.iconst 5, 1) := by decide +kernel
theorem dX8_count_160 : decode cX8_count 160 = .ok (.iload_n 3, 1) := by decide +kernel
theorem dX8_count_161 : decode cX8_count 161 = .ok (.iadd, 1) := by decide +kernel
theorem dX8_count_162 : decode cX8_count 162 = .ok (.iaload, 1) := by decide +kernel
theorem dX8_count_163 : decode cX8_count 163 = .ok (.ifCond .ge 7, 3) := by decide +kernel
theorem dX8_count_166 : decode cX8_count 166 = .ok (.iconst 0, 1) := by decide +kernel
theorem dX8_count_167 : decode cX8_count 167 = .ok (.goto 4, 3) := by decide +kernel
theorem dX8_count_170 : decode cX8_count 170 = .ok (.iconst 1, 1) := by decide +kernel
theorem dX8_count_171 : decode cX8_count 171 = .ok (.iadd, 1) := by decide +kernel
theorem dX8_count_172 : decode cX8_count 172 = .ok (.istore_n 2, 1) := by decide +kernel
theorem dX8_count_173 : decode cX8_count 173 = .ok (.iinc 3 1, 3) := by decide +kernel
theorem dX8_count_176 : decode cX8_count 176 = .ok (.goto (-28), 3) := by decide +kernel
theorem dX8_count_179 : decode cX8_count 179 = .ok (.iload_n 2, 1) := by decide +kernel
theorem dX8_count_180 : decode cX8_count 180 = .ok (.ireturn, 1) := by decide +kernel
theorem dX8_count_181 : decode cX8_count 181 = .ok (.aload_n 0, 1) := by decide +kernel
theorem dX8_count_182 : decode cX8_count 182 = .ok (.ldc 63, 2) := by decide +kernel
theorem dX8_count_184 : decode cX8_count 184 = .ok (.invokevirtual 80, 3) := by decide +kernel
theorem dX8_count_187 : decode cX8_count 187 = .ok (.ireturn, 1) := by decide +kernel
theorem dX8_status_0 : decode cX8_status 0 = .ok (.iload_n 1, 1) := by decide +kernel
theorem dX8_status_1 : decode cX8_status 1 = .ok (.iconst (-1), 1) := by decide +kernel
theorem dX8_status_2 : decode cX8_status 2 = .ok (.bipush 6, 2) := by decide +kernel
theorem dX8_status_4 : decode cX8_status 4 = .ok (.invokestatic 68, 3) := by decide +kernel
theorem dX8_status_7 : decode cX8_status 7 = .ok (.ifCond .eq 14, 3) := by decide +kernel
theorem dX8_status_10 : decode cX8_status 10 = .ok (.aload_n 0, 1) := by decide +kernel
theorem dX8_status_11 : decode cX8_status 11 = .ok (.getfield 19, 3) := by decide +kernel
theorem dX8_status_14 : decode cX8_status 14 = .ok (.iload_n 1, 1) := by decide +kernel
theorem dX8_status_15 : decode cX8_status 15 = .ok (.iconst 1, 1) := by decide +kernel
theorem dX8_status_16 : decode cX8_status 16 = .ok (.iadd, 1) := by decide +kernel
theorem dX8_status_17 : decode cX8_status 17 = .ok (.iaload, 1) := by decide +kernel
theorem dX8_status_18 : decode cX8_status 18 = .ok (.goto 9, 3) := by decide +kernel
theorem dX8_status_21 : decode cX8_status 21 = .ok (.aload_n 0, 1) := by decide +kernel
theorem dX8_status_22 : decode cX8_status 22 = .ok (.ldc 63, 2) := by decide +kernel
theorem dX8_status_24 : decode cX8_status 24 = .ok (.invokevirtual 80, 3) := by decide +kernel
theorem dX8_status_27 : decode cX8_status 27 = .ok (.ireturn, 1) := by decide +kernel
theorem dJ6_bitCount_0f7a4_0 : decode cJ6_bitCount_0f7a4 0 = .ok (.iload_n 0, 1) := by decide +kernel
theorem dJ6_bitCount_0f7a4_1 : decode cJ6_bitCount_0f7a4 1 = .ok (.iload_n 0, 1) := by decide +kernel
theorem dJ6_bitCount_0f7a4_2 : decode cJ6_bitCount_0f7a4 2 = .ok (.iconst 1, 1) := by decide +kernel
theorem dJ6_bitCount_0f7a4_3 : decode cJ6_bitCount_0f7a4 3 = .ok (.iushr, 1) := by decide +kernel
theorem dJ6_bitCount_0f7a4_4 : decode cJ6_bitCount_0f7a4 4 = .ok (.ldc_w 265, 3) := by decide +kernel
theorem dJ6_bitCount_0f7a4_7 : decode cJ6_bitCount_0f7a4 7 = .ok (.iand, 1) := by decide +kernel
theorem dJ6_bitCount_0f7a4_8 : decode cJ6_bitCount_0f7a4 8 = .ok (.isub, 1) := by decide +kernel
theorem dJ6_bitCount_0f7a4_9 : decode cJ6_bitCount_0f7a4 9 = .ok (.istore_n 0, 1) := by decide +kernel
theorem dJ6_bitCount_0f7a4_10 : decode cJ6_bitCount_0f7a4 10 = .ok (.iload_n 0, 1) := by decide +kernel
theorem dJ6_bitCount_0f7a4_11 : decode cJ6_bitCount_0f7a4 11 = .ok (.ldc_w 266, 3) := by decide +kernel
theorem dJ6_bitCount_0f7a4_14 : decode cJ6_bitCount_0f7a4 14 = .ok (.iand, 1) := by decide +kernel
theorem dJ6_bitCount_0f7a4_15 : decode cJ6_bitCount_0f7a4 15 = .ok (.iload_n 0, 1) := by decide +kernel
theorem dJ6_bitCount_0f7a4_16 : decode cJ6_bitCount_0f7a4 16 = .ok (.iconst 2, 1) := by decide +kernel
theorem dJ6_bitCount_0f7a4_17 : decode cJ6_bitCount_0f7a4 17 = .ok (.iushr, 1) := by decide +kernel
theorem dJ6_bitCount_0f7a4_18 : decode cJ6_bitCount_0f7a4 18 = .ok (.ldc_w 266, 3) := by decide +kernel
theorem dJ6_bitCount_0f7a4_21 : decode cJ6_bitCount_0f7a4 21 = .ok (.iand, 1) := by decide +kernel
theorem dJ6_bitCount_0f7a4_22 : decode cJ6_bitCount_0f7a4 22 = .ok (.iadd, 1) := by decide +kernel
theorem dJ6_bitCount_0f7a4_23 : decode cJ6_bitCount_0f7a4 23 = .ok (.istore_n 0, 1) := by decide +kernel
theorem dJ6_bitCount_0f7a4_24 : decode cJ6_bitCount_0f7a4 24 = .ok (.iload_n 0, 1) := by decide +kernel
theorem dJ6_bitCount_0f7a4_25 : decode cJ6_bitCount_0f7a4 25 = .ok (.iload_n 0, 1) := by decide +kernel
theorem dJ6_bitCount_0f7a4_26 : decode cJ6_bitCount_0f7a4 26 = .ok (.iconst 4, 1) := by decide +kernel
theorem dJ6_bitCount_0f7a4_27 : decode cJ6_bitCount_0f7a4 27 = .ok (.iushr, 1) := by decide +kernel
theorem dJ6_bitCount_0f7a4_28 : decode cJ6_bitCount_0f7a4 28 = .ok (.iadd, 1) := by decide +kernel
theorem dJ6_bitCount_0f7a4_29 : decode cJ6_bitCount_0f7a4 29 = .ok (.ldc_w 267, 3) := by decide +kernel
theorem dJ6_bitCount_0f7a4_32 : decode cJ6_bitCount_0f7a4 32 = .ok (.iand, 1) := by decide +kernel
theorem dJ6_bitCount_0f7a4_33 : decode cJ6_bitCount_0f7a4 33 = .ok (.istore_n 0, 1) := by decide +kernel
theorem dJ6_bitCount_0f7a4_34 : decode cJ6_bitCount_0f7a4 34 = .ok (.iload_n 0, 1) := by decide +kernel
theorem dJ6_bitCount_0f7a4_35 : decode cJ6_bitCount_0f7a4 35 = .ok (.iload_n 0, 1) := by decide +kernel
theorem dJ6_bitCount_0f7a4_36 : decode cJ6_bitCount_0f7a4 36 = .ok (.bipush 8, 2) := by decide +kernel
theorem dJ6_bitCount_0f7a4_38 : decode cJ6_bitCount_0f7a4 38 = .ok (.iushr, 1) := by decide +kernel
theorem dJ6_bitCount_0f7a4_39 : decode cJ6_bitCount_0f7a4 39 = .ok (.iadd, 1) := by decide +kernel
theorem dJ6_bitCount_0f7a4_40 : decode cJ6_bitCount_0f7a4 40 = .ok (.istore_n 0, 1) := by decide +kernel
theorem dJ6_bitCount_0f7a4_41 : decode cJ6_bitCount_0f7a4 41 = .ok (.iload_n 0, 1) := by decide +kernel
theorem dJ6_bitCount_0f7a4_42 : decode cJ6_bitCount_0f7a4 42 = .ok (.iload_n 0, 1) := by decide +kernel
theorem dJ6_bitCount_0f7a4_43 : decode cJ6_bitCount_0f7a4 43 = .ok (.bipush 16, 2) := by decide +kernel
theorem dJ6_bitCount_0f7a4_45 : decode cJ6_bitCount_0f7a4 45 = .ok (.iushr, 1) := by decide +kernel
theorem dJ6_bitCount_0f7a4_46 : decode cJ6_bitCount_0f7a4 46 = .ok (.iadd, 1) := by decide +kernel
theorem dJ6_bitCount_0f7a4_47 : decode cJ6_bitCount_0f7a4 47 = .ok (.istore_n 0, 1) := by decide +kernel
theorem dJ6_bitCount_0f7a4_48 : decode cJ6_bitCount_0f7a4 48 = .ok (.iload_n 0, 1) := by decide +kernel
theorem dJ6_bitCount_0f7a4_49 : decode cJ6_bitCount_0f7a4 49 = .ok (.bipush 63, 2) := by decide +kernel
theorem dJ6_bitCount_0f7a4_51 : decode cJ6_bitCount_0f7a4 51 = .ok (.iand, 1) := by decide +kernel
theorem dJ6_bitCount_0f7a4_52 : decode cJ6_bitCount_0f7a4 52 = .ok (.ireturn, 1) := by decide +kernel
theorem dJ9_abs_0f7a4_0 : decode cJ9_abs_0f7a4 0 = .ok (.iload_n 0, 1) := by decide +kernel
theorem dJ9_abs_0f7a4_1 : decode cJ9_abs_0f7a4 1 = .ok (.ifCond .ge 8, 3) := by decide +kernel
theorem dJ9_abs_0f7a4_4 : decode cJ9_abs_0f7a4 4 = .ok (.iload_n 0, 1) := by decide +kernel
theorem dJ9_abs_0f7a4_5 : decode cJ9_abs_0f7a4 5 = .ok (.ineg, 1) := by decide +kernel
theorem dJ9_abs_0f7a4_6 : decode cJ9_abs_0f7a4 6 = .ok (.goto 4, 3) := by decide +kernel
theorem dJ9_abs_0f7a4_9 : decode cJ9_abs_0f7a4 9 = .ok (.iload_n 0, 1) := by decide +kernel
theorem dJ9_abs_0f7a4_10 : decode cJ9_abs_0f7a4 10 = .ok (.ireturn, 1) := by decide +kernel
theorem dJ9_max_7cf53_0 : decode cJ9_max_7cf53 0 = .ok (.iload_n 0, 1) := by decide +kernel
theorem dJ9_max_7cf53_1 : decode cJ9_max_7cf53 1 = .ok (.iload_n 1, 1) := by decide +kernel
theorem dJ9_max_7cf53_2 : decode cJ9_max_7cf53 2 = .ok (.if_icmp .lt 7, 3) := by decide +kernel
theorem dJ9_max_7cf53_5 : decode cJ9_max_7cf53 5 = .ok (.iload_n 0, 1) := by decide +kernel
theorem dJ9_max_7cf53_6 : decode cJ9_max_7cf53 6 = .ok (.goto 4, 3) := by decide +kernel
theorem dJ9_max_7cf53_9 : decode cJ9_max_7cf53 9 = .ok (.iload_n 1, 1) := by decide +kernel
theorem dJ9_max_7cf53_10 : decode cJ9_max_7cf53 10 = .ok (.ireturn, 1) := by decide +kernel
theorem dJ9_min_7cf53_0 : decode cJ9_min_7cf53 0 = .ok (.iload_n 0, 1) := by decide +kernel
theorem dJ9_min_7cf53_1 : decode cJ9_min_7cf53 1 = .ok (.iload_n 1, 1) := by decide +kernel
theorem dJ9_min_7cf53_2 : decode cJ9_min_7cf53 2 = .ok (.if_icmp .gt 7, 3) := by decide +kernel
theorem dJ9_min_7cf53_5 : decode cJ9_min_7cf53 5 = .ok (.iload_n 0, 1) := by decide +kernel
theorem dJ9_min_7cf53_6 : decode cJ9_min_7cf53 6 = .ok (.goto 4, 3) := by decide +kernel
theorem dJ9_min_7cf53_9 : decode cJ9_min_7cf53 9 = .ok (.iload_n 1, 1) := by decide +kernel
theorem dJ9_min_7cf53_10 : decode cJ9_min_7cf53 10 = .ok (.ireturn, 1) := by decide +kernel
theorem dJ0_length_8abf5_0 : decode cJ0_length_8abf5 0 = .ok (.aload_n 0, 1) := by decide +kernel
theorem dJ0_length_8abf5_1 : decode cJ0_length_8abf5 1 = .ok (.getfield 9, 3) := by decide +kernel
theorem dJ0_length_8abf5_4 : decode cJ0_length_8abf5 4 = .ok (.arraylength, 1) := by decide +kernel
theorem dJ0_length_8abf5_5 : decode cJ0_length_8abf5 5 = .ok (.aload_n 0, 1) := by decide +kernel
theorem dJ0_length_8abf5_6 : decode cJ0_length_8abf5 6 = .ok (.invokevirtual 335, 3) := by decide +kernel
theorem dJ0_length_8abf5_9 : decode cJ0_length_8abf5 9 = .ok (.ishr, 1) := by decide +kernel
theorem dJ0_length_8abf5_10 : decode cJ0_length_8abf5 10 = .ok (.ireturn, 1) := by decide +kernel
theorem dJ0_charAt_5068e_0 : decode cJ0_charAt_5068e 0 = .ok (.aload_n 0, 1) := by decide +kernel
theorem dJ0_charAt_5068e_1 : decode cJ0_charAt_5068e 1 = .ok (.invokevirtual 492, 3) := by decide +kernel
theorem dJ0_charAt_5068e_4 : decode cJ0_charAt_5068e 4 = .ok (.ifCond .eq 12, 3) := by decide +kernel
theorem dJ0_charAt_5068e_7 : decode cJ0_charAt_5068e 7 = .ok (.aload_n 0, 1) := by decide +kernel
theorem dJ0_charAt_5068e_8 : decode cJ0_charAt_5068e 8 = .ok (.getfield 9, 3) := by decide +kernel
theorem dJ0_charAt_5068e_11 : decode cJ0_charAt_5068e 11 = .ok (.iload_n 1, 1) := by decide +kernel
theorem dJ0_charAt_5068e_12 : decode cJ0_charAt_5068e 12 = .ok (.invokestatic 495, 3) := by decide +kernel
theorem dJ0_charAt_5068e_15 : decode cJ0_charAt_5068e 15 = .ok (.ireturn, 1) := by decide +kernel
theorem dJ0_charAt_5068e_16 : decode cJ0_charAt_5068e 16 = .ok (.aload_n 0, 1) := by decide +kernel
theorem dJ0_charAt_5068e_17 : decode cJ0_charAt_5068e 17 = .ok (.getfield 9, 3) := by decide +kernel
theorem dJ0_charAt_5068e_20 : decode cJ0_charAt_5068e 20 = .ok (.iload_n 1, 1) := by decide +kernel
theorem dJ0_charAt_5068e_21 : decode cJ0_charAt_5068e 21 = .ok (.invokestatic 498, 3) := by decide +kernel
theorem dJ0_charAt_5068e_24 : decode cJ0_charAt_5068e 24 = .ok (.ireturn, 1) := by decide +kernel
theorem dJ0_coder_7d493_0 : decode cJ0_coder_7d493 0 = .ok (.getstatic 38, 3) := by decide +kernel
theorem dJ0_coder_7d493_3 : decode cJ0_coder_7d493 3 = .ok (.ifCond .eq 10, 3) := by decide +kernel
theorem dJ0_coder_7d493_6 : decode cJ0_coder_7d493 6 = .ok (.aload_n 0, 1) := by decide +kernel
theorem dJ0_coder_7d493_7 : decode cJ0_coder_7d493 7 = .ok (.getfield 15, 3) := by decide +kernel
theorem dJ0_coder_7d493_10 : decode cJ0_coder_7d493 10 = .ok (.goto 4, 3) := by decide +kernel
theorem dJ0_coder_7d493_13 : decode cJ0_coder_7d493 13 = .ok (.iconst 1, 1) := by decide +kernel
theorem dJ0_coder_7d493_14 : decode cJ0_coder_7d493 14 = .ok (.ireturn, 1) := by decide +kernel
theorem dJ0_isLatin1_aae02_0 : decode cJ0_isLatin1_aae02 0 = .ok (.getstatic 38, 3) := by decide +kernel
theorem dJ0_isLatin1_aae02_3 : decode cJ0_isLatin1_aae02 3 = .ok (.ifCond .eq 14, 3) := by decide +kernel
theorem dJ0_isLatin1_aae02_6 : decode cJ0_isLatin1_aae02 6 = .ok (.aload_n 0, 1) := by decide +kernel
theorem dJ0_isLatin1_aae02_7 : decode cJ0_isLatin1_aae02 7 = .ok (.getfield 15, 3) := by decide +kernel
theorem dJ0_isLatin1_aae02_10 : decode cJ0_isLatin1_aae02 10 = .ok (.ifCond .ne 7, 3) := by decide +kernel
theorem dJ0_isLatin1_aae02_13 : decode cJ0_isLatin1_aae02 13 = .ok (.iconst 1, 1) := by decide +kernel
theorem dJ0_isLatin1_aae02_14 : decode cJ0_isLatin1_aae02 14 = .ok (.goto 4, 3) := by decide +kernel
theorem dJ0_isLatin1_aae02_17 : decode cJ0_isLatin1_aae02 17 = .ok (.iconst 0, 1) := by decide +kernel
theorem dJ0_isLatin1_aae02_18 : decode cJ0_isLatin1_aae02 18 = .ok (.ireturn, 1) := by decide +kernel
theorem dJ0_checkIndex_df160_0 : decode cJ0_checkIndex_df160 0 = .ok (.iload_n 0, 1) := by decide +kernel
theorem dJ0_checkIndex_df160_1 : decode cJ0_checkIndex_df160 1 = .ok (.iload_n 1, 1) := by decide +kernel
theorem dJ0_checkIndex_df160_2 : decode cJ0_checkIndex_df160 2 = .ok (.getstatic 1053, 3) := by decide +kernel
theorem dJ0_checkIndex_df160_5 : decode cJ0_checkIndex_df160 5 = .ok (.invokestatic 1059, 3) := by decide +kernel
theorem dJ0_checkIndex_df160_8 : decode cJ0_checkIndex_df160 8 = .ok (.pop, 1) := by decide +kernel
theorem dJ0_checkIndex_df160_9 : decode cJ0_checkIndex_df160 9 = .ok (.return_, 1) := by decide +kernel
theorem dJ1_charAt_3b067_0 : decode cJ1_charAt_3b067 0 = .ok (.iload_n 1, 1) := by decide +kernel
theorem dJ1_charAt_3b067_1 : decode cJ1_charAt_3b067 1 = .ok (.aload_n 0, 1) := by decide +kernel
theorem dJ1_charAt_3b067_2 : decode cJ1_charAt_3b067 2 = .ok (.arraylength, 1) := by decide +kernel
theorem dJ1_charAt_3b067_3 : decode cJ1_charAt_3b067 3 = .ok (.invokestatic 9, 3) := by decide +kernel
theorem dJ1_charAt_3b067_6 : decode cJ1_charAt_3b067 6 = .ok (.aload_n 0, 1) := by decide +kernel
theorem dJ1_charAt_3b067_7 : decode cJ1_charAt_3b067 7 = .ok (.iload_n 1, 1) := by decide +kernel
theorem dJ1_charAt_3b067_8 : decode cJ1_charAt_3b067 8 = .ok (.baload, 1) := by decide +kernel
theorem dJ1_charAt_3b067_9 : decode cJ1_charAt_3b067 9 = .ok (.sipush 255, 3) := by decide +kernel
theorem dJ1_charAt_3b067_12 : decode cJ1_charAt_3b067 12 = .ok (.iand, 1) := by decide +kernel
theorem dJ1_charAt_3b067_13 : decode cJ1_charAt_3b067 13 = .ok (.i2c, 1) := by decide +kernel
theorem dJ1_charAt_3b067_14 : decode cJ1_charAt_3b067 14 = .ok (.ireturn, 1) := by decide +kernel
theorem dJ2_getChar_3b067_0 : decode cJ2_getChar_3b067 0 = .ok (.getstatic 44, 3) := by decide +kernel
theorem dJ2_getChar_3b067_3 : decode cJ2_getChar_3b067 3 = .ok (.ifCond .ne 25, 3) := by decide +kernel
theorem dJ2_getChar_3b067_6 : decode cJ2_getChar_3b067 6 = .ok (.iload_n 1, 1) := by decide +kernel
theorem dJ2_getChar_3b067_7 : decode cJ2_getChar_3b067 7 = .ok (.ifCond .lt 11, 3) := by decide +kernel
theorem dJ2_getChar_3b067_10 : decode cJ2_getChar_3b067 10 = .ok (.iload_n 1, 1) := by decide +kernel
theorem dJ2_getChar_3b067_11 : decode cJ2_getChar_3b067 11 = .ok (.aload_n 0, 1) := by decide +kernel
theorem dJ2_getChar_3b067_12 : decode cJ2_getChar_3b067 12 = .ok (.invokestatic 48, 3) := by decide +kernel
theorem dJ2_getChar_3b067_15 : decode cJ2_getChar_3b067 15 = .ok (.if_icmp .lt 13, 3) := by decide +kernel
theorem dJ2_getChar_3b067_18 : decode cJ2_getChar_3b067 18 = .ok (.new 52, 3) := by decide +kernel
theorem dJ2_getChar_3b067_21 : decode cJ2_getChar_3b067 21 = .ok (.dup, 1) := by decide +kernel
theorem dJ2_getChar_3b067_22 : decode cJ2_getChar_3b067 22 = .ok (.ldc 54, 2) := by decide +kernel
theorem dJ2_getChar_3b067_24 : decode cJ2_getChar_3b067 24 = .ok (.invokespecial 56, 3) := by decide +kernel
theorem dJ2_getChar_3b067_27 : decode cJ2_getChar_3b067 27 = .ok (.athrow, 1) := by decide +kernel
theorem dJ2_getChar_3b067_28 : decode cJ2_getChar_3b067 28 = .ok (.iload_n 1, 1) := by decide +kernel
theorem dJ2_getChar_3b067_29 : decode cJ2_getChar_3b067 29 = .ok (.iconst 1, 1) := by decide +kernel
theorem dJ2_getChar_3b067_30 : decode cJ2_getChar_3b067 30 = .ok (.ishl, 1) := by decide +kernel
theorem dJ2_getChar_3b067_31 : decode cJ2_getChar_3b067 31 = .ok (.istore_n 1, 1) := by decide +kernel
theorem dJ2_getChar_3b067_32 : decode cJ2_getChar_3b067 32 = .ok (.aload_n 0, 1) := by decide +kernel
theorem dJ2_getChar_3b067_33 : decode cJ2_getChar_3b067 33 = .ok (.iload_n 1, 1) := by decide +kernel
theorem dJ2_getChar_3b067_34 : decode cJ2_getChar_3b067 34 = .ok (.iinc 1 1, 3) := by decide +kernel
theorem dJ2_getChar_3b067_37 : decode cJ2_getChar_3b067 37 = .ok (.baload, 1) := by decide +kernel
theorem dJ2_getChar_3b067_38 : decode cJ2_getChar_3b067 38 = .ok (.sipush 255, 3) := by decide +kernel
theorem dJ2_getChar_3b067_41 : decode cJ2_getChar_3b067 41 = .ok (.iand, 1) := by decide +kernel
theorem dJ2_getChar_3b067_42 : decode cJ2_getChar_3b067 42 = .ok (.getstatic 59, 3) := by decide +kernel
theorem dJ2_getChar_3b067_45 : decode cJ2_getChar_3b067 45 = .ok (.ishl, 1) := by decide +kernel
theorem dJ2_getChar_3b067_46 : decode cJ2_getChar_3b067 46 = .ok (.aload_n 0, 1) := by decide +kernel
theorem dJ2_getChar_3b067_47 : decode cJ2_getChar_3b067 47 = .ok (.iload_n 1, 1) := by decide +kernel
theorem dJ2_getChar_3b067_48 : decode cJ2_getChar_3b067 48 = .ok (.baload, 1) := by decide +kernel
theorem dJ2_getChar_3b067_49 : decode cJ2_getChar_3b067 49 = .ok (.sipush 255, 3) := by decide +kernel
theorem dJ2_getChar_3b067_52 : decode cJ2_getChar_3b067 52 = .ok (.iand, 1) := by decide +kernel
theorem dJ2_getChar_3b067_53 : decode cJ2_getChar_3b067 53 = .ok (.getstatic 63, 3) := by decide +kernel
theorem dJ2_getChar_3b067_56 : decode cJ2_getChar_3b067 56 = .ok (.ishl, 1) := by decide +kernel
theorem dJ2_getChar_3b067_57 : decode cJ2_getChar_3b067 57 = .ok (.ior, 1) := by decide +kernel
theorem dJ2_getChar_3b067_58 : decode cJ2_getChar_3b067 58 = .ok (.i2c, 1) := by decide +kernel
theorem dJ2_getChar_3b067_59 : decode cJ2_getChar_3b067 59 = .ok (.ireturn, 1) := by decide +kernel
theorem dJ2_length_9d52b_0 : decode cJ2_length_9d52b 0 = .ok (.aload_n 0, 1) := by decide +kernel
theorem dJ2_length_9d52b_1 : decode cJ2_length_9d52b 1 = .ok (.arraylength, 1) := by decide +kernel
theorem dJ2_length_9d52b_2 : decode cJ2_length_9d52b 2 = .ok (.iconst 1, 1) := by decide +kernel
theorem dJ2_length_9d52b_3 : decode cJ2_length_9d52b 3 = .ok (.ishr, 1) := by decide +kernel
theorem dJ2_length_9d52b_4 : decode cJ2_length_9d52b 4 = .ok (.ireturn, 1) := by decide +kernel
theorem dJ2_charAt_3b067_0 : decode cJ2_charAt_3b067 0 = .ok (.iload_n 1, 1) := by decide +kernel
theorem dJ2_charAt_3b067_1 : decode cJ2_charAt_3b067 1 = .ok (.aload_n 0, 1) := by decide +kernel
theorem dJ2_charAt_3b067_2 : decode cJ2_charAt_3b067 2 = .ok (.invokestatic 67, 3) := by decide +kernel
theorem dJ2_charAt_3b067_5 : decode cJ2_charAt_3b067 5 = .ok (.aload_n 0, 1) := by decide +kernel
theorem dJ2_charAt_3b067_6 : decode cJ2_charAt_3b067 6 = .ok (.iload_n 1, 1) := by decide +kernel
theorem dJ2_charAt_3b067_7 : decode cJ2_charAt_3b067 7 = .ok (.invokestatic 71, 3) := by decide +kernel
theorem dJ2_charAt_3b067_10 : decode cJ2_charAt_3b067 10 = .ok (.ireturn, 1) := by decide +kernel
theorem dJ2_checkIndex_2214a_0 : decode cJ2_checkIndex_2214a 0 = .ok (.iload_n 0, 1) := by decide +kernel
theorem dJ2_checkIndex_2214a_1 : decode cJ2_checkIndex_2214a 1 = .ok (.aload_n 1, 1) := by decide +kernel
theorem dJ2_checkIndex_2214a_2 : decode cJ2_checkIndex_2214a 2 = .ok (.invokestatic 48, 3) := by decide +kernel
theorem dJ2_checkIndex_2214a_5 : decode cJ2_checkIndex_2214a 5 = .ok (.invokestatic 414, 3) := by decide +kernel
theorem dJ2_checkIndex_2214a_8 : decode cJ2_checkIndex_2214a 8 = .ok (.return_, 1) := by decide +kernel
theorem dJ7_fill_53178_0 : decode cJ7_fill_53178 0 = .ok (.iconst 0, 1) := by decide +kernel
theorem dJ7_fill_53178_1 : decode cJ7_fill_53178 1 = .ok (.istore_n 2, 1) := by decide +kernel
theorem dJ7_fill_53178_2 : decode cJ7_fill_53178 2 = .ok (.aload_n 0, 1) := by decide +kernel
theorem dJ7_fill_53178_3 : decode cJ7_fill_53178 3 = .ok (.arraylength, 1) := by decide +kernel
theorem dJ7_fill_53178_4 : decode cJ7_fill_53178 4 = .ok (.istore_n 3, 1) := by decide +kernel
theorem dJ7_fill_53178_5 : decode cJ7_fill_53178 5 = .ok (.iload_n 2, 1) := by decide +kernel
theorem dJ7_fill_53178_6 : decode cJ7_fill_53178 6 = .ok (.iload_n 3, 1) := by decide +kernel
theorem dJ7_fill_53178_7 : decode cJ7_fill_53178 7 = .ok (.if_icmp .ge 13, 3) := by decide +kernel
theorem dJ7_fill_53178_10 : decode cJ7_fill_53178 10 = .ok (.aload_n 0, 1) := by decide +kernel
theorem dJ7_fill_53178_11 : decode cJ7_fill_53178 11 = .ok (.iload_n 2, 1) := by decide +kernel
theorem dJ7_fill_53178_12 : decode cJ7_fill_53178 12 = .ok (.iload_n 1, 1) := by decide +kernel
theorem dJ7_fill_53178_13 : decode cJ7_fill_53178 13 = .ok (.iastore, 1) := by decide +kernel
theorem dJ7_fill_53178_14 : decode cJ7_fill_53178 14 = .ok (.iinc 2 1, 3) := by decide +kernel
theorem dJ7_fill_53178_17 : decode cJ7_fill_53178 17 = .ok (.goto (-12), 3) := by decide +kernel
theorem dJ7_fill_53178_20 : decode cJ7_fill_53178 20 = .ok (.return_, 1) := by decide +kernel
theorem dJ3_checkIndex_8e157_0 : decode cJ3_checkIndex_8e157 0 = .ok (.iload_n 0, 1) := by decide +kernel
theorem dJ3_checkIndex_8e157_1 : decode cJ3_checkIndex_8e157 1 = .ok (.ifCond .lt 8, 3) := by decide +kernel
theorem dJ3_checkIndex_8e157_4 : decode cJ3_checkIndex_8e157 4 = .ok (.iload_n 0, 1) := by decide +kernel
theorem dJ3_checkIndex_8e157_5 : decode cJ3_checkIndex_8e157 5 = .ok (.iload_n 1, 1) := by decide +kernel
theorem dJ3_checkIndex_8e157_6 : decode cJ3_checkIndex_8e157 6 = .ok (.if_icmp .lt 10, 3) := by decide +kernel
theorem dJ3_checkIndex_8e157_9 : decode cJ3_checkIndex_8e157 9 = .ok (.aload_n 2, 1) := by decide +kernel
theorem dJ3_checkIndex_8e157_10 : decode cJ3_checkIndex_8e157 10 = .ok (.iload_n 0, 1) := by decide +kernel
theorem dJ3_checkIndex_8e157_11 : decode cJ3_checkIndex_8e157 11 = .ok (.iload_n 1, 1) := by decide +kernel
theorem dJ3_checkIndex_8e157_12 : decode cJ3_checkIndex_8e157 12 = .ok (.invokestatic 95, 3) := by decide +kernel
theorem dJ3_checkIndex_8e157_15 : decode cJ3_checkIndex_8e157 15 = .ok (.athrow, 1) := by decide +kernel
theorem dJ3_checkIndex_8e157_16 : decode cJ3_checkIndex_8e157 16 = .ok (.iload_n 0, 1) := by decide +kernel
theorem dJ3_checkIndex_8e157_17 : decode cJ3_checkIndex_8e157 17 = .ok (.ireturn, 1) := by decide +kernel
theorem dL_law_0 : decode cL_law 0 = .ok (.new 7, 3) := by decide +kernel
theorem dL_law_3 : decode cL_law 3 = .ok (.dup, 1) := by decide +kernel
theorem dL_law_4 : decode cL_law 4 = .ok (.invokespecial 9, 3) := by decide +kernel
theorem dL_law_7 : decode cL_law 7 = .ok (.astore_n 1, 1) := by decide +kernel
theorem dL_law_8 : decode cL_law 8 = .ok (.new 10, 3) := by decide +kernel
theorem dL_law_11 : decode cL_law 11 = .ok (.dup, 1) := by decide +kernel
theorem dL_law_12 : decode cL_law 12 = .ok (.invokespecial 12, 3) := by decide +kernel
theorem dL_law_15 : decode cL_law 15 = .ok (.astore_n 2, 1) := by decide +kernel
theorem dL_law_16 : decode cL_law 16 = .ok (.iconst 0, 1) := by decide +kernel
theorem dL_law_17 : decode cL_law 17 = .ok (.istore_n 3, 1) := by decide +kernel
theorem dL_law_18 : decode cL_law 18 = .ok (.iload_n 3, 1) := by decide +kernel
theorem dL_law_19 : decode cL_law 19 = .ok (.aload_n 0, 1) := by decide +kernel
theorem dL_law_20 : decode cL_law 20 = .ok (.arraylength, 1) := by decide +kernel
theorem dL_law_21 : decode cL_law 21 = .ok (.bipush 6, 2) := by decide +kernel
theorem dL_law_23 : decode cL_law 23 = .ok (.isub, 1) := by decide +kernel
theorem dL_law_24 : decode cL_law 24 = .ok (.if_icmp .gt 1533, 3) := by decide +kernel
theorem dL_law_27 : decode cL_law 27 = .ok (.aload_n 0, 1) := by decide +kernel
theorem dL_law_28 : decode cL_law 28 = .ok (.iload_n 3, 1) := by decide +kernel
theorem dL_law_29 : decode cL_law 29 = .ok (.iaload, 1) := by decide +kernel
theorem dL_law_30 : decode cL_law 30 = .ok (.bipush 63, 2) := by decide +kernel
theorem dL_law_32 : decode cL_law 32 = .ok (.iand, 1) := by decide +kernel
theorem dL_law_33 : decode cL_law 33 = .ok (.tableswitch 1518 0 48 #[211, 234, 267, 310, 353, 386, 409, 442, 475, 508, 521, 554, 587, 610, 633, 646, 669, 692, 715, 738, 761, 784, 817, 840, 853, 886, 899, 922, 945, 968, 1001, 1034, 1067, 1090, 1113, 1146, 1159, 1172, 1205, 1238, 1281, 1324, 1387, 1410, 1433, 1446, 1459, 1472, 1495], 211) := by decide +kernel
theorem dL_law_244 : decode cL_law 244 = .ok (.aload_n 1, 1) := by decide +kernel
theorem dL_law_245 : decode cL_law 245 = .ok (.aload_n 0, 1) := by decide +kernel
theorem dL_law_246 : decode cL_law 246 = .ok (.iload_n 3, 1) := by decide +kernel
theorem dL_law_247 : decode cL_law 247 = .ok (.iconst 1, 1) := by decide +kernel
theorem dL_law_248 : decode cL_law 248 = .ok (.iadd, 1) := by decide +kernel
theorem dL_law_249 : decode cL_law 249 = .ok (.iaload, 1) := by decide +kernel
theorem dL_law_250 : decode cL_law 250 = .ok (.invokevirtual 13, 3) := by decide +kernel
theorem dL_law_253 : decode cL_law 253 = .ok (.aload_n 2, 1) := by decide +kernel
theorem dL_law_254 : decode cL_law 254 = .ok (.aload_n 0, 1) := by decide +kernel
theorem dL_law_255 : decode cL_law 255 = .ok (.iload_n 3, 1) := by decide +kernel
theorem dL_law_256 : decode cL_law 256 = .ok (.iconst 1, 1) := by decide +kernel
theorem dL_law_257 : decode cL_law 257 = .ok (.iadd, 1) := by decide +kernel
theorem dL_law_258 : decode cL_law 258 = .ok (.iaload, 1) := by decide +kernel
theorem dL_law_259 : decode cL_law 259 = .ok (.invokevirtual 17, 3) := by decide +kernel
theorem dL_law_262 : decode cL_law 262 = .ok (.if_icmp .eq 1289, 3) := by decide +kernel
theorem dL_law_265 : decode cL_law 265 = .ok (.iconst 0, 1) := by decide +kernel
theorem dL_law_266 : decode cL_law 266 = .ok (.ireturn, 1) := by decide +kernel
theorem dL_law_267 : decode cL_law 267 = .ok (.aload_n 1, 1) := by decide +kernel
theorem dL_law_268 : decode cL_law 268 = .ok (.aload_n 0, 1) := by decide +kernel
theorem dL_law_269 : decode cL_law 269 = .ok (.iload_n 3, 1) := by decide +kernel
theorem dL_law_270 : decode cL_law 270 = .ok (.iconst 1, 1) := by decide +kernel
theorem dL_law_271 : decode cL_law 271 = .ok (.iadd, 1) := by decide +kernel
theorem dL_law_272 : decode cL_law 272 = .ok (.iaload, 1) := by decide +kernel
theorem dL_law_273 : decode cL_law 273 = .ok (.aload_n 0, 1) := by decide +kernel
theorem dL_law_274 : decode cL_law 274 = .ok (.iload_n 3, 1) := by decide +kernel
theorem dL_law_275 : decode cL_law 275 = .ok (.iconst 2, 1) := by decide +kernel
theorem dL_law_276 : decode cL_law 276 = .ok (.iadd, 1) := by decide +kernel
theorem dL_law_277 : decode cL_law 277 = .ok (.iaload, 1) := by decide +kernel
theorem dL_law_278 : decode cL_law 278 = .ok (.invokevirtual 18, 3) := by decide +kernel
theorem dL_law_281 : decode cL_law 281 = .ok (.aload_n 2, 1) := by decide +kernel
theorem dL_law_282 : decode cL_law 282 = .ok (.aload_n 0, 1) := by decide +kernel
theorem dL_law_283 : decode cL_law 283 = .ok (.iload_n 3, 1) := by decide +kernel
theorem dL_law_284 : decode cL_law 284 = .ok (.iconst 1, 1) := by decide +kernel
theorem dL_law_285 : decode cL_law 285 = .ok (.iadd, 1) := by decide +kernel
theorem dL_law_286 : decode cL_law 286 = .ok (.iaload, 1) := by decide +kernel
theorem dL_law_287 : decode cL_law 287 = .ok (.aload_n 0, 1) := by decide +kernel
theorem dL_law_288 : decode cL_law 288 = .ok (.iload_n 3, 1) := by decide +kernel
theorem dL_law_289 : decode cL_law 289 = .ok (.iconst 2, 1) := by decide +kernel
theorem dL_law_290 : decode cL_law 290 = .ok (.iadd, 1) := by decide +kernel
theorem dL_law_291 : decode cL_law 291 = .ok (.iaload, 1) := by decide +kernel
theorem dL_law_292 : decode cL_law 292 = .ok (.invokevirtual 22, 3) := by decide +kernel
theorem dL_law_295 : decode cL_law 295 = .ok (.if_icmp .eq 1256, 3) := by decide +kernel
theorem dL_law_298 : decode cL_law 298 = .ok (.iconst 0, 1) := by decide +kernel
theorem dL_law_299 : decode cL_law 299 = .ok (.ireturn, 1) := by decide +kernel
theorem dL_law_300 : decode cL_law 300 = .ok (.aload_n 1, 1) := by decide +kernel
theorem dL_law_301 : decode cL_law 301 = .ok (.aload_n 0, 1) := by decide +kernel
theorem dL_law_302 : decode cL_law 302 = .ok (.iload_n 3, 1) := by decide +kernel
theorem dL_law_303 : decode cL_law 303 = .ok (.iconst 1, 1) := by decide +kernel
theorem dL_law_304 : decode cL_law 304 = .ok (.iadd, 1) := by decide +kernel
theorem dL_law_305 : decode cL_law 305 = .ok (.iaload, 1) := by decide +kernel
theorem dL_law_306 : decode cL_law 306 = .ok (.aload_n 0, 1) := by decide +kernel
theorem dL_law_307 : decode cL_law 307 = .ok (.iload_n 3, 1) := by decide +kernel
theorem dL_law_308 : decode cL_law 308 = .ok (.iconst 2, 1) := by decide +kernel
theorem dL_law_309 : decode cL_law 309 = .ok (.iadd, 1) := by decide +kernel
theorem dL_law_310 : decode cL_law 310 = .ok (.iaload, 1) := by decide +kernel
theorem dL_law_311 : decode cL_law 311 = .ok (.aload_n 0, 1) := by decide +kernel
theorem dL_law_312 : decode cL_law 312 = .ok (.iload_n 3, 1) := by decide +kernel
theorem dL_law_313 : decode cL_law 313 = .ok (.iconst 3, 1) := by decide +kernel
theorem dL_law_314 : decode cL_law 314 = .ok (.iadd, 1) := by decide +kernel
theorem dL_law_315 : decode cL_law 315 = .ok (.iaload, 1) := by decide +kernel
theorem dL_law_316 : decode cL_law 316 = .ok (.invokevirtual 23, 3) := by decide +kernel
theorem dL_law_319 : decode cL_law 319 = .ok (.aload_n 2, 1) := by decide +kernel
theorem dL_law_320 : decode cL_law 320 = .ok (.aload_n 0, 1) := by decide +kernel
theorem dL_law_321 : decode cL_law 321 = .ok (.iload_n 3, 1) := by decide +kernel
theorem dL_law_322 : decode cL_law 322 = .ok (.iconst 1, 1) := by decide +kernel
theorem dL_law_323 : decode cL_law 323 = .ok (.iadd, 1) := by decide +kernel
theorem dL_law_324 : decode cL_law 324 = .ok (.iaload, 1) := by decide +kernel
theorem dL_law_325 : decode cL_law 325 = .ok (.aload_n 0, 1) := by decide +kernel
theorem dL_law_326 : decode cL_law 326 = .ok (.iload_n 3, 1) := by decide +kernel
theorem dL_law_327 : decode cL_law 327 = .ok (.iconst 2, 1) := by decide +kernel
theorem dL_law_328 : decode cL_law 328 = .ok (.iadd, 1) := by decide +kernel
theorem dL_law_329 : decode cL_law 329 = .ok (.iaload, 1) := by decide +kernel
theorem dL_law_330 : decode cL_law 330 = .ok (.aload_n 0, 1) := by decide +kernel
theorem dL_law_331 : decode cL_law 331 = .ok (.iload_n 3, 1) := by decide +kernel
theorem dL_law_332 : decode cL_law 332 = .ok (.iconst 3, 1) := by decide +kernel
theorem dL_law_333 : decode cL_law 333 = .ok (.iadd, 1) := by decide +kernel
theorem dL_law_334 : decode cL_law 334 = .ok (.iaload, 1) := by decide +kernel
theorem dL_law_335 : decode cL_law 335 = .ok (.invokevirtual 27, 3) := by decide +kernel
theorem dL_law_338 : decode cL_law 338 = .ok (.if_icmp .eq 1213, 3) := by decide +kernel
theorem dL_law_341 : decode cL_law 341 = .ok (.iconst 0, 1) := by decide +kernel
theorem dL_law_342 : decode cL_law 342 = .ok (.ireturn, 1) := by decide +kernel
theorem dL_law_343 : decode cL_law 343 = .ok (.aload_n 1, 1) := by decide +kernel
theorem dL_law_344 : decode cL_law 344 = .ok (.aload_n 0, 1) := by decide +kernel
theorem dL_law_345 : decode cL_law 345 = .ok (.iload_n 3, 1) := by decide +kernel
theorem dL_law_346 : decode cL_law 346 = .ok (.iconst 1, 1) := by decide +kernel
theorem dL_law_347 : decode cL_law 347 = .ok (.iadd, 1) := by decide +kernel
theorem dL_law_348 : decode cL_law 348 = .ok (.iaload, 1) := by decide +kernel
theorem dL_law_349 : decode cL_law 349 = .ok (.aload_n 0, 1) := by decide +kernel
theorem dL_law_350 : decode cL_law 350 = .ok (.iload_n 3, 1) := by decide +kernel
theorem dL_law_351 : decode cL_law 351 = .ok (.iconst 2, 1) := by decide +kernel
theorem dL_law_352 : decode cL_law 352 = .ok (.iadd, 1) := by decide +kernel
theorem dL_law_353 : decode cL_law 353 = .ok (.iaload, 1) := by decide +kernel
theorem dL_law_354 : decode cL_law 354 = .ok (.aload_n 0, 1) := by decide +kernel
theorem dL_law_355 : decode cL_law 355 = .ok (.iload_n 3, 1) := by decide +kernel
theorem dL_law_356 : decode cL_law 356 = .ok (.iconst 3, 1) := by decide +kernel
theorem dL_law_357 : decode cL_law 357 = .ok (.iadd, 1) := by decide +kernel
theorem dL_law_358 : decode cL_law 358 = .ok (.iaload, 1) := by decide +kernel
theorem dL_law_359 : decode cL_law 359 = .ok (.invokevirtual 28, 3) := by decide +kernel
theorem dL_law_362 : decode cL_law 362 = .ok (.aload_n 2, 1) := by decide +kernel
theorem dL_law_363 : decode cL_law 363 = .ok (.aload_n 0, 1) := by decide +kernel
theorem dL_law_364 : decode cL_law 364 = .ok (.iload_n 3, 1) := by decide +kernel
theorem dL_law_365 : decode cL_law 365 = .ok (.iconst 1, 1) := by decide +kernel
theorem dL_law_366 : decode cL_law 366 = .ok (.iadd, 1) := by decide +kernel
theorem dL_law_367 : decode cL_law 367 = .ok (.iaload, 1) := by decide +kernel
theorem dL_law_368 : decode cL_law 368 = .ok (.aload_n 0, 1) := by decide +kernel
theorem dL_law_369 : decode cL_law 369 = .ok (.iload_n 3, 1) := by decide +kernel
theorem dL_law_370 : decode cL_law 370 = .ok (.iconst 2, 1) := by decide +kernel
theorem dL_law_371 : decode cL_law 371 = .ok (.iadd, 1) := by decide +kernel
theorem dL_law_372 : decode cL_law 372 = .ok (.iaload, 1) := by decide +kernel
theorem dL_law_373 : decode cL_law 373 = .ok (.aload_n 0, 1) := by decide +kernel
theorem dL_law_374 : decode cL_law 374 = .ok (.iload_n 3, 1) := by decide +kernel
theorem dL_law_375 : decode cL_law 375 = .ok (.iconst 3, 1) := by decide +kernel
theorem dL_law_376 : decode cL_law 376 = .ok (.iadd, 1) := by decide +kernel
theorem dL_law_377 : decode cL_law 377 = .ok (.iaload, 1) := by decide +kernel
theorem dL_law_378 : decode cL_law 378 = .ok (.invokevirtual 31, 3) := by decide +kernel
theorem dL_law_381 : decode cL_law 381 = .ok (.if_icmp .eq 1170, 3) := by decide +kernel
theorem dL_law_384 : decode cL_law 384 = .ok (.iconst 0, 1) := by decide +kernel
theorem dL_law_385 : decode cL_law 385 = .ok (.ireturn, 1) := by decide +kernel
theorem dL_law_386 : decode cL_law 386 = .ok (.aload_n 1, 1) := by decide +kernel
theorem dL_law_387 : decode cL_law 387 = .ok (.aload_n 0, 1) := by decide +kernel
theorem dL_law_388 : decode cL_law 388 = .ok (.iload_n 3, 1) := by decide +kernel
theorem dL_law_389 : decode cL_law 389 = .ok (.iconst 1, 1) := by decide +kernel
theorem dL_law_390 : decode cL_law 390 = .ok (.iadd, 1) := by decide +kernel
theorem dL_law_391 : decode cL_law 391 = .ok (.iaload, 1) := by decide +kernel
theorem dL_law_392 : decode cL_law 392 = .ok (.aload_n 0, 1) := by decide +kernel
theorem dL_law_393 : decode cL_law 393 = .ok (.iload_n 3, 1) := by decide +kernel
theorem dL_law_394 : decode cL_law 394 = .ok (.iconst 2, 1) := by decide +kernel
theorem dL_law_395 : decode cL_law 395 = .ok (.iadd, 1) := by decide +kernel
theorem dL_law_396 : decode cL_law 396 = .ok (.iaload, 1) := by decide +kernel
theorem dL_law_397 : decode cL_law 397 = .ok (.invokevirtual 32, 3) := by decide +kernel
theorem dL_law_400 : decode cL_law 400 = .ok (.aload_n 2, 1) := by decide +kernel
theorem dL_law_401 : decode cL_law 401 = .ok (.aload_n 0, 1) := by decide +kernel
theorem dL_law_402 : decode cL_law 402 = .ok (.iload_n 3, 1) := by decide +kernel
theorem dL_law_403 : decode cL_law 403 = .ok (.iconst 1, 1) := by decide +kernel
theorem dL_law_404 : decode cL_law 404 = .ok (.iadd, 1) := by decide +kernel
theorem dL_law_405 : decode cL_law 405 = .ok (.iaload, 1) := by decide +kernel
theorem dL_law_406 : decode cL_law 406 = .ok (.aload_n 0, 1) := by decide +kernel
theorem dL_law_407 : decode cL_law 407 = .ok (.iload_n 3, 1) := by decide +kernel
theorem dL_law_408 : decode cL_law 408 = .ok (.iconst 2, 1) := by decide +kernel
theorem dL_law_409 : decode cL_law 409 = .ok (.iadd, 1) := by decide +kernel
theorem dL_law_410 : decode cL_law 410 = .ok (.iaload, 1) := by decide +kernel
theorem dL_law_411 : decode cL_law 411 = .ok (.invokevirtual 35, 3) := by decide +kernel
theorem dL_law_414 : decode cL_law 414 = .ok (.if_icmp .eq 1137, 3) := by decide +kernel
theorem dL_law_417 : decode cL_law 417 = .ok (.iconst 0, 1) := by decide +kernel
theorem dL_law_418 : decode cL_law 418 = .ok (.ireturn, 1) := by decide +kernel
theorem dL_law_419 : decode cL_law 419 = .ok (.aload_n 1, 1) := by decide +kernel
theorem dL_law_420 : decode cL_law 420 = .ok (.aload_n 0, 1) := by decide +kernel
theorem dL_law_421 : decode cL_law 421 = .ok (.iload_n 3, 1) := by decide +kernel
theorem dL_law_422 : decode cL_law 422 = .ok (.iconst 1, 1) := by decide +kernel
theorem dL_law_423 : decode cL_law 423 = .ok (.iadd, 1) := by decide +kernel
theorem dL_law_424 : decode cL_law 424 = .ok (.iaload, 1) := by decide +kernel
theorem dL_law_425 : decode cL_law 425 = .ok (.invokevirtual 36, 3) := by decide +kernel
theorem dL_law_428 : decode cL_law 428 = .ok (.aload_n 2, 1) := by decide +kernel
theorem dL_law_429 : decode cL_law 429 = .ok (.aload_n 0, 1) := by decide +kernel
theorem dL_law_430 : decode cL_law 430 = .ok (.iload_n 3, 1) := by decide +kernel
theorem dL_law_431 : decode cL_law 431 = .ok (.iconst 1, 1) := by decide +kernel
theorem dL_law_432 : decode cL_law 432 = .ok (.iadd, 1) := by decide +kernel
theorem dL_law_433 : decode cL_law 433 = .ok (.iaload, 1) := by decide +kernel
theorem dL_law_434 : decode cL_law 434 = .ok (.invokevirtual 39, 3) := by decide +kernel
theorem dL_law_437 : decode cL_law 437 = .ok (.if_icmp .eq 1114, 3) := by decide +kernel
theorem dL_law_440 : decode cL_law 440 = .ok (.iconst 0, 1) := by decide +kernel
theorem dL_law_441 : decode cL_law 441 = .ok (.ireturn, 1) := by decide +kernel
theorem dL_law_442 : decode cL_law 442 = .ok (.aload_n 1, 1) := by decide +kernel
theorem dL_law_443 : decode cL_law 443 = .ok (.aload_n 0, 1) := by decide +kernel
theorem dL_law_444 : decode cL_law 444 = .ok (.iload_n 3, 1) := by decide +kernel
theorem dL_law_445 : decode cL_law 445 = .ok (.iconst 1, 1) := by decide +kernel
theorem dL_law_446 : decode cL_law 446 = .ok (.iadd, 1) := by decide +kernel
theorem dL_law_447 : decode cL_law 447 = .ok (.iaload, 1) := by decide +kernel
theorem dL_law_448 : decode cL_law 448 = .ok (.aload_n 0, 1) := by decide +kernel
theorem dL_law_449 : decode cL_law 449 = .ok (.iload_n 3, 1) := by decide +kernel
theorem dL_law_450 : decode cL_law 450 = .ok (.iconst 2, 1) := by decide +kernel
theorem dL_law_451 : decode cL_law 451 = .ok (.iadd, 1) := by decide +kernel
theorem dL_law_452 : decode cL_law 452 = .ok (.iaload, 1) := by decide +kernel
theorem dL_law_453 : decode cL_law 453 = .ok (.invokevirtual 40, 3) := by decide +kernel
theorem dL_law_456 : decode cL_law 456 = .ok (.aload_n 2, 1) := by decide +kernel
theorem dL_law_457 : decode cL_law 457 = .ok (.aload_n 0, 1) := by decide +kernel
theorem dL_law_458 : decode cL_law 458 = .ok (.iload_n 3, 1) := by decide +kernel
theorem dL_law_459 : decode cL_law 459 = .ok (.iconst 1, 1) := by decide +kernel
theorem dL_law_460 : decode cL_law 460 = .ok (.iadd, 1) := by decide +kernel
theorem dL_law_461 : decode cL_law 461 = .ok (.iaload, 1) := by decide +kernel
theorem dL_law_462 : decode cL_law 462 = .ok (.aload_n 0, 1) := by decide +kernel
theorem dL_law_463 : decode cL_law 463 = .ok (.iload_n 3, 1) := by decide +kernel
theorem dL_law_464 : decode cL_law 464 = .ok (.iconst 2, 1) := by decide +kernel
theorem dL_law_465 : decode cL_law 465 = .ok (.iadd, 1) := by decide +kernel
theorem dL_law_466 : decode cL_law 466 = .ok (.iaload, 1) := by decide +kernel
theorem dL_law_467 : decode cL_law 467 = .ok (.invokevirtual 43, 3) := by decide +kernel
theorem dL_law_470 : decode cL_law 470 = .ok (.if_icmp .eq 1081, 3) := by decide +kernel
theorem dL_law_473 : decode cL_law 473 = .ok (.iconst 0, 1) := by decide +kernel
theorem dL_law_474 : decode cL_law 474 = .ok (.ireturn, 1) := by decide +kernel
theorem dL_law_475 : decode cL_law 475 = .ok (.aload_n 1, 1) := by decide +kernel
theorem dL_law_476 : decode cL_law 476 = .ok (.aload_n 0, 1) := by decide +kernel
theorem dL_law_477 : decode cL_law 477 = .ok (.iload_n 3, 1) := by decide +kernel
theorem dL_law_478 : decode cL_law 478 = .ok (.iconst 1, 1) := by decide +kernel
theorem dL_law_479 : decode cL_law 479 = .ok (.iadd, 1) := by decide +kernel
theorem dL_law_480 : decode cL_law 480 = .ok (.iaload, 1) := by decide +kernel
theorem dL_law_481 : decode cL_law 481 = .ok (.aload_n 0, 1) := by decide +kernel
theorem dL_law_482 : decode cL_law 482 = .ok (.iload_n 3, 1) := by decide +kernel
theorem dL_law_483 : decode cL_law 483 = .ok (.iconst 2, 1) := by decide +kernel
theorem dL_law_484 : decode cL_law 484 = .ok (.iadd, 1) := by decide +kernel
theorem dL_law_485 : decode cL_law 485 = .ok (.iaload, 1) := by decide +kernel
theorem dL_law_486 : decode cL_law 486 = .ok (.invokevirtual 44, 3) := by decide +kernel
theorem dL_law_489 : decode cL_law 489 = .ok (.aload_n 2, 1) := by decide +kernel
theorem dL_law_490 : decode cL_law 490 = .ok (.aload_n 0, 1) := by decide +kernel
theorem dL_law_491 : decode cL_law 491 = .ok (.iload_n 3, 1) := by decide +kernel
theorem dL_law_492 : decode cL_law 492 = .ok (.iconst 1, 1) := by decide +kernel
theorem dL_law_493 : decode cL_law 493 = .ok (.iadd, 1) := by decide +kernel
theorem dL_law_494 : decode cL_law 494 = .ok (.iaload, 1) := by decide +kernel
theorem dL_law_495 : decode cL_law 495 = .ok (.aload_n 0, 1) := by decide +kernel
theorem dL_law_496 : decode cL_law 496 = .ok (.iload_n 3, 1) := by decide +kernel
theorem dL_law_497 : decode cL_law 497 = .ok (.iconst 2, 1) := by decide +kernel
theorem dL_law_498 : decode cL_law 498 = .ok (.iadd, 1) := by decide +kernel
theorem dL_law_499 : decode cL_law 499 = .ok (.iaload, 1) := by decide +kernel
theorem dL_law_500 : decode cL_law 500 = .ok (.invokevirtual 47, 3) := by decide +kernel
theorem dL_law_503 : decode cL_law 503 = .ok (.if_icmp .eq 1048, 3) := by decide +kernel
theorem dL_law_506 : decode cL_law 506 = .ok (.iconst 0, 1) := by decide +kernel
theorem dL_law_507 : decode cL_law 507 = .ok (.ireturn, 1) := by decide +kernel
theorem dL_law_508 : decode cL_law 508 = .ok (.aload_n 1, 1) := by decide +kernel
theorem dL_law_509 : decode cL_law 509 = .ok (.aload_n 0, 1) := by decide +kernel
theorem dL_law_510 : decode cL_law 510 = .ok (.iload_n 3, 1) := by decide +kernel
theorem dL_law_511 : decode cL_law 511 = .ok (.iconst 1, 1) := by decide +kernel
theorem dL_law_512 : decode cL_law 512 = .ok (.iadd, 1) := by decide +kernel
theorem dL_law_513 : decode cL_law 513 = .ok (.iaload, 1) := by decide +kernel
theorem dL_law_514 : decode cL_law 514 = .ok (.aload_n 0, 1) := by decide +kernel
theorem dL_law_515 : decode cL_law 515 = .ok (.iload_n 3, 1) := by decide +kernel
theorem dL_law_516 : decode cL_law 516 = .ok (.iconst 2, 1) := by decide +kernel
theorem dL_law_517 : decode cL_law 517 = .ok (.iadd, 1) := by decide +kernel
theorem dL_law_518 : decode cL_law 518 = .ok (.iaload, 1) := by decide +kernel
theorem dL_law_519 : decode cL_law 519 = .ok (.invokevirtual 48, 3) := by decide +kernel
theorem dL_law_522 : decode cL_law 522 = .ok (.aload_n 2, 1) := by decide +kernel
theorem dL_law_523 : decode cL_law 523 = .ok (.aload_n 0, 1) := by decide +kernel
theorem dL_law_524 : decode cL_law 524 = .ok (.iload_n 3, 1) := by decide +kernel
theorem dL_law_525 : decode cL_law 525 = .ok (.iconst 1, 1) := by decide +kernel
theorem dL_law_526 : decode cL_law 526 = .ok (.iadd, 1) := by decide +kernel
theorem dL_law_527 : decode cL_law 527 = .ok (.iaload, 1) := by decide +kernel
theorem dL_law_528 : decode cL_law 528 = .ok (.aload_n 0, 1) := by decide +kernel
theorem dL_law_529 : decode cL_law 529 = .ok (.iload_n 3, 1) := by decide +kernel
theorem dL_law_530 : decode cL_law 530 = .ok (.iconst 2, 1) := by decide +kernel
theorem dL_law_531 : decode cL_law 531 = .ok (.iadd, 1) := by decide +kernel
theorem dL_law_532 : decode cL_law 532 = .ok (.iaload, 1) := by decide +kernel
theorem dL_law_533 : decode cL_law 533 = .ok (.invokevirtual 51, 3) := by decide +kernel
theorem dL_law_536 : decode cL_law 536 = .ok (.if_icmp .eq 1015, 3) := by decide +kernel
theorem dL_law_539 : decode cL_law 539 = .ok (.iconst 0, 1) := by decide +kernel
theorem dL_law_540 : decode cL_law 540 = .ok (.ireturn, 1) := by decide +kernel
theorem dL_law_541 : decode cL_law 541 = .ok (.aload_n 1, 1) := by decide +kernel
theorem dL_law_542 : decode cL_law 542 = .ok (.invokevirtual 52, 3) := by decide +kernel
theorem dL_law_545 : decode cL_law 545 = .ok (.aload_n 2, 1) := by decide +kernel
theorem dL_law_546 : decode cL_law 546 = .ok (.invokevirtual 56, 3) := by decide +kernel
theorem dL_law_549 : decode cL_law 549 = .ok (.if_icmp .eq 1002, 3) := by decide +kernel
theorem dL_law_552 : decode cL_law 552 = .ok (.iconst 0, 1) := by decide +kernel
theorem dL_law_553 : decode cL_law 553 = .ok (.ireturn, 1) := by decide +kernel
theorem dL_law_554 : decode cL_law 554 = .ok (.aload_n 1, 1) := by decide +kernel
theorem dL_law_555 : decode cL_law 555 = .ok (.aload_n 0, 1) := by decide +kernel
theorem dL_law_556 : decode cL_law 556 = .ok (.iload_n 3, 1) := by decide +kernel
theorem dL_law_557 : decode cL_law 557 = .ok (.iconst 1, 1) := by decide +kernel
theorem dL_law_558 : decode cL_law 558 = .ok (.iadd, 1) := by decide +kernel
theorem dL_law_559 : decode cL_law 559 = .ok (.iaload, 1) := by decide +kernel
theorem dL_law_560 : decode cL_law 560 = .ok (.aload_n 0, 1) := by decide +kernel
theorem dL_law_561 : decode cL_law 561 = .ok (.iload_n 3, 1) := by decide +kernel
theorem dL_law_562 : decode cL_law 562 = .ok (.iconst 2, 1) := by decide +kernel
theorem dL_law_563 : decode cL_law 563 = .ok (.iadd, 1) := by decide +kernel
theorem dL_law_564 : decode cL_law 564 = .ok (.iaload, 1) := by decide +kernel
theorem dL_law_565 : decode cL_law 565 = .ok (.invokevirtual 57, 3) := by decide +kernel
theorem dL_law_568 : decode cL_law 568 = .ok (.aload_n 2, 1) := by decide +kernel
theorem dL_law_569 : decode cL_law 569 = .ok (.aload_n 0, 1) := by decide +kernel
theorem dL_law_570 : decode cL_law 570 = .ok (.iload_n 3, 1) := by decide +kernel
theorem dL_law_571 : decode cL_law 571 = .ok (.iconst 1, 1) := by decide +kernel
theorem dL_law_572 : decode cL_law 572 = .ok (.iadd, 1) := by decide +kernel
theorem dL_law_573 : decode cL_law 573 = .ok (.iaload, 1) := by decide +kernel
theorem dL_law_574 : decode cL_law 574 = .ok (.aload_n 0, 1) := by decide +kernel
theorem dL_law_575 : decode cL_law 575 = .ok (.iload_n 3, 1) := by decide +kernel
theorem dL_law_576 : decode cL_law 576 = .ok (.iconst 2, 1) := by decide +kernel
theorem dL_law_577 : decode cL_law 577 = .ok (.iadd, 1) := by decide +kernel
theorem dL_law_578 : decode cL_law 578 = .ok (.iaload, 1) := by decide +kernel
theorem dL_law_579 : decode cL_law 579 = .ok (.invokevirtual 60, 3) := by decide +kernel
theorem dL_law_582 : decode cL_law 582 = .ok (.if_icmp .eq 969, 3) := by decide +kernel
theorem dL_law_585 : decode cL_law 585 = .ok (.iconst 0, 1) := by decide +kernel
theorem dL_law_586 : decode cL_law 586 = .ok (.ireturn, 1) := by decide +kernel
theorem dL_law_587 : decode cL_law 587 = .ok (.aload_n 1, 1) := by decide +kernel
theorem dL_law_588 : decode cL_law 588 = .ok (.aload_n 0, 1) := by decide +kernel
theorem dL_law_589 : decode cL_law 589 = .ok (.iload_n 3, 1) := by decide +kernel
theorem dL_law_590 : decode cL_law 590 = .ok (.iconst 1, 1) := by decide +kernel
theorem dL_law_591 : decode cL_law 591 = .ok (.iadd, 1) := by decide +kernel
theorem dL_law_592 : decode cL_law 592 = .ok (.iaload, 1) := by decide +kernel
theorem dL_law_593 : decode cL_law 593 = .ok (.aload_n 0, 1) := by decide +kernel
theorem dL_law_594 : decode cL_law 594 = .ok (.iload_n 3, 1) := by decide +kernel
theorem dL_law_595 : decode cL_law 595 = .ok (.iconst 2, 1) := by decide +kernel
theorem dL_law_596 : decode cL_law 596 = .ok (.iadd, 1) := by decide +kernel
theorem dL_law_597 : decode cL_law 597 = .ok (.iaload, 1) := by decide +kernel
theorem dL_law_598 : decode cL_law 598 = .ok (.invokevirtual 61, 3) := by decide +kernel
theorem dL_law_601 : decode cL_law 601 = .ok (.aload_n 2, 1) := by decide +kernel
theorem dL_law_602 : decode cL_law 602 = .ok (.aload_n 0, 1) := by decide +kernel
theorem dL_law_603 : decode cL_law 603 = .ok (.iload_n 3, 1) := by decide +kernel
theorem dL_law_604 : decode cL_law 604 = .ok (.iconst 1, 1) := by decide +kernel
theorem dL_law_605 : decode cL_law 605 = .ok (.iadd, 1) := by decide +kernel
theorem dL_law_606 : decode cL_law 606 = .ok (.iaload, 1) := by decide +kernel
theorem dL_law_607 : decode cL_law 607 = .ok (.aload_n 0, 1) := by decide +kernel
theorem dL_law_608 : decode cL_law 608 = .ok (.iload_n 3, 1) := by decide +kernel
theorem dL_law_609 : decode cL_law 609 = .ok (.iconst 2, 1) := by decide +kernel
theorem dL_law_610 : decode cL_law 610 = .ok (.iadd, 1) := by decide +kernel
theorem dL_law_611 : decode cL_law 611 = .ok (.iaload, 1) := by decide +kernel
theorem dL_law_612 : decode cL_law 612 = .ok (.invokevirtual 64, 3) := by decide +kernel
theorem dL_law_615 : decode cL_law 615 = .ok (.if_icmp .eq 936, 3) := by decide +kernel
theorem dL_law_618 : decode cL_law 618 = .ok (.iconst 0, 1) := by decide +kernel
theorem dL_law_619 : decode cL_law 619 = .ok (.ireturn, 1) := by decide +kernel
theorem dL_law_620 : decode cL_law 620 = .ok (.aload_n 1, 1) := by decide +kernel
theorem dL_law_621 : decode cL_law 621 = .ok (.aload_n 0, 1) := by decide +kernel
theorem dL_law_622 : decode cL_law 622 = .ok (.iload_n 3, 1) := by decide +kernel
theorem dL_law_623 : decode cL_law 623 = .ok (.iconst 1, 1) := by decide +kernel
theorem dL_law_624 : decode cL_law 624 = .ok (.iadd, 1) := by decide +kernel
theorem dL_law_625 : decode cL_law 625 = .ok (.iaload, 1) := by decide +kernel
theorem dL_law_626 : decode cL_law 626 = .ok (.invokevirtual 65, 3) := by decide +kernel
theorem dL_law_629 : decode cL_law 629 = .ok (.aload_n 2, 1) := by decide +kernel
theorem dL_law_630 : decode cL_law 630 = .ok (.aload_n 0, 1) := by decide +kernel
theorem dL_law_631 : decode cL_law 631 = .ok (.iload_n 3, 1) := by decide +kernel
theorem dL_law_632 : decode cL_law 632 = .ok (.iconst 1, 1) := by decide +kernel
theorem dL_law_633 : decode cL_law 633 = .ok (.iadd, 1) := by decide +kernel
theorem dL_law_634 : decode cL_law 634 = .ok (.iaload, 1) := by decide +kernel
theorem dL_law_635 : decode cL_law 635 = .ok (.invokevirtual 68, 3) := by decide +kernel
theorem dL_law_638 : decode cL_law 638 = .ok (.if_icmp .eq 913, 3) := by decide +kernel
theorem dL_law_641 : decode cL_law 641 = .ok (.iconst 0, 1) := by decide +kernel
theorem dL_law_642 : decode cL_law 642 = .ok (.ireturn, 1) := by decide +kernel
theorem dL_law_643 : decode cL_law 643 = .ok (.aload_n 1, 1) := by decide +kernel
theorem dL_law_644 : decode cL_law 644 = .ok (.aload_n 0, 1) := by decide +kernel
theorem dL_law_645 : decode cL_law 645 = .ok (.iload_n 3, 1) := by decide +kernel
theorem dL_law_646 : decode cL_law 646 = .ok (.iconst 1, 1) := by decide +kernel
theorem dL_law_647 : decode cL_law 647 = .ok (.iadd, 1) := by decide +kernel
theorem dL_law_648 : decode cL_law 648 = .ok (.iaload, 1) := by decide +kernel
theorem dL_law_649 : decode cL_law 649 = .ok (.invokevirtual 69, 3) := by decide +kernel
theorem dL_law_652 : decode cL_law 652 = .ok (.aload_n 2, 1) := by decide +kernel
theorem dL_law_653 : decode cL_law 653 = .ok (.aload_n 0, 1) := by decide +kernel
theorem dL_law_654 : decode cL_law 654 = .ok (.iload_n 3, 1) := by decide +kernel
theorem dL_law_655 : decode cL_law 655 = .ok (.iconst 1, 1) := by decide +kernel
theorem dL_law_656 : decode cL_law 656 = .ok (.iadd, 1) := by decide +kernel
theorem dL_law_657 : decode cL_law 657 = .ok (.iaload, 1) := by decide +kernel
theorem dL_law_658 : decode cL_law 658 = .ok (.invokevirtual 72, 3) := by decide +kernel
theorem dL_law_661 : decode cL_law 661 = .ok (.if_icmp .eq 890, 3) := by decide +kernel
theorem dL_law_664 : decode cL_law 664 = .ok (.iconst 0, 1) := by decide +kernel
theorem dL_law_665 : decode cL_law 665 = .ok (.ireturn, 1) := by decide +kernel
theorem dL_law_666 : decode cL_law 666 = .ok (.aload_n 1, 1) := by decide +kernel
theorem dL_law_667 : decode cL_law 667 = .ok (.invokevirtual 73, 3) := by decide +kernel
theorem dL_law_670 : decode cL_law 670 = .ok (.aload_n 2, 1) := by decide +kernel
theorem dL_law_671 : decode cL_law 671 = .ok (.invokevirtual 76, 3) := by decide +kernel
theorem dL_law_674 : decode cL_law 674 = .ok (.if_icmp .eq 877, 3) := by decide +kernel
theorem dL_law_677 : decode cL_law 677 = .ok (.iconst 0, 1) := by decide +kernel
theorem dL_law_678 : decode cL_law 678 = .ok (.ireturn, 1) := by decide +kernel
theorem dL_law_679 : decode cL_law 679 = .ok (.aload_n 1, 1) := by decide +kernel
theorem dL_law_680 : decode cL_law 680 = .ok (.aload_n 0, 1) := by decide +kernel
theorem dL_law_681 : decode cL_law 681 = .ok (.iload_n 3, 1) := by decide +kernel
theorem dL_law_682 : decode cL_law 682 = .ok (.iconst 1, 1) := by decide +kernel
theorem dL_law_683 : decode cL_law 683 = .ok (.iadd, 1) := by decide +kernel
theorem dL_law_684 : decode cL_law 684 = .ok (.iaload, 1) := by decide +kernel
theorem dL_law_685 : decode cL_law 685 = .ok (.invokevirtual 77, 3) := by decide +kernel
theorem dL_law_688 : decode cL_law 688 = .ok (.aload_n 2, 1) := by decide +kernel
theorem dL_law_689 : decode cL_law 689 = .ok (.aload_n 0, 1) := by decide +kernel
theorem dL_law_690 : decode cL_law 690 = .ok (.iload_n 3, 1) := by decide +kernel
theorem dL_law_691 : decode cL_law 691 = .ok (.iconst 1, 1) := by decide +kernel
theorem dL_law_692 : decode cL_law 692 = .ok (.iadd, 1) := by decide +kernel
theorem dL_law_693 : decode cL_law 693 = .ok (.iaload, 1) := by decide +kernel
theorem dL_law_694 : decode cL_law 694 = .ok (.invokevirtual 80, 3) := by decide +kernel
theorem dL_law_697 : decode cL_law 697 = .ok (.if_icmp .eq 854, 3) := by decide +kernel
theorem dL_law_700 : decode cL_law 700 = .ok (.iconst 0, 1) := by decide +kernel
theorem dL_law_701 : decode cL_law 701 = .ok (.ireturn, 1) := by decide +kernel
theorem dL_law_702 : decode cL_law 702 = .ok (.aload_n 1, 1) := by decide +kernel
theorem dL_law_703 : decode cL_law 703 = .ok (.aload_n 0, 1) := by decide +kernel
theorem dL_law_704 : decode cL_law 704 = .ok (.iload_n 3, 1) := by decide +kernel
theorem dL_law_705 : decode cL_law 705 = .ok (.iconst 1, 1) := by decide +kernel
theorem dL_law_706 : decode cL_law 706 = .ok (.iadd, 1) := by decide +kernel
theorem dL_law_707 : decode cL_law 707 = .ok (.iaload, 1) := by decide +kernel
theorem dL_law_708 : decode cL_law 708 = .ok (.invokevirtual 81, 3) := by decide +kernel
theorem dL_law_711 : decode cL_law 711 = .ok (.aload_n 2, 1) := by decide +kernel
theorem dL_law_712 : decode cL_law 712 = .ok (.aload_n 0, 1) := by decide +kernel
theorem dL_law_713 : decode cL_law 713 = .ok (.iload_n 3, 1) := by decide +kernel
theorem dL_law_714 : decode cL_law 714 = .ok (.iconst 1, 1) := by decide +kernel
theorem dL_law_715 : decode cL_law 715 = .ok (.iadd, 1) := by decide +kernel
theorem dL_law_716 : decode cL_law 716 = .ok (.iaload, 1) := by decide +kernel
theorem dL_law_717 : decode cL_law 717 = .ok (.invokevirtual 84, 3) := by decide +kernel
theorem dL_law_720 : decode cL_law 720 = .ok (.if_icmp .eq 831, 3) := by decide +kernel
theorem dL_law_723 : decode cL_law 723 = .ok (.iconst 0, 1) := by decide +kernel
theorem dL_law_724 : decode cL_law 724 = .ok (.ireturn, 1) := by decide +kernel
theorem dL_law_725 : decode cL_law 725 = .ok (.aload_n 1, 1) := by decide +kernel
theorem dL_law_726 : decode cL_law 726 = .ok (.aload_n 0, 1) := by decide +kernel
theorem dL_law_727 : decode cL_law 727 = .ok (.iload_n 3, 1) := by decide +kernel
theorem dL_law_728 : decode cL_law 728 = .ok (.iconst 1, 1) := by decide +kernel
theorem dL_law_729 : decode cL_law 729 = .ok (.iadd, 1) := by decide +kernel
theorem dL_law_730 : decode cL_law 730 = .ok (.iaload, 1) := by decide +kernel
theorem dL_law_731 : decode cL_law 731 = .ok (.invokevirtual 85, 3) := by decide +kernel
theorem dL_law_734 : decode cL_law 734 = .ok (.aload_n 2, 1) := by decide +kernel
theorem dL_law_735 : decode cL_law 735 = .ok (.aload_n 0, 1) := by decide +kernel
theorem dL_law_736 : decode cL_law 736 = .ok (.iload_n 3, 1) := by decide +kernel
theorem dL_law_737 : decode cL_law 737 = .ok (.iconst 1, 1) := by decide +kernel
theorem dL_law_738 : decode cL_law 738 = .ok (.iadd, 1) := by decide +kernel
theorem dL_law_739 : decode cL_law 739 = .ok (.iaload, 1) := by decide +kernel
theorem dL_law_740 : decode cL_law 740 = .ok (.invokevirtual 88, 3) := by decide +kernel
theorem dL_law_743 : decode cL_law 743 = .ok (.if_icmp .eq 808, 3) := by decide +kernel
theorem dL_law_746 : decode cL_law 746 = .ok (.iconst 0, 1) := by decide +kernel
theorem dL_law_747 : decode cL_law 747 = .ok (.ireturn, 1) := by decide +kernel
theorem dL_law_748 : decode cL_law 748 = .ok (.aload_n 1, 1) := by decide +kernel
theorem dL_law_749 : decode cL_law 749 = .ok (.aload_n 0, 1) := by decide +kernel
theorem dL_law_750 : decode cL_law 750 = .ok (.iload_n 3, 1) := by decide +kernel
theorem dL_law_751 : decode cL_law 751 = .ok (.iconst 1, 1) := by decide +kernel
theorem dL_law_752 : decode cL_law 752 = .ok (.iadd, 1) := by decide +kernel
theorem dL_law_753 : decode cL_law 753 = .ok (.iaload, 1) := by decide +kernel
theorem dL_law_754 : decode cL_law 754 = .ok (.invokevirtual 89, 3) := by decide +kernel
theorem dL_law_757 : decode cL_law 757 = .ok (.aload_n 2, 1) := by decide +kernel
theorem dL_law_758 : decode cL_law 758 = .ok (.aload_n 0, 1) := by decide +kernel
theorem dL_law_759 : decode cL_law 759 = .ok (.iload_n 3, 1) := by decide +kernel
theorem dL_law_760 : decode cL_law 760 = .ok (.iconst 1, 1) := by decide +kernel
theorem dL_law_761 : decode cL_law 761 = .ok (.iadd, 1) := by decide +kernel
theorem dL_law_762 : decode cL_law 762 = .ok (.iaload, 1) := by decide +kernel
theorem dL_law_763 : decode cL_law 763 = .ok (.invokevirtual 92, 3) := by decide +kernel
theorem dL_law_766 : decode cL_law 766 = .ok (.if_icmp .eq 785, 3) := by decide +kernel
theorem dL_law_769 : decode cL_law 769 = .ok (.iconst 0, 1) := by decide +kernel
theorem dL_law_770 : decode cL_law 770 = .ok (.ireturn, 1) := by decide +kernel
theorem dL_law_771 : decode cL_law 771 = .ok (.aload_n 1, 1) := by decide +kernel
theorem dL_law_772 : decode cL_law 772 = .ok (.aload_n 0, 1) := by decide +kernel
theorem dL_law_773 : decode cL_law 773 = .ok (.iload_n 3, 1) := by decide +kernel
theorem dL_law_774 : decode cL_law 774 = .ok (.iconst 1, 1) := by decide +kernel
theorem dL_law_775 : decode cL_law 775 = .ok (.iadd, 1) := by decide +kernel
theorem dL_law_776 : decode cL_law 776 = .ok (.iaload, 1) := by decide +kernel
theorem dL_law_777 : decode cL_law 777 = .ok (.invokevirtual 93, 3) := by decide +kernel
theorem dL_law_780 : decode cL_law 780 = .ok (.aload_n 2, 1) := by decide +kernel
theorem dL_law_781 : decode cL_law 781 = .ok (.aload_n 0, 1) := by decide +kernel
theorem dL_law_782 : decode cL_law 782 = .ok (.iload_n 3, 1) := by decide +kernel
theorem dL_law_783 : decode cL_law 783 = .ok (.iconst 1, 1) := by decide +kernel
theorem dL_law_784 : decode cL_law 784 = .ok (.iadd, 1) := by decide +kernel
theorem dL_law_785 : decode cL_law 785 = .ok (.iaload, 1) := by decide +kernel
theorem dL_law_786 : decode cL_law 786 = .ok (.invokevirtual 96, 3) := by decide +kernel
theorem dL_law_789 : decode cL_law 789 = .ok (.if_icmp .eq 762, 3) := by decide +kernel
theorem dL_law_792 : decode cL_law 792 = .ok (.iconst 0, 1) := by decide +kernel
theorem dL_law_793 : decode cL_law 793 = .ok (.ireturn, 1) := by decide +kernel
theorem dL_law_794 : decode cL_law 794 = .ok (.aload_n 1, 1) := by decide +kernel
theorem dL_law_795 : decode cL_law 795 = .ok (.aload_n 0, 1) := by decide +kernel
theorem dL_law_796 : decode cL_law 796 = .ok (.iload_n 3, 1) := by decide +kernel
theorem dL_law_797 : decode cL_law 797 = .ok (.iconst 1, 1) := by decide +kernel
theorem dL_law_798 : decode cL_law 798 = .ok (.iadd, 1) := by decide +kernel
theorem dL_law_799 : decode cL_law 799 = .ok (.iaload, 1) := by decide +kernel
theorem dL_law_800 : decode cL_law 800 = .ok (.invokevirtual 97, 3) := by decide +kernel
theorem dL_law_803 : decode cL_law 803 = .ok (.aload_n 2, 1) := by decide +kernel
theorem dL_law_804 : decode cL_law 804 = .ok (.aload_n 0, 1) := by decide +kernel
theorem dL_law_805 : decode cL_law 805 = .ok (.iload_n 3, 1) := by decide +kernel
theorem dL_law_806 : decode cL_law 806 = .ok (.iconst 1, 1) := by decide +kernel
theorem dL_law_807 : decode cL_law 807 = .ok (.iadd, 1) := by decide +kernel
theorem dL_law_808 : decode cL_law 808 = .ok (.iaload, 1) := by decide +kernel
theorem dL_law_809 : decode cL_law 809 = .ok (.invokevirtual 100, 3) := by decide +kernel
theorem dL_law_812 : decode cL_law 812 = .ok (.if_icmp .eq 739, 3) := by decide +kernel
theorem dL_law_815 : decode cL_law 815 = .ok (.iconst 0, 1) := by decide +kernel
theorem dL_law_816 : decode cL_law 816 = .ok (.ireturn, 1) := by decide +kernel
theorem dL_law_817 : decode cL_law 817 = .ok (.aload_n 1, 1) := by decide +kernel
theorem dL_law_818 : decode cL_law 818 = .ok (.aload_n 0, 1) := by decide +kernel
theorem dL_law_819 : decode cL_law 819 = .ok (.iload_n 3, 1) := by decide +kernel
theorem dL_law_820 : decode cL_law 820 = .ok (.iconst 1, 1) := by decide +kernel
theorem dL_law_821 : decode cL_law 821 = .ok (.iadd, 1) := by decide +kernel
theorem dL_law_822 : decode cL_law 822 = .ok (.iaload, 1) := by decide +kernel
theorem dL_law_823 : decode cL_law 823 = .ok (.aload_n 0, 1) := by decide +kernel
theorem dL_law_824 : decode cL_law 824 = .ok (.iload_n 3, 1) := by decide +kernel
theorem dL_law_825 : decode cL_law 825 = .ok (.iconst 2, 1) := by decide +kernel
theorem dL_law_826 : decode cL_law 826 = .ok (.iadd, 1) := by decide +kernel
theorem dL_law_827 : decode cL_law 827 = .ok (.iaload, 1) := by decide +kernel
theorem dL_law_828 : decode cL_law 828 = .ok (.invokevirtual 101, 3) := by decide +kernel
theorem dL_law_831 : decode cL_law 831 = .ok (.aload_n 2, 1) := by decide +kernel
theorem dL_law_832 : decode cL_law 832 = .ok (.aload_n 0, 1) := by decide +kernel
theorem dL_law_833 : decode cL_law 833 = .ok (.iload_n 3, 1) := by decide +kernel
theorem dL_law_834 : decode cL_law 834 = .ok (.iconst 1, 1) := by decide +kernel
theorem dL_law_835 : decode cL_law 835 = .ok (.iadd, 1) := by decide +kernel
theorem dL_law_836 : decode cL_law 836 = .ok (.iaload, 1) := by decide +kernel
theorem dL_law_837 : decode cL_law 837 = .ok (.aload_n 0, 1) := by decide +kernel
theorem dL_law_838 : decode cL_law 838 = .ok (.iload_n 3, 1) := by decide +kernel
theorem dL_law_839 : decode cL_law 839 = .ok (.iconst 2, 1) := by decide +kernel
theorem dL_law_840 : decode cL_law 840 = .ok (.iadd, 1) := by decide +kernel
theorem dL_law_841 : decode cL_law 841 = .ok (.iaload, 1) := by decide +kernel
theorem dL_law_842 : decode cL_law 842 = .ok (.invokevirtual 104, 3) := by decide +kernel
theorem dL_law_845 : decode cL_law 845 = .ok (.if_icmp .eq 706, 3) := by decide +kernel
theorem dL_law_848 : decode cL_law 848 = .ok (.iconst 0, 1) := by decide +kernel
theorem dL_law_849 : decode cL_law 849 = .ok (.ireturn, 1) := by decide +kernel
theorem dL_law_850 : decode cL_law 850 = .ok (.aload_n 1, 1) := by decide +kernel
theorem dL_law_851 : decode cL_law 851 = .ok (.aload_n 0, 1) := by decide +kernel
theorem dL_law_852 : decode cL_law 852 = .ok (.iload_n 3, 1) := by decide +kernel
theorem dL_law_853 : decode cL_law 853 = .ok (.iconst 1, 1) := by decide +kernel
theorem dL_law_854 : decode cL_law 854 = .ok (.iadd, 1) := by decide +kernel
theorem dL_law_855 : decode cL_law 855 = .ok (.iaload, 1) := by decide +kernel
theorem dL_law_856 : decode cL_law 856 = .ok (.invokevirtual 105, 3) := by decide +kernel
theorem dL_law_859 : decode cL_law 859 = .ok (.aload_n 2, 1) := by decide +kernel
theorem dL_law_860 : decode cL_law 860 = .ok (.aload_n 0, 1) := by decide +kernel
theorem dL_law_861 : decode cL_law 861 = .ok (.iload_n 3, 1) := by decide +kernel
theorem dL_law_862 : decode cL_law 862 = .ok (.iconst 1, 1) := by decide +kernel
theorem dL_law_863 : decode cL_law 863 = .ok (.iadd, 1) := by decide +kernel
theorem dL_law_864 : decode cL_law 864 = .ok (.iaload, 1) := by decide +kernel
theorem dL_law_865 : decode cL_law 865 = .ok (.invokevirtual 108, 3) := by decide +kernel
theorem dL_law_868 : decode cL_law 868 = .ok (.if_icmp .eq 683, 3) := by decide +kernel
theorem dL_law_871 : decode cL_law 871 = .ok (.iconst 0, 1) := by decide +kernel
theorem dL_law_872 : decode cL_law 872 = .ok (.ireturn, 1) := by decide +kernel
theorem dL_law_873 : decode cL_law 873 = .ok (.aload_n 1, 1) := by decide +kernel
theorem dL_law_874 : decode cL_law 874 = .ok (.invokevirtual 109, 3) := by decide +kernel
theorem dL_law_877 : decode cL_law 877 = .ok (.aload_n 2, 1) := by decide +kernel
theorem dL_law_878 : decode cL_law 878 = .ok (.invokevirtual 112, 3) := by decide +kernel
theorem dL_law_881 : decode cL_law 881 = .ok (.if_icmp .eq 670, 3) := by decide +kernel
theorem dL_law_884 : decode cL_law 884 = .ok (.iconst 0, 1) := by decide +kernel
theorem dL_law_885 : decode cL_law 885 = .ok (.ireturn, 1) := by decide +kernel
theorem dL_law_886 : decode cL_law 886 = .ok (.aload_n 1, 1) := by decide +kernel
theorem dL_law_887 : decode cL_law 887 = .ok (.aload_n 0, 1) := by decide +kernel
theorem dL_law_888 : decode cL_law 888 = .ok (.iload_n 3, 1) := by decide +kernel
theorem dL_law_889 : decode cL_law 889 = .ok (.iconst 1, 1) := by decide +kernel
theorem dL_law_890 : decode cL_law 890 = .ok (.iadd, 1) := by decide +kernel
theorem dL_law_891 : decode cL_law 891 = .ok (.iaload, 1) := by decide +kernel
theorem dL_law_892 : decode cL_law 892 = .ok (.aload_n 0, 1) := by decide +kernel
theorem dL_law_893 : decode cL_law 893 = .ok (.iload_n 3, 1) := by decide +kernel
theorem dL_law_894 : decode cL_law 894 = .ok (.iconst 2, 1) := by decide +kernel
theorem dL_law_895 : decode cL_law 895 = .ok (.iadd, 1) := by decide +kernel
theorem dL_law_896 : decode cL_law 896 = .ok (.iaload, 1) := by decide +kernel
theorem dL_law_897 : decode cL_law 897 = .ok (.invokevirtual 113, 3) := by decide +kernel
theorem dL_law_900 : decode cL_law 900 = .ok (.aload_n 2, 1) := by decide +kernel
theorem dL_law_901 : decode cL_law 901 = .ok (.aload_n 0, 1) := by decide +kernel
theorem dL_law_902 : decode cL_law 902 = .ok (.iload_n 3, 1) := by decide +kernel
theorem dL_law_903 : decode cL_law 903 = .ok (.iconst 1, 1) := by decide +kernel
theorem dL_law_904 : decode cL_law 904 = .ok (.iadd, 1) := by decide +kernel
theorem dL_law_905 : decode cL_law 905 = .ok (.iaload, 1) := by decide +kernel
theorem dL_law_906 : decode cL_law 906 = .ok (.aload_n 0, 1) := by decide +kernel
theorem dL_law_907 : decode cL_law 907 = .ok (.iload_n 3, 1) := by decide +kernel
theorem dL_law_908 : decode cL_law 908 = .ok (.iconst 2, 1) := by decide +kernel
theorem dL_law_909 : decode cL_law 909 = .ok (.iadd, 1) := by decide +kernel
theorem dL_law_910 : decode cL_law 910 = .ok (.iaload, 1) := by decide +kernel
theorem dL_law_911 : decode cL_law 911 = .ok (.invokevirtual 116, 3) := by decide +kernel
theorem dL_law_914 : decode cL_law 914 = .ok (.if_icmp .eq 637, 3) := by decide +kernel
theorem dL_law_917 : decode cL_law 917 = .ok (.iconst 0, 1) := by decide +kernel
theorem dL_law_918 : decode cL_law 918 = .ok (.ireturn, 1) := by decide +kernel
theorem dL_law_919 : decode cL_law 919 = .ok (.aload_n 1, 1) := by decide +kernel
theorem dL_law_920 : decode cL_law 920 = .ok (.invokevirtual 117, 3) := by decide +kernel
theorem dL_law_923 : decode cL_law 923 = .ok (.aload_n 2, 1) := by decide +kernel
theorem dL_law_924 : decode cL_law 924 = .ok (.invokevirtual 120, 3) := by decide +kernel
theorem dL_law_927 : decode cL_law 927 = .ok (.if_icmp .eq 624, 3) := by decide +kernel
theorem dL_law_930 : decode cL_law 930 = .ok (.iconst 0, 1) := by decide +kernel
theorem dL_law_931 : decode cL_law 931 = .ok (.ireturn, 1) := by decide +kernel
theorem dL_law_932 : decode cL_law 932 = .ok (.aload_n 1, 1) := by decide +kernel
theorem dL_law_933 : decode cL_law 933 = .ok (.aload_n 0, 1) := by decide +kernel
theorem dL_law_934 : decode cL_law 934 = .ok (.iload_n 3, 1) := by decide +kernel
theorem dL_law_935 : decode cL_law 935 = .ok (.iconst 1, 1) := by decide +kernel
theorem dL_law_936 : decode cL_law 936 = .ok (.iadd, 1) := by decide +kernel
theorem dL_law_937 : decode cL_law 937 = .ok (.iaload, 1) := by decide +kernel
theorem dL_law_938 : decode cL_law 938 = .ok (.invokevirtual 121, 3) := by decide +kernel
theorem dL_law_941 : decode cL_law 941 = .ok (.aload_n 2, 1) := by decide +kernel
theorem dL_law_942 : decode cL_law 942 = .ok (.aload_n 0, 1) := by decide +kernel
theorem dL_law_943 : decode cL_law 943 = .ok (.iload_n 3, 1) := by decide +kernel
theorem dL_law_944 : decode cL_law 944 = .ok (.iconst 1, 1) := by decide +kernel
theorem dL_law_945 : decode cL_law 945 = .ok (.iadd, 1) := by decide +kernel
theorem dL_law_946 : decode cL_law 946 = .ok (.iaload, 1) := by decide +kernel
theorem dL_law_947 : decode cL_law 947 = .ok (.invokevirtual 124, 3) := by decide +kernel
theorem dL_law_950 : decode cL_law 950 = .ok (.if_icmp .eq 601, 3) := by decide +kernel
theorem dL_law_953 : decode cL_law 953 = .ok (.iconst 0, 1) := by decide +kernel
theorem dL_law_954 : decode cL_law 954 = .ok (.ireturn, 1) := by decide +kernel
theorem dL_law_955 : decode cL_law 955 = .ok (.aload_n 1, 1) := by decide +kernel
theorem dL_law_956 : decode cL_law 956 = .ok (.aload_n 0, 1) := by decide +kernel
theorem dL_law_957 : decode cL_law 957 = .ok (.iload_n 3, 1) := by decide +kernel
theorem dL_law_958 : decode cL_law 958 = .ok (.iconst 1, 1) := by decide +kernel
theorem dL_law_959 : decode cL_law 959 = .ok (.iadd, 1) := by decide +kernel
theorem dL_law_960 : decode cL_law 960 = .ok (.iaload, 1) := by decide +kernel
theorem dL_law_961 : decode cL_law 961 = .ok (.invokevirtual 125, 3) := by decide +kernel
theorem dL_law_964 : decode cL_law 964 = .ok (.aload_n 2, 1) := by decide +kernel
theorem dL_law_965 : decode cL_law 965 = .ok (.aload_n 0, 1) := by decide +kernel
theorem dL_law_966 : decode cL_law 966 = .ok (.iload_n 3, 1) := by decide +kernel
theorem dL_law_967 : decode cL_law 967 = .ok (.iconst 1, 1) := by decide +kernel
theorem dL_law_968 : decode cL_law 968 = .ok (.iadd, 1) := by decide +kernel
theorem dL_law_969 : decode cL_law 969 = .ok (.iaload, 1) := by decide +kernel
theorem dL_law_970 : decode cL_law 970 = .ok (.invokevirtual 128, 3) := by decide +kernel
theorem dL_law_973 : decode cL_law 973 = .ok (.if_icmp .eq 578, 3) := by decide +kernel
theorem dL_law_976 : decode cL_law 976 = .ok (.iconst 0, 1) := by decide +kernel
theorem dL_law_977 : decode cL_law 977 = .ok (.ireturn, 1) := by decide +kernel
theorem dL_law_978 : decode cL_law 978 = .ok (.aload_n 1, 1) := by decide +kernel
theorem dL_law_979 : decode cL_law 979 = .ok (.aload_n 0, 1) := by decide +kernel
theorem dL_law_980 : decode cL_law 980 = .ok (.iload_n 3, 1) := by decide +kernel
theorem dL_law_981 : decode cL_law 981 = .ok (.iconst 1, 1) := by decide +kernel
theorem dL_law_982 : decode cL_law 982 = .ok (.iadd, 1) := by decide +kernel
theorem dL_law_983 : decode cL_law 983 = .ok (.iaload, 1) := by decide +kernel
theorem dL_law_984 : decode cL_law 984 = .ok (.invokevirtual 129, 3) := by decide +kernel
theorem dL_law_987 : decode cL_law 987 = .ok (.aload_n 2, 1) := by decide +kernel
theorem dL_law_988 : decode cL_law 988 = .ok (.aload_n 0, 1) := by decide +kernel
theorem dL_law_989 : decode cL_law 989 = .ok (.iload_n 3, 1) := by decide +kernel
theorem dL_law_990 : decode cL_law 990 = .ok (.iconst 1, 1) := by decide +kernel
theorem dL_law_991 : decode cL_law 991 = .ok (.iadd, 1) := by decide +kernel
theorem dL_law_992 : decode cL_law 992 = .ok (.iaload, 1) := by decide +kernel
theorem dL_law_993 : decode cL_law 993 = .ok (.invokevirtual 132, 3) := by decide +kernel
theorem dL_law_996 : decode cL_law 996 = .ok (.if_icmp .eq 555, 3) := by decide +kernel
theorem dL_law_999 : decode cL_law 999 = .ok (.iconst 0, 1) := by decide +kernel
theorem dL_law_1000 : decode cL_law 1000 = .ok (.ireturn, 1) := by decide +kernel
theorem dL_law_1001 : decode cL_law 1001 = .ok (.aload_n 1, 1) := by decide +kernel
theorem dL_law_1002 : decode cL_law 1002 = .ok (.aload_n 0, 1) := by decide +kernel
theorem dL_law_1003 : decode cL_law 1003 = .ok (.iload_n 3, 1) := by decide +kernel
theorem dL_law_1004 : decode cL_law 1004 = .ok (.iconst 1, 1) := by decide +kernel
theorem dL_law_1005 : decode cL_law 1005 = .ok (.iadd, 1) := by decide +kernel
theorem dL_law_1006 : decode cL_law 1006 = .ok (.iaload, 1) := by decide +kernel
theorem dL_law_1007 : decode cL_law 1007 = .ok (.aload_n 0, 1) := by decide +kernel
theorem dL_law_1008 : decode cL_law 1008 = .ok (.iload_n 3, 1) := by decide +kernel
theorem dL_law_1009 : decode cL_law 1009 = .ok (.iconst 2, 1) := by decide +kernel
theorem dL_law_1010 : decode cL_law 1010 = .ok (.iadd, 1) := by decide +kernel
theorem dL_law_1011 : decode cL_law 1011 = .ok (.iaload, 1) := by decide +kernel
theorem dL_law_1012 : decode cL_law 1012 = .ok (.invokevirtual 133, 3) := by decide +kernel
theorem dL_law_1015 : decode cL_law 1015 = .ok (.aload_n 2, 1) := by decide +kernel
theorem dL_law_1016 : decode cL_law 1016 = .ok (.aload_n 0, 1) := by decide +kernel
theorem dL_law_1017 : decode cL_law 1017 = .ok (.iload_n 3, 1) := by decide +kernel
theorem dL_law_1018 : decode cL_law 1018 = .ok (.iconst 1, 1) := by decide +kernel
theorem dL_law_1019 : decode cL_law 1019 = .ok (.iadd, 1) := by decide +kernel
theorem dL_law_1020 : decode cL_law 1020 = .ok (.iaload, 1) := by decide +kernel
theorem dL_law_1021 : decode cL_law 1021 = .ok (.aload_n 0, 1) := by decide +kernel
theorem dL_law_1022 : decode cL_law 1022 = .ok (.iload_n 3, 1) := by decide +kernel
theorem dL_law_1023 : decode cL_law 1023 = .ok (.iconst 2, 1) := by decide +kernel
theorem dL_law_1024 : decode cL_law 1024 = .ok (.iadd, 1) := by decide +kernel
theorem dL_law_1025 : decode cL_law 1025 = .ok (.iaload, 1) := by decide +kernel
theorem dL_law_1026 : decode cL_law 1026 = .ok (.invokevirtual 136, 3) := by decide +kernel
theorem dL_law_1029 : decode cL_law 1029 = .ok (.if_icmp .eq 522, 3) := by decide +kernel
theorem dL_law_1032 : decode cL_law 1032 = .ok (.iconst 0, 1) := by decide +kernel
theorem dL_law_1033 : decode cL_law 1033 = .ok (.ireturn, 1) := by decide +kernel
theorem dL_law_1034 : decode cL_law 1034 = .ok (.aload_n 1, 1) := by decide +kernel
theorem dL_law_1035 : decode cL_law 1035 = .ok (.aload_n 0, 1) := by decide +kernel
theorem dL_law_1036 : decode cL_law 1036 = .ok (.iload_n 3, 1) := by decide +kernel
theorem dL_law_1037 : decode cL_law 1037 = .ok (.iconst 1, 1) := by decide +kernel
theorem dL_law_1038 : decode cL_law 1038 = .ok (.iadd, 1) := by decide +kernel
theorem dL_law_1039 : decode cL_law 1039 = .ok (.iaload, 1) := by decide +kernel
theorem dL_law_1040 : decode cL_law 1040 = .ok (.aload_n 0, 1) := by decide +kernel
theorem dL_law_1041 : decode cL_law 1041 = .ok (.iload_n 3, 1) := by decide +kernel
theorem dL_law_1042 : decode cL_law 1042 = .ok (.iconst 2, 1) := by decide +kernel
theorem dL_law_1043 : decode cL_law 1043 = .ok (.iadd, 1) := by decide +kernel
theorem dL_law_1044 : decode cL_law 1044 = .ok (.iaload, 1) := by decide +kernel
theorem dL_law_1045 : decode cL_law 1045 = .ok (.invokevirtual 137, 3) := by decide +kernel
theorem dL_law_1048 : decode cL_law 1048 = .ok (.aload_n 2, 1) := by decide +kernel
theorem dL_law_1049 : decode cL_law 1049 = .ok (.aload_n 0, 1) := by decide +kernel
theorem dL_law_1050 : decode cL_law 1050 = .ok (.iload_n 3, 1) := by decide +kernel
theorem dL_law_1051 : decode cL_law 1051 = .ok (.iconst 1, 1) := by decide +kernel
theorem dL_law_1052 : decode cL_law 1052 = .ok (.iadd, 1) := by decide +kernel
theorem dL_law_1053 : decode cL_law 1053 = .ok (.iaload, 1) := by decide +kernel
theorem dL_law_1054 : decode cL_law 1054 = .ok (.aload_n 0, 1) := by decide +kernel
theorem dL_law_1055 : decode cL_law 1055 = .ok (.iload_n 3, 1) := by decide +kernel
theorem dL_law_1056 : decode cL_law 1056 = .ok (.iconst 2, 1) := by decide +kernel
theorem dL_law_1057 : decode cL_law 1057 = .ok (.iadd, 1) := by decide +kernel
theorem dL_law_1058 : decode cL_law 1058 = .ok (.iaload, 1) := by decide +kernel
theorem dL_law_1059 : decode cL_law 1059 = .ok (.invokevirtual 140, 3) := by decide +kernel
theorem dL_law_1062 : decode cL_law 1062 = .ok (.if_icmp .eq 489, 3) := by decide +kernel
theorem dL_law_1065 : decode cL_law 1065 = .ok (.iconst 0, 1) := by decide +kernel
theorem dL_law_1066 : decode cL_law 1066 = .ok (.ireturn, 1) := by decide +kernel
theorem dL_law_1067 : decode cL_law 1067 = .ok (.aload_n 1, 1) := by decide +kernel
theorem dL_law_1068 : decode cL_law 1068 = .ok (.aload_n 0, 1) := by decide +kernel
theorem dL_law_1069 : decode cL_law 1069 = .ok (.iload_n 3, 1) := by decide +kernel
theorem dL_law_1070 : decode cL_law 1070 = .ok (.iconst 1, 1) := by decide +kernel
theorem dL_law_1071 : decode cL_law 1071 = .ok (.iadd, 1) := by decide +kernel
theorem dL_law_1072 : decode cL_law 1072 = .ok (.iaload, 1) := by decide +kernel
theorem dL_law_1073 : decode cL_law 1073 = .ok (.aload_n 0, 1) := by decide +kernel
theorem dL_law_1074 : decode cL_law 1074 = .ok (.iload_n 3, 1) := by decide +kernel
theorem dL_law_1075 : decode cL_law 1075 = .ok (.iconst 2, 1) := by decide +kernel
theorem dL_law_1076 : decode cL_law 1076 = .ok (.iadd, 1) := by decide +kernel
theorem dL_law_1077 : decode cL_law 1077 = .ok (.iaload, 1) := by decide +kernel
theorem dL_law_1078 : decode cL_law 1078 = .ok (.invokevirtual 141, 3) := by decide +kernel
theorem dL_law_1081 : decode cL_law 1081 = .ok (.aload_n 2, 1) := by decide +kernel
theorem dL_law_1082 : decode cL_law 1082 = .ok (.aload_n 0, 1) := by decide +kernel
theorem dL_law_1083 : decode cL_law 1083 = .ok (.iload_n 3, 1) := by decide +kernel
theorem dL_law_1084 : decode cL_law 1084 = .ok (.iconst 1, 1) := by decide +kernel
theorem dL_law_1085 : decode cL_law 1085 = .ok (.iadd, 1) := by decide +kernel
theorem dL_law_1086 : decode cL_law 1086 = .ok (.iaload, 1) := by decide +kernel
theorem dL_law_1087 : decode cL_law 1087 = .ok (.aload_n 0, 1) := by decide +kernel
theorem dL_law_1088 : decode cL_law 1088 = .ok (.iload_n 3, 1) := by decide +kernel
theorem dL_law_1089 : decode cL_law 1089 = .ok (.iconst 2, 1) := by decide +kernel
theorem dL_law_1090 : decode cL_law 1090 = .ok (.iadd, 1) := by decide +kernel
theorem dL_law_1091 : decode cL_law 1091 = .ok (.iaload, 1) := by decide +kernel
theorem dL_law_1092 : decode cL_law 1092 = .ok (.invokevirtual 144, 3) := by decide +kernel
theorem dL_law_1095 : decode cL_law 1095 = .ok (.if_icmp .eq 456, 3) := by decide +kernel
theorem dL_law_1098 : decode cL_law 1098 = .ok (.iconst 0, 1) := by decide +kernel
theorem dL_law_1099 : decode cL_law 1099 = .ok (.ireturn, 1) := by decide +kernel
theorem dL_law_1100 : decode cL_law 1100 = .ok (.aload_n 1, 1) := by decide +kernel
theorem dL_law_1101 : decode cL_law 1101 = .ok (.aload_n 0, 1) := by decide +kernel
theorem dL_law_1102 : decode cL_law 1102 = .ok (.iload_n 3, 1) := by decide +kernel
theorem dL_law_1103 : decode cL_law 1103 = .ok (.iconst 1, 1) := by decide +kernel
theorem dL_law_1104 : decode cL_law 1104 = .ok (.iadd, 1) := by decide +kernel
theorem dL_law_1105 : decode cL_law 1105 = .ok (.iaload, 1) := by decide +kernel
theorem dL_law_1106 : decode cL_law 1106 = .ok (.invokevirtual 145, 3) := by decide +kernel
theorem dL_law_1109 : decode cL_law 1109 = .ok (.aload_n 2, 1) := by decide +kernel
theorem dL_law_1110 : decode cL_law 1110 = .ok (.aload_n 0, 1) := by decide +kernel
theorem dL_law_1111 : decode cL_law 1111 = .ok (.iload_n 3, 1) := by decide +kernel
theorem dL_law_1112 : decode cL_law 1112 = .ok (.iconst 1, 1) := by decide +kernel
theorem dL_law_1113 : decode cL_law 1113 = .ok (.iadd, 1) := by decide +kernel
theorem dL_law_1114 : decode cL_law 1114 = .ok (.iaload, 1) := by decide +kernel
theorem dL_law_1115 : decode cL_law 1115 = .ok (.invokevirtual 148, 3) := by decide +kernel
theorem dL_law_1118 : decode cL_law 1118 = .ok (.if_icmp .eq 433, 3) := by decide +kernel
theorem dL_law_1121 : decode cL_law 1121 = .ok (.iconst 0, 1) := by decide +kernel
theorem dL_law_1122 : decode cL_law 1122 = .ok (.ireturn, 1) := by decide +kernel
theorem dL_law_1123 : decode cL_law 1123 = .ok (.aload_n 1, 1) := by decide +kernel
theorem dL_law_1124 : decode cL_law 1124 = .ok (.aload_n 0, 1) := by decide +kernel
theorem dL_law_1125 : decode cL_law 1125 = .ok (.iload_n 3, 1) := by decide +kernel
theorem dL_law_1126 : decode cL_law 1126 = .ok (.iconst 1, 1) := by decide +kernel
theorem dL_law_1127 : decode cL_law 1127 = .ok (.iadd, 1) := by decide +kernel
theorem dL_law_1128 : decode cL_law 1128 = .ok (.iaload, 1) := by decide +kernel
theorem dL_law_1129 : decode cL_law 1129 = .ok (.invokevirtual 149, 3) := by decide +kernel
theorem dL_law_1132 : decode cL_law 1132 = .ok (.aload_n 2, 1) := by decide +kernel
theorem dL_law_1133 : decode cL_law 1133 = .ok (.aload_n 0, 1) := by decide +kernel
theorem dL_law_1134 : decode cL_law 1134 = .ok (.iload_n 3, 1) := by decide +kernel
theorem dL_law_1135 : decode cL_law 1135 = .ok (.iconst 1, 1) := by decide +kernel
theorem dL_law_1136 : decode cL_law 1136 = .ok (.iadd, 1) := by decide +kernel
theorem dL_law_1137 : decode cL_law 1137 = .ok (.iaload, 1) := by decide +kernel
theorem dL_law_1138 : decode cL_law 1138 = .ok (.invokevirtual 152, 3) := by decide +kernel
theorem dL_law_1141 : decode cL_law 1141 = .ok (.if_icmp .eq 410, 3) := by decide +kernel
theorem dL_law_1144 : decode cL_law 1144 = .ok (.iconst 0, 1) := by decide +kernel
theorem dL_law_1145 : decode cL_law 1145 = .ok (.ireturn, 1) := by decide +kernel
theorem dL_law_1146 : decode cL_law 1146 = .ok (.aload_n 1, 1) := by decide +kernel
theorem dL_law_1147 : decode cL_law 1147 = .ok (.aload_n 0, 1) := by decide +kernel
theorem dL_law_1148 : decode cL_law 1148 = .ok (.iload_n 3, 1) := by decide +kernel
theorem dL_law_1149 : decode cL_law 1149 = .ok (.iconst 1, 1) := by decide +kernel
theorem dL_law_1150 : decode cL_law 1150 = .ok (.iadd, 1) := by decide +kernel
theorem dL_law_1151 : decode cL_law 1151 = .ok (.iaload, 1) := by decide +kernel
theorem dL_law_1152 : decode cL_law 1152 = .ok (.aload_n 0, 1) := by decide +kernel
theorem dL_law_1153 : decode cL_law 1153 = .ok (.iload_n 3, 1) := by decide +kernel
theorem dL_law_1154 : decode cL_law 1154 = .ok (.iconst 2, 1) := by decide +kernel
theorem dL_law_1155 : decode cL_law 1155 = .ok (.iadd, 1) := by decide +kernel
theorem dL_law_1156 : decode cL_law 1156 = .ok (.iaload, 1) := by decide +kernel
theorem dL_law_1157 : decode cL_law 1157 = .ok (.invokevirtual 153, 3) := by decide +kernel
theorem dL_law_1160 : decode cL_law 1160 = .ok (.aload_n 2, 1) := by decide +kernel
theorem dL_law_1161 : decode cL_law 1161 = .ok (.aload_n 0, 1) := by decide +kernel
theorem dL_law_1162 : decode cL_law 1162 = .ok (.iload_n 3, 1) := by decide +kernel
theorem dL_law_1163 : decode cL_law 1163 = .ok (.iconst 1, 1) := by decide +kernel
theorem dL_law_1164 : decode cL_law 1164 = .ok (.iadd, 1) := by decide +kernel
theorem dL_law_1165 : decode cL_law 1165 = .ok (.iaload, 1) := by decide +kernel
theorem dL_law_1166 : decode cL_law 1166 = .ok (.aload_n 0, 1) := by decide +kernel
theorem dL_law_1167 : decode cL_law 1167 = .ok (.iload_n 3, 1) := by decide +kernel
theorem dL_law_1168 : decode cL_law 1168 = .ok (.iconst 2, 1) := by decide +kernel
theorem dL_law_1169 : decode cL_law 1169 = .ok (.iadd, 1) := by decide +kernel
theorem dL_law_1170 : decode cL_law 1170 = .ok (.iaload, 1) := by decide +kernel
theorem dL_law_1171 : decode cL_law 1171 = .ok (.invokevirtual 156, 3) := by decide +kernel
theorem dL_law_1174 : decode cL_law 1174 = .ok (.if_icmp .eq 377, 3) := by decide +kernel
theorem dL_law_1177 : decode cL_law 1177 = .ok (.iconst 0, 1) := by decide +kernel
theorem dL_law_1178 : decode cL_law 1178 = .ok (.ireturn, 1) := by decide +kernel
theorem dL_law_1179 : decode cL_law 1179 = .ok (.aload_n 1, 1) := by decide +kernel
theorem dL_law_1180 : decode cL_law 1180 = .ok (.invokevirtual 157, 3) := by decide +kernel
theorem dL_law_1183 : decode cL_law 1183 = .ok (.aload_n 2, 1) := by decide +kernel
theorem dL_law_1184 : decode cL_law 1184 = .ok (.invokevirtual 160, 3) := by decide +kernel
theorem dL_law_1187 : decode cL_law 1187 = .ok (.if_icmp .eq 364, 3) := by decide +kernel
theorem dL_law_1190 : decode cL_law 1190 = .ok (.iconst 0, 1) := by decide +kernel
theorem dL_law_1191 : decode cL_law 1191 = .ok (.ireturn, 1) := by decide +kernel
theorem dL_law_1192 : decode cL_law 1192 = .ok (.aload_n 1, 1) := by decide +kernel
theorem dL_law_1193 : decode cL_law 1193 = .ok (.invokevirtual 161, 3) := by decide +kernel
theorem dL_law_1196 : decode cL_law 1196 = .ok (.aload_n 2, 1) := by decide +kernel
theorem dL_law_1197 : decode cL_law 1197 = .ok (.invokevirtual 164, 3) := by decide +kernel
theorem dL_law_1200 : decode cL_law 1200 = .ok (.if_icmp .eq 351, 3) := by decide +kernel
theorem dL_law_1203 : decode cL_law 1203 = .ok (.iconst 0, 1) := by decide +kernel
theorem dL_law_1204 : decode cL_law 1204 = .ok (.ireturn, 1) := by decide +kernel
theorem dL_law_1205 : decode cL_law 1205 = .ok (.aload_n 1, 1) := by decide +kernel
theorem dL_law_1206 : decode cL_law 1206 = .ok (.aload_n 0, 1) := by decide +kernel
theorem dL_law_1207 : decode cL_law 1207 = .ok (.iload_n 3, 1) := by decide +kernel
theorem dL_law_1208 : decode cL_law 1208 = .ok (.iconst 1, 1) := by decide +kernel
theorem dL_law_1209 : decode cL_law 1209 = .ok (.iadd, 1) := by decide +kernel
theorem dL_law_1210 : decode cL_law 1210 = .ok (.iaload, 1) := by decide +kernel
theorem dL_law_1211 : decode cL_law 1211 = .ok (.aload_n 0, 1) := by decide +kernel
theorem dL_law_1212 : decode cL_law 1212 = .ok (.iload_n 3, 1) := by decide +kernel
theorem dL_law_1213 : decode cL_law 1213 = .ok (.iconst 2, 1) := by decide +kernel
theorem dL_law_1214 : decode cL_law 1214 = .ok (.iadd, 1) := by decide +kernel
theorem dL_law_1215 : decode cL_law 1215 = .ok (.iaload, 1) := by decide +kernel
theorem dL_law_1216 : decode cL_law 1216 = .ok (.invokevirtual 165, 3) := by decide +kernel
theorem dL_law_1219 : decode cL_law 1219 = .ok (.aload_n 2, 1) := by decide +kernel
theorem dL_law_1220 : decode cL_law 1220 = .ok (.aload_n 0, 1) := by decide +kernel
theorem dL_law_1221 : decode cL_law 1221 = .ok (.iload_n 3, 1) := by decide +kernel
theorem dL_law_1222 : decode cL_law 1222 = .ok (.iconst 1, 1) := by decide +kernel
theorem dL_law_1223 : decode cL_law 1223 = .ok (.iadd, 1) := by decide +kernel
theorem dL_law_1224 : decode cL_law 1224 = .ok (.iaload, 1) := by decide +kernel
theorem dL_law_1225 : decode cL_law 1225 = .ok (.aload_n 0, 1) := by decide +kernel
theorem dL_law_1226 : decode cL_law 1226 = .ok (.iload_n 3, 1) := by decide +kernel
theorem dL_law_1227 : decode cL_law 1227 = .ok (.iconst 2, 1) := by decide +kernel
theorem dL_law_1228 : decode cL_law 1228 = .ok (.iadd, 1) := by decide +kernel
theorem dL_law_1229 : decode cL_law 1229 = .ok (.iaload, 1) := by decide +kernel
theorem dL_law_1230 : decode cL_law 1230 = .ok (.invokevirtual 168, 3) := by decide +kernel
theorem dL_law_1233 : decode cL_law 1233 = .ok (.if_icmp .eq 318, 3) := by decide +kernel
theorem dL_law_1236 : decode cL_law 1236 = .ok (.iconst 0, 1) := by decide +kernel
theorem dL_law_1237 : decode cL_law 1237 = .ok (.ireturn, 1) := by decide +kernel
theorem dL_law_1238 : decode cL_law 1238 = .ok (.aload_n 1, 1) := by decide +kernel
theorem dL_law_1239 : decode cL_law 1239 = .ok (.aload_n 0, 1) := by decide +kernel
theorem dL_law_1240 : decode cL_law 1240 = .ok (.iload_n 3, 1) := by decide +kernel
theorem dL_law_1241 : decode cL_law 1241 = .ok (.iconst 1, 1) := by decide +kernel
theorem dL_law_1242 : decode cL_law 1242 = .ok (.iadd, 1) := by decide +kernel
theorem dL_law_1243 : decode cL_law 1243 = .ok (.iaload, 1) := by decide +kernel
theorem dL_law_1244 : decode cL_law 1244 = .ok (.aload_n 0, 1) := by decide +kernel
theorem dL_law_1245 : decode cL_law 1245 = .ok (.iload_n 3, 1) := by decide +kernel
theorem dL_law_1246 : decode cL_law 1246 = .ok (.iconst 2, 1) := by decide +kernel
theorem dL_law_1247 : decode cL_law 1247 = .ok (.iadd, 1) := by decide +kernel
theorem dL_law_1248 : decode cL_law 1248 = .ok (.iaload, 1) := by decide +kernel
theorem dL_law_1249 : decode cL_law 1249 = .ok (.invokevirtual 169, 3) := by decide +kernel
theorem dL_law_1252 : decode cL_law 1252 = .ok (.aload_n 2, 1) := by decide +kernel
theorem dL_law_1253 : decode cL_law 1253 = .ok (.aload_n 0, 1) := by decide +kernel
theorem dL_law_1254 : decode cL_law 1254 = .ok (.iload_n 3, 1) := by decide +kernel
theorem dL_law_1255 : decode cL_law 1255 = .ok (.iconst 1, 1) := by decide +kernel
theorem dL_law_1256 : decode cL_law 1256 = .ok (.iadd, 1) := by decide +kernel
theorem dL_law_1257 : decode cL_law 1257 = .ok (.iaload, 1) := by decide +kernel
theorem dL_law_1258 : decode cL_law 1258 = .ok (.aload_n 0, 1) := by decide +kernel
theorem dL_law_1259 : decode cL_law 1259 = .ok (.iload_n 3, 1) := by decide +kernel
theorem dL_law_1260 : decode cL_law 1260 = .ok (.iconst 2, 1) := by decide +kernel
theorem dL_law_1261 : decode cL_law 1261 = .ok (.iadd, 1) := by decide +kernel
theorem dL_law_1262 : decode cL_law 1262 = .ok (.iaload, 1) := by decide +kernel
theorem dL_law_1263 : decode cL_law 1263 = .ok (.invokevirtual 172, 3) := by decide +kernel
theorem dL_law_1266 : decode cL_law 1266 = .ok (.if_icmp .eq 285, 3) := by decide +kernel
theorem dL_law_1269 : decode cL_law 1269 = .ok (.iconst 0, 1) := by decide +kernel
theorem dL_law_1270 : decode cL_law 1270 = .ok (.ireturn, 1) := by decide +kernel
theorem dL_law_1271 : decode cL_law 1271 = .ok (.aload_n 1, 1) := by decide +kernel
theorem dL_law_1272 : decode cL_law 1272 = .ok (.aload_n 0, 1) := by decide +kernel
theorem dL_law_1273 : decode cL_law 1273 = .ok (.iload_n 3, 1) := by decide +kernel
theorem dL_law_1274 : decode cL_law 1274 = .ok (.iconst 1, 1) := by decide +kernel
theorem dL_law_1275 : decode cL_law 1275 = .ok (.iadd, 1) := by decide +kernel
theorem dL_law_1276 : decode cL_law 1276 = .ok (.iaload, 1) := by decide +kernel
theorem dL_law_1277 : decode cL_law 1277 = .ok (.aload_n 0, 1) := by decide +kernel
theorem dL_law_1278 : decode cL_law 1278 = .ok (.iload_n 3, 1) := by decide +kernel
theorem dL_law_1279 : decode cL_law 1279 = .ok (.iconst 2, 1) := by decide +kernel
theorem dL_law_1280 : decode cL_law 1280 = .ok (.iadd, 1) := by decide +kernel
theorem dL_law_1281 : decode cL_law 1281 = .ok (.iaload, 1) := by decide +kernel
theorem dL_law_1282 : decode cL_law 1282 = .ok (.aload_n 0, 1) := by decide +kernel
theorem dL_law_1283 : decode cL_law 1283 = .ok (.iload_n 3, 1) := by decide +kernel
theorem dL_law_1284 : decode cL_law 1284 = .ok (.iconst 3, 1) := by decide +kernel
theorem dL_law_1285 : decode cL_law 1285 = .ok (.iadd, 1) := by decide +kernel
theorem dL_law_1286 : decode cL_law 1286 = .ok (.iaload, 1) := by decide +kernel
theorem dL_law_1287 : decode cL_law 1287 = .ok (.invokevirtual 173, 3) := by decide +kernel
theorem dL_law_1290 : decode cL_law 1290 = .ok (.aload_n 2, 1) := by decide +kernel
theorem dL_law_1291 : decode cL_law 1291 = .ok (.aload_n 0, 1) := by decide +kernel
theorem dL_law_1292 : decode cL_law 1292 = .ok (.iload_n 3, 1) := by decide +kernel
theorem dL_law_1293 : decode cL_law 1293 = .ok (.iconst 1, 1) := by decide +kernel
theorem dL_law_1294 : decode cL_law 1294 = .ok (.iadd, 1) := by decide +kernel
theorem dL_law_1295 : decode cL_law 1295 = .ok (.iaload, 1) := by decide +kernel
theorem dL_law_1296 : decode cL_law 1296 = .ok (.aload_n 0, 1) := by decide +kernel
theorem dL_law_1297 : decode cL_law 1297 = .ok (.iload_n 3, 1) := by decide +kernel
theorem dL_law_1298 : decode cL_law 1298 = .ok (.iconst 2, 1) := by decide +kernel
theorem dL_law_1299 : decode cL_law 1299 = .ok (.iadd, 1) := by decide +kernel
theorem dL_law_1300 : decode cL_law 1300 = .ok (.iaload, 1) := by decide +kernel
theorem dL_law_1301 : decode cL_law 1301 = .ok (.aload_n 0, 1) := by decide +kernel
theorem dL_law_1302 : decode cL_law 1302 = .ok (.iload_n 3, 1) := by decide +kernel
theorem dL_law_1303 : decode cL_law 1303 = .ok (.iconst 3, 1) := by decide +kernel
theorem dL_law_1304 : decode cL_law 1304 = .ok (.iadd, 1) := by decide +kernel
theorem dL_law_1305 : decode cL_law 1305 = .ok (.iaload, 1) := by decide +kernel
theorem dL_law_1306 : decode cL_law 1306 = .ok (.invokevirtual 176, 3) := by decide +kernel
theorem dL_law_1309 : decode cL_law 1309 = .ok (.if_icmp .eq 242, 3) := by decide +kernel
theorem dL_law_1312 : decode cL_law 1312 = .ok (.iconst 0, 1) := by decide +kernel
theorem dL_law_1313 : decode cL_law 1313 = .ok (.ireturn, 1) := by decide +kernel
theorem dL_law_1314 : decode cL_law 1314 = .ok (.aload_n 1, 1) := by decide +kernel
theorem dL_law_1315 : decode cL_law 1315 = .ok (.aload_n 0, 1) := by decide +kernel
theorem dL_law_1316 : decode cL_law 1316 = .ok (.iload_n 3, 1) := by decide +kernel
theorem dL_law_1317 : decode cL_law 1317 = .ok (.iconst 1, 1) := by decide +kernel
theorem dL_law_1318 : decode cL_law 1318 = .ok (.iadd, 1) := by decide +kernel
theorem dL_law_1319 : decode cL_law 1319 = .ok (.iaload, 1) := by decide +kernel
theorem dL_law_1320 : decode cL_law 1320 = .ok (.aload_n 0, 1) := by decide +kernel
theorem dL_law_1321 : decode cL_law 1321 = .ok (.iload_n 3, 1) := by decide +kernel
theorem dL_law_1322 : decode cL_law 1322 = .ok (.iconst 2, 1) := by decide +kernel
theorem dL_law_1323 : decode cL_law 1323 = .ok (.iadd, 1) := by decide +kernel
theorem dL_law_1324 : decode cL_law 1324 = .ok (.iaload, 1) := by decide +kernel
theorem dL_law_1325 : decode cL_law 1325 = .ok (.aload_n 0, 1) := by decide +kernel
theorem dL_law_1326 : decode cL_law 1326 = .ok (.iload_n 3, 1) := by decide +kernel
theorem dL_law_1327 : decode cL_law 1327 = .ok (.iconst 3, 1) := by decide +kernel
theorem dL_law_1328 : decode cL_law 1328 = .ok (.iadd, 1) := by decide +kernel
theorem dL_law_1329 : decode cL_law 1329 = .ok (.iaload, 1) := by decide +kernel
theorem dL_law_1330 : decode cL_law 1330 = .ok (.invokevirtual 177, 3) := by decide +kernel
theorem dL_law_1333 : decode cL_law 1333 = .ok (.aload_n 2, 1) := by decide +kernel
theorem dL_law_1334 : decode cL_law 1334 = .ok (.aload_n 0, 1) := by decide +kernel
theorem dL_law_1335 : decode cL_law 1335 = .ok (.iload_n 3, 1) := by decide +kernel
theorem dL_law_1336 : decode cL_law 1336 = .ok (.iconst 1, 1) := by decide +kernel
theorem dL_law_1337 : decode cL_law 1337 = .ok (.iadd, 1) := by decide +kernel
theorem dL_law_1338 : decode cL_law 1338 = .ok (.iaload, 1) := by decide +kernel
theorem dL_law_1339 : decode cL_law 1339 = .ok (.aload_n 0, 1) := by decide +kernel
theorem dL_law_1340 : decode cL_law 1340 = .ok (.iload_n 3, 1) := by decide +kernel
theorem dL_law_1341 : decode cL_law 1341 = .ok (.iconst 2, 1) := by decide +kernel
theorem dL_law_1342 : decode cL_law 1342 = .ok (.iadd, 1) := by decide +kernel
theorem dL_law_1343 : decode cL_law 1343 = .ok (.iaload, 1) := by decide +kernel
theorem dL_law_1344 : decode cL_law 1344 = .ok (.aload_n 0, 1) := by decide +kernel
theorem dL_law_1345 : decode cL_law 1345 = .ok (.iload_n 3, 1) := by decide +kernel
theorem dL_law_1346 : decode cL_law 1346 = .ok (.iconst 3, 1) := by decide +kernel
theorem dL_law_1347 : decode cL_law 1347 = .ok (.iadd, 1) := by decide +kernel
theorem dL_law_1348 : decode cL_law 1348 = .ok (.iaload, 1) := by decide +kernel
theorem dL_law_1349 : decode cL_law 1349 = .ok (.invokevirtual 180, 3) := by decide +kernel
theorem dL_law_1352 : decode cL_law 1352 = .ok (.if_icmp .eq 199, 3) := by decide +kernel
theorem dL_law_1355 : decode cL_law 1355 = .ok (.iconst 0, 1) := by decide +kernel
theorem dL_law_1356 : decode cL_law 1356 = .ok (.ireturn, 1) := by decide +kernel
theorem dL_law_1357 : decode cL_law 1357 = .ok (.aload_n 1, 1) := by decide +kernel
theorem dL_law_1358 : decode cL_law 1358 = .ok (.aload_n 0, 1) := by decide +kernel
theorem dL_law_1359 : decode cL_law 1359 = .ok (.iload_n 3, 1) := by decide +kernel
theorem dL_law_1360 : decode cL_law 1360 = .ok (.iconst 1, 1) := by decide +kernel
theorem dL_law_1361 : decode cL_law 1361 = .ok (.iadd, 1) := by decide +kernel
theorem dL_law_1362 : decode cL_law 1362 = .ok (.iaload, 1) := by decide +kernel
theorem dL_law_1363 : decode cL_law 1363 = .ok (.aload_n 0, 1) := by decide +kernel
theorem dL_law_1364 : decode cL_law 1364 = .ok (.iload_n 3, 1) := by decide +kernel
theorem dL_law_1365 : decode cL_law 1365 = .ok (.iconst 2, 1) := by decide +kernel
theorem dL_law_1366 : decode cL_law 1366 = .ok (.iadd, 1) := by decide +kernel
theorem dL_law_1367 : decode cL_law 1367 = .ok (.iaload, 1) := by decide +kernel
theorem dL_law_1368 : decode cL_law 1368 = .ok (.aload_n 0, 1) := by decide +kernel
theorem dL_law_1369 : decode cL_law 1369 = .ok (.iload_n 3, 1) := by decide +kernel
theorem dL_law_1370 : decode cL_law 1370 = .ok (.iconst 3, 1) := by decide +kernel
theorem dL_law_1371 : decode cL_law 1371 = .ok (.iadd, 1) := by decide +kernel
theorem dL_law_1372 : decode cL_law 1372 = .ok (.iaload, 1) := by decide +kernel
theorem dL_law_1373 : decode cL_law 1373 = .ok (.aload_n 0, 1) := by decide +kernel
theorem dL_law_1374 : decode cL_law 1374 = .ok (.iload_n 3, 1) := by decide +kernel
theorem dL_law_1375 : decode cL_law 1375 = .ok (.iconst 4, 1) := by decide +kernel
theorem dL_law_1376 : decode cL_law 1376 = .ok (.iadd, 1) := by decide +kernel
theorem dL_law_1377 : decode cL_law 1377 = .ok (.iaload, 1) := by decide +kernel
theorem dL_law_1378 : decode cL_law 1378 = .ok (.aload_n 0, 1) := by decide +kernel
theorem dL_law_1379 : decode cL_law 1379 = .ok (.iload_n 3, 1) := by decide +kernel
theorem dL_law_1380 : decode cL_law 1380 = .ok (.iconst 5, 1) := by decide +kernel
theorem dL_law_1381 : decode cL_law 1381 = .ok (.iadd, 1) := by decide +kernel
theorem dL_law_1382 : decode cL_law 1382 = .ok (.iaload, 1) := by decide +kernel
theorem dL_law_1383 : decode cL_law 1383 = .ok (.invokevirtual 181, 3) := by decide +kernel
theorem dL_law_1386 : decode cL_law 1386 = .ok (.aload_n 2, 1) := by decide +kernel
theorem dL_law_1387 : decode cL_law 1387 = .ok (.aload_n 0, 1) := by decide +kernel
theorem dL_law_1388 : decode cL_law 1388 = .ok (.iload_n 3, 1) := by decide +kernel
theorem dL_law_1389 : decode cL_law 1389 = .ok (.iconst 1, 1) := by decide +kernel
theorem dL_law_1390 : decode cL_law 1390 = .ok (.iadd, 1) := by decide +kernel
theorem dL_law_1391 : decode cL_law 1391 = .ok (.iaload, 1) := by decide +kernel
theorem dL_law_1392 : decode cL_law 1392 = .ok (.aload_n 0, 1) := by decide +kernel
theorem dL_law_1393 : decode cL_law 1393 = .ok (.iload_n 3, 1) := by decide +kernel
theorem dL_law_1394 : decode cL_law 1394 = .ok (.iconst 2, 1) := by decide +kernel
theorem dL_law_1395 : decode cL_law 1395 = .ok (.iadd, 1) := by decide +kernel
theorem dL_law_1396 : decode cL_law 1396 = .ok (.iaload, 1) := by decide +kernel
theorem dL_law_1397 : decode cL_law 1397 = .ok (.aload_n 0, 1) := by decide +kernel
theorem dL_law_1398 : decode cL_law 1398 = .ok (.iload_n 3, 1) := by decide +kernel
theorem dL_law_1399 : decode cL_law 1399 = .ok (.iconst 3, 1) := by decide +kernel
theorem dL_law_1400 : decode cL_law 1400 = .ok (.iadd, 1) := by decide +kernel
theorem dL_law_1401 : decode cL_law 1401 = .ok (.iaload, 1) := by decide +kernel
theorem dL_law_1402 : decode cL_law 1402 = .ok (.aload_n 0, 1) := by decide +kernel
theorem dL_law_1403 : decode cL_law 1403 = .ok (.iload_n 3, 1) := by decide +kernel
theorem dL_law_1404 : decode cL_law 1404 = .ok (.iconst 4, 1) := by decide +kernel
theorem dL_law_1405 : decode cL_law 1405 = .ok (.iadd, 1) := by decide +kernel
theorem dL_law_1406 : decode cL_law 1406 = .ok (.iaload, 1) := by decide +kernel
theorem dL_law_1407 : decode cL_law 1407 = .ok (.aload_n 0, 1) := by decide +kernel
theorem dL_law_1408 : decode cL_law 1408 = .ok (.iload_n 3, 1) := by decide +kernel
theorem dL_law_1409 : decode cL_law 1409 = .ok (.iconst 5, 1) := by decide +kernel
theorem dL_law_1410 : decode cL_law 1410 = .ok (.iadd, 1) := by decide +kernel
theorem dL_law_1411 : decode cL_law 1411 = .ok (.iaload, 1) := by decide +kernel
theorem dL_law_1412 : decode cL_law 1412 = .ok (.invokevirtual 185, 3) := by decide +kernel
theorem dL_law_1415 : decode cL_law 1415 = .ok (.if_icmp .eq 136, 3) := by decide +kernel
theorem dL_law_1418 : decode cL_law 1418 = .ok (.iconst 0, 1) := by decide +kernel
theorem dL_law_1419 : decode cL_law 1419 = .ok (.ireturn, 1) := by decide +kernel
theorem dL_law_1420 : decode cL_law 1420 = .ok (.aload_n 1, 1) := by decide +kernel
theorem dL_law_1421 : decode cL_law 1421 = .ok (.aload_n 0, 1) := by decide +kernel
theorem dL_law_1422 : decode cL_law 1422 = .ok (.iload_n 3, 1) := by decide +kernel
theorem dL_law_1423 : decode cL_law 1423 = .ok (.iconst 1, 1) := by decide +kernel
theorem dL_law_1424 : decode cL_law 1424 = .ok (.iadd, 1) := by decide +kernel
theorem dL_law_1425 : decode cL_law 1425 = .ok (.iaload, 1) := by decide +kernel
theorem dL_law_1426 : decode cL_law 1426 = .ok (.invokevirtual 186, 3) := by decide +kernel
theorem dL_law_1429 : decode cL_law 1429 = .ok (.aload_n 2, 1) := by decide +kernel
theorem dL_law_1430 : decode cL_law 1430 = .ok (.aload_n 0, 1) := by decide +kernel
theorem dL_law_1431 : decode cL_law 1431 = .ok (.iload_n 3, 1) := by decide +kernel
theorem dL_law_1432 : decode cL_law 1432 = .ok (.iconst 1, 1) := by decide +kernel
theorem dL_law_1433 : decode cL_law 1433 = .ok (.iadd, 1) := by decide +kernel
theorem dL_law_1434 : decode cL_law 1434 = .ok (.iaload, 1) := by decide +kernel
theorem dL_law_1435 : decode cL_law 1435 = .ok (.invokevirtual 189, 3) := by decide +kernel
theorem dL_law_1438 : decode cL_law 1438 = .ok (.if_icmp .eq 113, 3) := by decide +kernel
theorem dL_law_1441 : decode cL_law 1441 = .ok (.iconst 0, 1) := by decide +kernel
theorem dL_law_1442 : decode cL_law 1442 = .ok (.ireturn, 1) := by decide +kernel
theorem dL_law_1443 : decode cL_law 1443 = .ok (.aload_n 1, 1) := by decide +kernel
theorem dL_law_1444 : decode cL_law 1444 = .ok (.aload_n 0, 1) := by decide +kernel
theorem dL_law_1445 : decode cL_law 1445 = .ok (.iload_n 3, 1) := by decide +kernel
theorem dL_law_1446 : decode cL_law 1446 = .ok (.iconst 1, 1) := by decide +kernel
theorem dL_law_1447 : decode cL_law 1447 = .ok (.iadd, 1) := by decide +kernel
theorem dL_law_1448 : decode cL_law 1448 = .ok (.iaload, 1) := by decide +kernel
theorem dL_law_1449 : decode cL_law 1449 = .ok (.invokevirtual 190, 3) := by decide +kernel
theorem dL_law_1452 : decode cL_law 1452 = .ok (.aload_n 2, 1) := by decide +kernel
theorem dL_law_1453 : decode cL_law 1453 = .ok (.aload_n 0, 1) := by decide +kernel
theorem dL_law_1454 : decode cL_law 1454 = .ok (.iload_n 3, 1) := by decide +kernel
theorem dL_law_1455 : decode cL_law 1455 = .ok (.iconst 1, 1) := by decide +kernel
theorem dL_law_1456 : decode cL_law 1456 = .ok (.iadd, 1) := by decide +kernel
theorem dL_law_1457 : decode cL_law 1457 = .ok (.iaload, 1) := by decide +kernel
theorem dL_law_1458 : decode cL_law 1458 = .ok (.invokevirtual 193, 3) := by decide +kernel
theorem dL_law_1461 : decode cL_law 1461 = .ok (.if_icmp .eq 90, 3) := by decide +kernel
theorem dL_law_1464 : decode cL_law 1464 = .ok (.iconst 0, 1) := by decide +kernel
theorem dL_law_1465 : decode cL_law 1465 = .ok (.ireturn, 1) := by decide +kernel
theorem dL_law_1466 : decode cL_law 1466 = .ok (.aload_n 1, 1) := by decide +kernel
theorem dL_law_1467 : decode cL_law 1467 = .ok (.invokevirtual 194, 3) := by decide +kernel
theorem dL_law_1470 : decode cL_law 1470 = .ok (.aload_n 2, 1) := by decide +kernel
theorem dL_law_1471 : decode cL_law 1471 = .ok (.invokevirtual 197, 3) := by decide +kernel
theorem dL_law_1474 : decode cL_law 1474 = .ok (.if_icmp .eq 77, 3) := by decide +kernel
theorem dL_law_1477 : decode cL_law 1477 = .ok (.iconst 0, 1) := by decide +kernel
theorem dL_law_1478 : decode cL_law 1478 = .ok (.ireturn, 1) := by decide +kernel
theorem dL_law_1479 : decode cL_law 1479 = .ok (.aload_n 1, 1) := by decide +kernel
theorem dL_law_1480 : decode cL_law 1480 = .ok (.invokevirtual 198, 3) := by decide +kernel
theorem dL_law_1483 : decode cL_law 1483 = .ok (.aload_n 2, 1) := by decide +kernel
theorem dL_law_1484 : decode cL_law 1484 = .ok (.invokevirtual 201, 3) := by decide +kernel
theorem dL_law_1487 : decode cL_law 1487 = .ok (.if_icmp .eq 64, 3) := by decide +kernel
theorem dL_law_1490 : decode cL_law 1490 = .ok (.iconst 0, 1) := by decide +kernel
theorem dL_law_1491 : decode cL_law 1491 = .ok (.ireturn, 1) := by decide +kernel
theorem dL_law_1492 : decode cL_law 1492 = .ok (.aload_n 1, 1) := by decide +kernel
theorem dL_law_1493 : decode cL_law 1493 = .ok (.invokevirtual 202, 3) := by decide +kernel
theorem dL_law_1496 : decode cL_law 1496 = .ok (.aload_n 2, 1) := by decide +kernel
theorem dL_law_1497 : decode cL_law 1497 = .ok (.invokevirtual 205, 3) := by decide +kernel
theorem dL_law_1500 : decode cL_law 1500 = .ok (.if_icmp .eq 51, 3) := by decide +kernel
theorem dL_law_1503 : decode cL_law 1503 = .ok (.iconst 0, 1) := by decide +kernel
theorem dL_law_1504 : decode cL_law 1504 = .ok (.ireturn, 1) := by decide +kernel
theorem dL_law_1505 : decode cL_law 1505 = .ok (.aload_n 1, 1) := by decide +kernel
theorem dL_law_1506 : decode cL_law 1506 = .ok (.aload_n 0, 1) := by decide +kernel
theorem dL_law_1507 : decode cL_law 1507 = .ok (.iload_n 3, 1) := by decide +kernel
theorem dL_law_1508 : decode cL_law 1508 = .ok (.iconst 1, 1) := by decide +kernel
theorem dL_law_1509 : decode cL_law 1509 = .ok (.iadd, 1) := by decide +kernel
theorem dL_law_1510 : decode cL_law 1510 = .ok (.iaload, 1) := by decide +kernel
theorem dL_law_1511 : decode cL_law 1511 = .ok (.invokevirtual 206, 3) := by decide +kernel
theorem dL_law_1514 : decode cL_law 1514 = .ok (.aload_n 2, 1) := by decide +kernel
theorem dL_law_1515 : decode cL_law 1515 = .ok (.aload_n 0, 1) := by decide +kernel
theorem dL_law_1516 : decode cL_law 1516 = .ok (.iload_n 3, 1) := by decide +kernel
theorem dL_law_1517 : decode cL_law 1517 = .ok (.iconst 1, 1) := by decide +kernel
theorem dL_law_1518 : decode cL_law 1518 = .ok (.iadd, 1) := by decide +kernel
theorem dL_law_1519 : decode cL_law 1519 = .ok (.iaload, 1) := by decide +kernel
theorem dL_law_1520 : decode cL_law 1520 = .ok (.invokevirtual 209, 3) := by decide +kernel
theorem dL_law_1523 : decode cL_law 1523 = .ok (.if_icmp .eq 28, 3) := by decide +kernel
theorem dL_law_1526 : decode cL_law 1526 = .ok (.iconst 0, 1) := by decide +kernel
theorem dL_law_1527 : decode cL_law 1527 = .ok (.ireturn, 1) := by decide +kernel
theorem dL_law_1528 : decode cL_law 1528 = .ok (.aload_n 1, 1) := by decide +kernel
theorem dL_law_1529 : decode cL_law 1529 = .ok (.aload_n 0, 1) := by decide +kernel
theorem dL_law_1530 : decode cL_law 1530 = .ok (.iload_n 3, 1) := by decide +kernel
theorem dL_law_1531 : decode cL_law 1531 = .ok (.iconst 1, 1) := by decide +kernel
theorem dL_law_1532 : decode cL_law 1532 = .ok (.iadd, 1) := by decide +kernel
theorem dL_law_1533 : decode cL_law 1533 = .ok (.iaload, 1) := by decide +kernel
theorem dL_law_1534 : decode cL_law 1534 = .ok (.invokevirtual 210, 3) := by decide +kernel
theorem dL_law_1537 : decode cL_law 1537 = .ok (.aload_n 2, 1) := by decide +kernel
theorem dL_law_1538 : decode cL_law 1538 = .ok (.aload_n 0, 1) := by decide +kernel
theorem dL_law_1539 : decode cL_law 1539 = .ok (.iload_n 3, 1) := by decide +kernel
theorem dL_law_1540 : decode cL_law 1540 = .ok (.iconst 1, 1) := by decide +kernel
theorem dL_law_1541 : decode cL_law 1541 = .ok (.iadd, 1) := by decide +kernel
theorem dL_law_1542 : decode cL_law 1542 = .ok (.iaload, 1) := by decide +kernel
theorem dL_law_1543 : decode cL_law 1543 = .ok (.invokevirtual 213, 3) := by decide +kernel
theorem dL_law_1546 : decode cL_law 1546 = .ok (.if_icmp .eq 5, 3) := by decide +kernel
theorem dL_law_1549 : decode cL_law 1549 = .ok (.iconst 0, 1) := by decide +kernel
theorem dL_law_1550 : decode cL_law 1550 = .ok (.ireturn, 1) := by decide +kernel
theorem dL_law_1551 : decode cL_law 1551 = .ok (.iinc 3 6, 3) := by decide +kernel
theorem dL_law_1554 : decode cL_law 1554 = .ok (.goto (-1536), 3) := by decide +kernel
theorem dL_law_1557 : decode cL_law 1557 = .ok (.iconst 1, 1) := by decide +kernel
theorem dL_law_1558 : decode cL_law 1558 = .ok (.ireturn, 1) := by decide +kernel
end
section
abbrev Hp : Type := Nat → Nat → Int32
def up (h : Hp) (k i : Nat) (v : Int32) : Hp := fun q => if q = k then upd (h k) i v else h q
/-- a whole row of a cell anew -/
def upA (h : Hp) (k : Nat) (f : Nat → Int32) : Hp := fun q => if q = k then f else h q
def gT : List Cond := lw_tbl.filter goodWord
theorem gT_in {w : Cond} (h : w ∈ lw_tbl) (g : goodWord w = true) : w ∈ gT := List.mem_filter.mpr ⟨h, g⟩
theorem gT_good : GoodIn gT gT := fun w h => ⟨h, good_of_word (List.mem_filter.mp h).2⟩
theorem gT_code {y : MethodName} {cc : ByteArray} {n : Nat} {ret : Option FieldType} (h : Cond.code y cc n ret ∈ gT) : GoodIn gT (Cond.code y cc n ret :: gT) := by
  intro w hw
  rcases List.mem_cons.mp hw with e | e
  · rw [e]; exact gT_good _ h
  · exact gT_good _ e
/-- addresses and numbers that a world rests on: classes, places, array classes, statics, Strings -/
abbrev Gl : Type := va_G × (Nat → Nat) × (Nat → ClassId) × (Nat → Nat) × (Nat → Nat) × (Nat → Nat)
abbrev rf (g : Gl) (k : Nat) : Value := .ref (g.2.1 k)
def tyG (g : Gl) : List (ClassId × FieldType) := [(g.2.2.1 0, .int), (g.2.2.1 1, .byte), (g.2.2.1 2, .object "SameHeads$Sheet"), (g.2.2.1 3, .object "java/lang/String")]
def LTr (j : Nat) : Int32 := ([0, 0, 1, -1] : List Int32).getD j 0
def MTr (j : Nat) : Int32 := ([6, 255, 60, 5] : List Int32).getD j 0
def ABv (j : Nat) : Int32 := ([-1, 0, 1, 2, 0, 0, 5] : List Int32).getD j 0

def stL : List Nat := [4, 4, 6, 7, 4, 5, 6, 5, 3, 2, 4, 6, 4, 4]
def stB : List (List Int32) := [[112, 97, 114, 116], [104, 101, 97, 100], [119, 105, 103, 103, 101, 100], [99, 114, 111, 119, 110, 101, 100], [98, 111, 100, 121], [104, 97, 110, 100, 115], [103, 108, 111, 118, 101, 100], [108, 111, 111, 107, 115], [119, 97, 120], [105, 110], [102, 97, 99, 101], [99, 104, 97, 110, 99, 101], [115, 104, 111, 119], [112, 97, 99, 101]]
def stR : List (String × Nat × String × Nat) := [("SameHeads$Reader", 103, "head", 1), ("SameHeads$Reader", 105, "wigged", 2), ("SameHeads$Reader", 107, "crowned", 3), ("SameHeads$Reader", 109, "body", 4), ("SameHeads$Reader", 111, "hands", 5), ("SameHeads$Reader", 113, "gloved", 6), ("SameHeads$Reader", 115, "part", 0), ("SameHeads$Reader", 121, "looks", 7), ("SameHeads$Reader", 129, "wax", 8), ("SameHeads$Reader", 133, "in", 9), ("SameHeads$Reader", 88, "face", 10), ("SameHeads$Reader", 151, "chance", 11), ("SameHeads$Reader", 93, "show", 12), ("SameHeads$Reader", 98, "pace", 13), ("SameHeadsModel", 30, "part", 0), ("SameHeadsModel", 32, "head", 1), ("SameHeadsModel", 34, "wigged", 2), ("SameHeadsModel", 36, "crowned", 3), ("SameHeadsModel", 38, "body", 4), ("SameHeadsModel", 40, "hands", 5), ("SameHeadsModel", 42, "gloved", 6), ("SameHeadsModel", 300, "looks", 7), ("SameHeadsModel", 308, "wax", 8), ("SameHeadsModel", 310, "in", 9), ("SameHeadsModel", 316, "face", 10), ("SameHeadsModel", 318, "chance", 11), ("SameHeadsModel", 320, "show", 12), ("SameHeadsModel", 322, "pace", 13)]
def neR : List (String × Nat × MethodName × String) := [("SameHeads", 24, ⟨"SameHeads$Givings", "<init>", "()V"⟩, "SameHeads"), ("SameHeads", 31, ⟨"SameHeads$Tellings", "<init>", "()V"⟩, "SameHeads"), ("SameHeads", 38, ⟨"SameHeads$Tape", "<init>", "()V"⟩, "SameHeads"), ("SameHeads", 62, ⟨"SameHeads$Sheet", "<init>", "()V"⟩, "SameHeads"), ("SameHeads$House", 70, ⟨"SameHeads", "within", "(III)Z"⟩, "SameHeads"), ("SameHeads$House", 93, ⟨"SameHeads", "isFace", "(I)Z"⟩, "SameHeads"), ("SameHeads$House", 103, ⟨"SameHeads", "isRoom", "(I)Z"⟩, "SameHeads"), ("SameHeads$Givings", 64, ⟨"SameHeads", "isFace", "(I)Z"⟩, "SameHeads"), ("SameHeads$Reader", 141, ⟨"SameHeads", "isFace", "(I)Z"⟩, "SameHeads"), ("SameHeads$Reader", 155, ⟨"SameHeads", "isRoom", "(I)Z"⟩, "SameHeads")]
/-- what holds of statics, String constants and nest mates, and stays -/
def SX (g : Gl) (A : Nat → Prop) (U : State) (H : Heap) : Prop :=
  (va_Z "SameHeads" "LEAST_TRAIT" "[I" (.ref (g.2.2.2.1 0)) A U H ∧ va_T .int (g.2.2.2.1 0) 4 (fun j => .int (LTr j)) A U H) ∧
  (va_Z "SameHeads" "MOST_TRAIT" "[I" (.ref (g.2.2.2.1 1)) A U H ∧ va_T .int (g.2.2.2.1 1) 4 (fun j => .int (MTr j)) A U H) ∧
  (va_Z "SameHeads$Kinds" "ABOVE" "[I" (.ref (g.2.2.2.1 2)) A U H ∧ va_T .int (g.2.2.2.1 2) 7 (fun j => .int (ABv j)) A U H) ∧
  va_Z "java/lang/String" "COMPACT_STRINGS" "Z" (.int 1) A U H ∧
  vk_S 14 stL stB g.2.2.2.2.1 g.2.2.2.2.2 A U H ∧
  (∀ q ∈ stR, vk_R q.1 q.2.1 q.2.2.1 (g.2.2.2.2.1 q.2.2.2) U) ∧
  (∀ q ∈ neR, va_Nw (.methodLinkNest q.1 q.2.1 q.2.2.1 q.2.2.2) U)
theorem SX.go {g : Gl} {A A1 : Nat → Prop} {s U : State} {H : Heap} {locs : List Loc} (h : SX g A s s.heap) (hS : va_S A s.heap H locs) (hW : s.WarmedH U.vm) (hH : U.heap = H) (hA : ∀ q, A1 q → A q) : SX g A1 U U.heap := by
  obtain ⟨⟨a1, a2⟩, ⟨b1, b2⟩, ⟨c1, c2⟩, d1, k1, k2, k3⟩ := h
  have hq : ∀ a : Nat, a < s.heap.size → ¬ A a → H[a]? = s.heap[a]? := fun a p q => hS.2.1 a p q
  have hv := hW.alike
  rw [hH]
  exact ⟨⟨((a1.kept hq).moved hv).narrow hA, ((a2.kept hq).moved hv).narrow hA⟩, ⟨((b1.kept hq).moved hv).narrow hA, ((b2.kept hq).moved hv).narrow hA⟩, ⟨((c1.kept hq).moved hv).narrow hA, ((c2.kept hq).moved hv).narrow hA⟩, ((d1.kept hq).moved hv).narrow hA, ((k1.kept hq).moved hv).narrow hA, fun q hq => (k2 q hq).warm hW, fun q hq => va_Nw.warmM hW (k3 q hq)⟩
theorem SX.same {g : Gl} {A : Nat → Prop} {u U : State} {H : Heap} (hv : U.vm = u.vm) (h : SX g A u H) : SX g A U H := by
  obtain ⟨⟨a1, a2⟩, ⟨b1, b2⟩, ⟨c1, c2⟩, d1, k1, k2, k3⟩ := h
  have hl : u.vm.Alike U.vm := by rw [hv]; exact Vm.Alike.refl u.vm
  exact ⟨⟨a1.moved hl, a2.moved hl⟩, ⟨b1.moved hl, b2.moved hl⟩, ⟨c1.moved hl, c2.moved hl⟩, d1.moved hl, k1.moved hl, fun q hq => (k2 q hq).same hv, fun q hq => va_Nw.same rfl hv.symm (k3 q hq)⟩
/-- the values of the locals, by place -/
def nth {α : Type} : List α → Nat → Option α
  | [], _ => none
  | a :: _, 0 => some a
  | _ :: t, n + 1 => nth t n
def setN : List (Option Value) → Nat → Value → List (Option Value)
  | [], 0, v => [some v]
  | [], n + 1, v => none :: setN [] n v
  | _ :: t, 0, v => some v :: t
  | a :: t, n + 1, v => a :: setN t n v
theorem nth_set (L : List (Option Value)) (i : Nat) (v : Value) : ∀ (j : Nat) (u : Value), nth (setN L i v) j = some (some u) → (j = i ∧ u = v) ∨ (j ≠ i ∧ nth L j = some (some u)) := by
  induction L generalizing i with
  | nil =>
    induction i with
    | zero =>
      intro j u hj
      cases j with
      | zero => left; refine ⟨rfl, ?_⟩; have : some (some v) = some (some u) := hj; injection this with this; injection this with this; exact this.symm
      | succ j => cases hj
    | succ i ih =>
      intro j u hj
      cases j with
      | zero => cases hj
      | succ j =>
        rcases ih j u hj with ⟨e, f⟩ | ⟨e, f⟩
        · left; exact ⟨by omega, f⟩
        · cases j <;> cases f
  | cons a t ih =>
    cases i with
    | zero =>
      intro j u hj
      cases j with
      | zero => left; refine ⟨rfl, ?_⟩; have : some (some v) = some (some u) := hj; injection this with this; injection this with this; exact this.symm
      | succ j => right; exact ⟨by omega, hj⟩
    | succ i =>
      intro j u hj
      cases j with
      | zero => right; exact ⟨by omega, hj⟩
      | succ j =>
        rcases ih i j u hj with ⟨e, f⟩ | ⟨e, f⟩
        · left; exact ⟨by omega, f⟩
        · right; exact ⟨by omega, f⟩
def hasL (ls : Array Slot) (nL : Nat) (L : List (Option Value)) : Prop := ls.size = nL ∧ lv_wf ls ∧ ∀ i v, nth L i = some (some v) → ls[i]? = some (.val v) ∧ v.category = 1
def toLv : Nat → List (Option Value) → List (Nat × Value)
  | _, [] => []
  | k, none :: t => toLv (k + 1) t
  | k, some v :: t => (k, v) :: toLv (k + 1) t
theorem toLv_in (L : List (Option Value)) : ∀ (k : Nat) (q : Nat × Value), q ∈ toLv k L ↔ ∃ j, q.1 = k + j ∧ nth L j = some (some q.2) := by
  induction L with
  | nil => intro k q; constructor <;> intro h; cases h; obtain ⟨j, _, h⟩ := h; cases h
  | cons a t ih =>
    intro k q
    cases a with
    | none =>
      show q ∈ toLv (k + 1) t ↔ _
      rw [ih (k + 1) q]
      constructor
      · rintro ⟨j, e, f⟩; exact ⟨j + 1, by omega, f⟩
      · rintro ⟨j, e, f⟩
        cases j with
        | zero => cases f
        | succ j => exact ⟨j, by omega, f⟩
    | some v =>
      show q ∈ (k, v) :: toLv (k + 1) t ↔ _
      rw [List.mem_cons, ih (k + 1) q]
      constructor
      · rintro (e | ⟨j, e, f⟩)
        · exact ⟨0, by rw [e]; rfl, by rw [e]; rfl⟩
        · exact ⟨j + 1, by omega, f⟩
      · rintro ⟨j, e, f⟩
        cases j with
        | zero => left; have : some (some v) = some (some q.2) := f; injection this with this; injection this with this; exact Prod.ext (by simpa using e) this.symm
        | succ j => right; exact ⟨j, by omega, f⟩
theorem hasL.lv {ls : Array Slot} {nL : Nat} {L : List (Option Value)} (h : hasL ls nL L) : lv_has ls nL (toLv 0 L) := ⟨h.1, h.2.1, fun q hq => by
  obtain ⟨j, e, f⟩ := (toLv_in L 0 q).mp hq
  rw [show q.1 = j by omega]
  exact (h.2.2 j q.2 f).1⟩
theorem hasL.set {ls ls1 : Array Slot} {nL i : Nat} {L : List (Option Value)} {v : Value} (h : hasL ls nL L) (hv : v.category = 1) (h1 : lv_has ls1 nL ((i, v) :: (toLv 0 L).filter (fun q => !(q.1 == i) && !(q.1 + 1 == i && q.2.category == 2)))) : hasL ls1 nL (setN L i v) := by
  refine ⟨h1.1, h1.2.1, fun j u hj => ?_⟩
  rcases nth_set L i v j u hj with ⟨e, f⟩ | ⟨e, f⟩
  · subst e; subst f; exact ⟨h1.2.2 _ List.mem_cons_self, hv⟩
  · have hc := (h.2.2 j u f).2
    refine ⟨h1.2.2 (j, u) (List.mem_cons_of_mem _ (List.mem_filter.mpr ⟨(toLv_in L 0 (j, u)).mpr ⟨j, by simp, f⟩, ?_⟩)), hc⟩
    simp [e, hc]
/-- fewer known locals -/
def subL : List (Option Value) → List (Option Value) → Prop
  | [], _ => True
  | none :: t, [] => subL t []
  | none :: t, _ :: q => subL t q
  | some _ :: _, [] => False
  | some v :: t, b :: q => b = some v ∧ subL t q
theorem subL_nth : ∀ (L1 L : List (Option Value)), subL L1 L → ∀ (i : Nat) (v : Value), nth L1 i = some (some v) → nth L i = some (some v) := by
  intro L1
  induction L1 with
  | nil => intro L _ i v h; cases h
  | cons a t ih =>
    intro L hs i v h
    cases a with
    | none =>
      cases L with
      | nil =>
        cases i with
        | zero => cases h
        | succ i => have := ih [] hs i v h; cases this
      | cons b q =>
        cases i with
        | zero => cases h
        | succ i => exact ih q hs i v h
    | some u =>
      cases L with
      | nil => exact absurd hs (fun q => q)
      | cons b q =>
        cases i with
        | zero => have h1 : some (some u) = some (some v) := h; rw [← h1]; show some b = _; rw [hs.1]
        | succ i => exact ih q hs.2 i v h
theorem hasL.sub {ls : Array Slot} {nL : Nat} {L L1 : List (Option Value)} (h : hasL ls nL L) (hs : subL L1 L) : hasL ls nL L1 := ⟨h.1, h.2.1, fun i v hi => h.2.2 i v (subL_nth L1 L hs i v hi)⟩
theorem args_in (vs : List Value) (hc : ∀ v ∈ vs, v.category = 1) : ∀ (k i : Nat) (v : Value), nth (vs.map some) i = some (some v) → (k + i, v) ∈ lv_args k vs := by
  induction vs with
  | nil => intro k i v h; cases h
  | cons a t ih =>
    intro k i v h
    have ha : a.category = 1 := hc a List.mem_cons_self
    show _ ∈ (k, a) :: lv_args (if a.category = 2 then k + 2 else k + 1) t
    rw [if_neg (by omega)]
    cases i with
    | zero => have h1 : some (some a) = some (some v) := h; injection h1 with h1; injection h1 with h1; rw [h1]; exact List.mem_cons_self
    | succ i =>
      have := ih (fun v hv => hc v (List.mem_cons_of_mem _ hv)) (k + 1) i v h
      rw [show k + 1 + i = k + (i + 1) by omega] at this
      exact List.mem_cons_of_mem _ this
theorem nth_in {α : Type} : ∀ (l : List α) (i : Nat) (a : α), nth l i = some a → a ∈ l := by
  intro l
  induction l with
  | nil => intro i a h; cases h
  | cons b t ih =>
    intro i a h
    cases i with
    | zero => have h1 : some b = some a := h; injection h1 with h1; rw [h1]; exact List.mem_cons_self
    | succ i => exact List.mem_cons_of_mem _ (ih i a h)
theorem hasL_entry (vs : List Value) {n : Nat} (hc : ∀ v ∈ vs, v.category = 1) (hn : (lg_sl vs).length ≤ n) : hasL ((lg_sl vs ++ List.replicate (n - (lg_sl vs).length) Slot.unset).toArray) n (vs.map some) := by
  have h := lv_entry vs hn
  refine ⟨h.1, h.2.1, fun i v hi => ⟨?_, ?_⟩⟩
  · have := args_in vs hc 0 i v hi
    rw [Nat.zero_add] at this
    exact h.2.2 (i, v) this
  · obtain ⟨u, hu, e⟩ := List.mem_map.mp (nth_in _ _ _ hi)
    injection e with e
    rw [← e]; exact hc u hu
def rmd (d : Nat) : Room := { frames := d, cells := 0, slots := 0, locals := 64 * d }
abbrev Fx : Type := Program × Launch × Env × State × MethodId × Array Value × List Frame × Method × Code × (Nat → Prop)
abbrev QT : Type := Gl → (Nat → Prop) → Array Value → State → Outcome → State → Prop
def Ok (x : Fx) (g : Gl) (own : String) (cc : ByteArray) (nL : Nat) (ret : Option FieldType) : Prop := match x with
  | (p, _, _, s, m, args, _, meth, c, A) => p.tables.exec = Jvm.exec ∧ c.code = cc ∧ c.maxLocals = nL ∧ meth.sig.returnType = ret ∧ s.vm.findClass own = some m.cls ∧ (∀ w ∈ gT, w.before args s = true) ∧ meth.locks = false ∧ va_K g.1 vwCl (tyG g) s ∧ (∀ q, s.heap.size ≤ q → A q) ∧ SX g A s s.heap
def J {ρ : Type} (x : Fx) (g : Gl) (cw : Gl → Hp → va_W) (nL dR : Nat) (QR : ρ → QT) (pc : Nat) (L : List (Option Value)) (st : List Value) (h : Hp) (E : Option ρ) : Prop := match x with
  | (p, l, e, s, m, args, below, meth, c, A) => ∀ r, E = some r → ∀ (H : Heap) (locs : List Loc) (ls : Array Slot), va_P g.1 vwCl (cw g h) H → va_D A (cw g h) → va_S A s.heap H locs → hasL ls nL L → W p l e (rmd dR) s m args below meth c H locs 0 0 (MQ below (QR r g A) args s 0 0 A) (F0 m pc ls st)
def inR (i : Int32) (n : Nat) : Bool := decide (0 ≤ i) && decide (i.toNatClampNeg < n)
theorem inR_vp {i : Int32} {n : Nat} (h : inR i n = true) : vp_in i n := by
  unfold inR at h
  rw [Bool.and_eq_true, decide_eq_true_eq, decide_eq_true_eq] at h
  rintro (q | q)
  · exact Int32.not_lt.mpr h.1 q
  · omega
def chk {α : Type} (b : Bool) (x : Option α) : Option α := match b with
  | true => x
  | false => none
theorem chk_some {α : Type} {b : Bool} {x : Option α} {r : α} (h : chk b x = some r) : b = true ∧ x = some r := by
  cases b with
  | true => exact ⟨rfl, h⟩
  | false => cases h
def bnd {α ρ : Type} (x : Option α) (k : α → Option ρ) : Option ρ := match x with
  | some a => k a
  | none => none
theorem bnd_some {α ρ : Type} {x : Option α} {k : α → Option ρ} {r : ρ} (h : bnd x k = some r) : ∃ a, x = some a ∧ k a = some r := by
  cases x with
  | some a => exact ⟨a, rfl, h⟩
  | none => cases h
/-- a division's divisor -/
def nz (y : Int32) : Bool := !decide (y = 0)
theorem nz_ne {y : Int32} (h : nz y = true) : ¬ y = 0 := by
  unfold nz at h
  simpa using h
def wE (g : Gl) (cw : Gl → Hp → va_W) (A : Nat → Prop) (u : Hp) (t : State) : Prop := va_P g.1 vwCl (cw g u) t.heap ∧ va_K g.1 vwCl (tyG g) t ∧ va_D A (cw g u)
def qI (cw : Gl → Hp → va_W) (v : Int32) (u : Hp) : QT := fun g A => va_Qi (fun (r : Int32) (q : Hp) => r = v ∧ q = u) (wE g cw A) A
def qZ (cw : Gl → Hp → va_W) (v : Int32) (u : Hp) : QT := fun g A => va_Qi (fun (r : Int32) (q : Hp) => r = v ∧ q = u ∧ (v = 0 ∨ v = 1)) (wE g cw A) A
def qV (cw : Gl → Hp → va_W) (u : Hp) : QT := fun g A => va_Qv (fun (q : Hp) => q = u) (wE g cw A) A
/-- an answer that is a place, or null -/
def qR (cw : Gl → Hp → va_W) (v : Gl → Option Nat) (u : Hp) : QT := fun g A => va_Qq (fun (r : Option Nat) (q : Hp) => r = v g ∧ q = u) (wE g cw A) A
def PreX (g : Gl) (cw : Gl → Hp → va_W) (h : Hp) (sz : Nat) (U : State) : Prop := U.heap.size = sz ∧ va_P g.1 vwCl (cw g h) U.heap ∧ va_K g.1 vwCl (tyG g) U ∧ va_D (fun _ => True) (cw g h) ∧ SX g (va_A (cw g h) sz) U U.heap
/-- a method's contract: its words, its depth, its start (values and cells), its end -/
def CT (l : Launch) (y : MethodName) (cc : ByteArray) (nL : Nat) (ret : Option FieldType) (d : Nat) (cw : Gl → Hp → va_W) (av : Gl → List Value) (h : Hp) (Q : QT) : Prop :=
  ∀ (g : Gl) (sz : Nat), Met l y (Cond.code y cc nL ret :: gT) (rmd d) (va_Pc (av g) (PreX g cw h sz)) (Q g (va_A (cw g h) sz)) 0 0 (va_A (cw g h) sz)
theorem PreX.blind {g : Gl} {cw : Gl → Hp → va_W} {h : Hp} {sz : Nat} {av : List Value} : FrameBlind (va_Pc av (PreX g cw h sz)) := by
  intro a U gg mk q
  obtain ⟨q0, q1, qP, qK, qD, qS⟩ := q
  exact ⟨q0, q1, qP, va_K.moved (u := U) (U := U.calling gg mk a) (Vm.Alike.refl U.vm) qK, qD, qS.same rfl⟩
/-- the table's facts of a method -/
def MI (y : MethodName) (cc : ByteArray) (nL : Nat) (ret : Option FieldType) (n : Nat) : Prop := Cond.code y cc nL ret ∈ gT ∧ Cond.initialized y.cls ∈ gT ∧ (y.cls ≠ "java/lang/invoke/MethodHandle" ∧ y.cls ≠ "java/lang/invoke/VarHandle" ∧ (parseMethodDescriptor y.desc).map (fun d => d.parameters.length) = some n)
theorem A_in {A : Nat → Prop} {ws : va_W} {H0 H : Heap} {locs : List Loc} (hD : va_D A ws) (hS : va_S A H0 H locs) (hA : ∀ q, H0.size ≤ q → A q) : ∀ q, va_A ws H.size q → A q := by
  rintro q (⟨k, e, hk⟩ | hq)
  · exact hD.2 k (q, e) hk
  · exact hA q (Nat.le_trans hS.1 hq)

section JRows
variable {ρ : Type} {x : Fx} {g : Gl} {cw : Gl → Hp → va_W} {nL dR : Nat} {QR : ρ → QT} {own : String} {cc : ByteArray} {ret : Option FieldType} {pc n : Nat} {L : List (Option Value)} {st : List Value} {h : Hp} {E : Option ρ}

theorem j_iconst (C : Ok x g own cc nL ret) {i : Int} {v : Int32} (d : decode cc pc = .ok (.iconst i, 1)) (hv : Int32.ofInt i = v) (hn : pc + 1 = n) (k : J x g cw nL dR QR n L (.int v :: st) h E) : J x g cw nL dR QR pc L (st) h (E) := by
  obtain ⟨p, l, e, s, m, args, below, meth, c, A⟩ := x
  subst hn
  intro r hE H locs ls hP hD hS hL
  exact lv_iconst C.1 C.2.1 d hv (k r hE H locs ls hP hD hS hL)
theorem j_bipush (C : Ok x g own cc nL ret) {i : Int} {v : Int32} (d : decode cc pc = .ok (.bipush i, 2)) (hv : (Int8.ofInt i).toInt32 = v) (hn : pc + 2 = n) (k : J x g cw nL dR QR n L (.int v :: st) h E) : J x g cw nL dR QR pc L (st) h (E) := by
  obtain ⟨p, l, e, s, m, args, below, meth, c, A⟩ := x
  subst hn
  intro r hE H locs ls hP hD hS hL
  exact lv_bipush C.1 C.2.1 d hv (k r hE H locs ls hP hD hS hL)
theorem j_sipush (C : Ok x g own cc nL ret) {i : Int} {v : Int32} (d : decode cc pc = .ok (.sipush i, 3)) (hv : (Int16.ofInt i).toInt32 = v) (hn : pc + 3 = n) (k : J x g cw nL dR QR n L (.int v :: st) h E) : J x g cw nL dR QR pc L (st) h (E) := by
  obtain ⟨p, l, e, s, m, args, below, meth, c, A⟩ := x
  subst hn
  intro r hE H locs ls hP hD hS hL
  exact lv_sipush C.1 C.2.1 d hv (k r hE H locs ls hP hD hS hL)
theorem j_ldc (C : Ok x g own cc nL ret) {i : Nat} {v : Int32} (d : decode cc pc = .ok (.ldc i, 2)) (hv : Cond.constant own i v ∈ gT) (hn : pc + 2 = n) (k : J x g cw nL dR QR n L (.int v :: st) h E) : J x g cw nL dR QR pc L (st) h (E) := by
  obtain ⟨p, l, e, s, m, args, below, meth, c, A⟩ := x
  subst hn
  intro r hE H locs ls hP hD hS hL
  exact lv_ldc C.1 C.2.1 C.2.2.2.2.1 (C.2.2.2.2.2.1 _ hv) d (k r hE H locs ls hP hD hS hL)
theorem j_ldcw (C : Ok x g own cc nL ret) {i : Nat} {v : Int32} (d : decode cc pc = .ok (.ldc_w i, 3)) (hv : Cond.constant own i v ∈ gT) (hn : pc + 3 = n) (k : J x g cw nL dR QR n L (.int v :: st) h E) : J x g cw nL dR QR pc L (st) h (E) := by
  obtain ⟨p, l, e, s, m, args, below, meth, c, A⟩ := x
  subst hn
  intro r hE H locs ls hP hD hS hL
  exact lv_ldcw C.1 C.2.1 C.2.2.2.2.1 (C.2.2.2.2.2.1 _ hv) d (k r hE H locs ls hP hD hS hL)
theorem j_iload_n (C : Ok x g own cc nL ret) {i : Fin 4} {v : Int32} (d : decode cc pc = .ok (.iload_n i, 1)) (hl : nth L i.val = some (some (.int v))) (hn : pc + 1 = n) (k : J x g cw nL dR QR n L (.int v :: st) h E) : J x g cw nL dR QR pc L (st) h (E) := by
  obtain ⟨p, l, e, s, m, args, below, meth, c, A⟩ := x
  subst hn
  intro r hE H locs ls hP hD hS hL
  exact lv_iload_n C.1 C.2.1 d rfl (hL.2.2 _ _ hl).1 (k r hE H locs ls hP hD hS hL)
theorem j_iload (C : Ok x g own cc nL ret) {i : Nat} {v : Int32} (d : decode cc pc = .ok (.iload i, 2)) (hl : nth L i = some (some (.int v))) (hn : pc + 2 = n) (k : J x g cw nL dR QR n L (.int v :: st) h E) : J x g cw nL dR QR pc L (st) h (E) := by
  obtain ⟨p, l, e, s, m, args, below, meth, c, A⟩ := x
  subst hn
  intro r hE H locs ls hP hD hS hL
  exact lv_iload C.1 C.2.1 d (hL.2.2 _ _ hl).1 (k r hE H locs ls hP hD hS hL)
theorem j_aload_n (C : Ok x g own cc nL ret) {i : Fin 4} {a : Nat} (d : decode cc pc = .ok (.aload_n i, 1)) (hl : nth L i.val = some (some (.ref a))) (hn : pc + 1 = n) (k : J x g cw nL dR QR n L (.ref a :: st) h E) : J x g cw nL dR QR pc L (st) h (E) := by
  obtain ⟨p, l, e, s, m, args, below, meth, c, A⟩ := x
  subst hn
  intro r hE H locs ls hP hD hS hL
  exact lv_aload_n C.1 C.2.1 d rfl (hL.2.2 _ _ hl).1 (k r hE H locs ls hP hD hS hL)
theorem j_aload (C : Ok x g own cc nL ret) {i : Nat} {a : Nat} (d : decode cc pc = .ok (.aload i, 2)) (hl : nth L i = some (some (.ref a))) (hn : pc + 2 = n) (k : J x g cw nL dR QR n L (.ref a :: st) h E) : J x g cw nL dR QR pc L (st) h (E) := by
  obtain ⟨p, l, e, s, m, args, below, meth, c, A⟩ := x
  subst hn
  intro r hE H locs ls hP hD hS hL
  exact lv_aload C.1 C.2.1 d (hL.2.2 _ _ hl).1 (k r hE H locs ls hP hD hS hL)
theorem j_aload_nN (C : Ok x g own cc nL ret) {i : Fin 4} (d : decode cc pc = .ok (.aload_n i, 1)) (hl : nth L i.val = some (some .null)) (hn : pc + 1 = n) (k : J x g cw nL dR QR n L (.null :: st) h E) : J x g cw nL dR QR pc L (st) h (E) := by
  obtain ⟨p, l, e, s, m, args, below, meth, c, A⟩ := x
  subst hn
  intro r hE H locs ls hP hD hS hL
  exact lv_aload_nN C.1 C.2.1 d rfl (hL.2.2 _ _ hl).1 (k r hE H locs ls hP hD hS hL)
theorem j_istore_n (C : Ok x g own cc nL ret) {i : Fin 4} {v : Int32} (d : decode cc pc = .ok (.istore_n i, 1)) (hi : i.val < nL) (hn : pc + 1 = n) (k : J x g cw nL dR QR n (setN L i.val (.int v)) (st) h E) : J x g cw nL dR QR pc L (.int v :: st) h (E) := by
  obtain ⟨p, l, e, s, m, args, below, meth, c, A⟩ := x
  subst hn
  intro r hE H locs ls hP hD hS hL
  exact lv_istore_n C.1 C.2.1 d rfl hL.lv hi rfl (fun ls1 hl1 => k r hE H locs ls1 hP hD hS (hL.set rfl hl1))
theorem j_istore (C : Ok x g own cc nL ret) {i : Nat} {v : Int32} (d : decode cc pc = .ok (.istore i, 2)) (hi : i < nL) (hn : pc + 2 = n) (k : J x g cw nL dR QR n (setN L i (.int v)) (st) h E) : J x g cw nL dR QR pc L (.int v :: st) h (E) := by
  obtain ⟨p, l, e, s, m, args, below, meth, c, A⟩ := x
  subst hn
  intro r hE H locs ls hP hD hS hL
  exact lv_istore C.1 C.2.1 d hL.lv hi rfl (fun ls1 hl1 => k r hE H locs ls1 hP hD hS (hL.set rfl hl1))
theorem j_astore_n (C : Ok x g own cc nL ret) {i : Fin 4} {v : Nat} (d : decode cc pc = .ok (.astore_n i, 1)) (hi : i.val < nL) (hn : pc + 1 = n) (k : J x g cw nL dR QR n (setN L i.val (.ref v)) (st) h E) : J x g cw nL dR QR pc L (.ref v :: st) h (E) := by
  obtain ⟨p, l, e, s, m, args, below, meth, c, A⟩ := x
  subst hn
  intro r hE H locs ls hP hD hS hL
  exact lv_astore_n C.1 C.2.1 d rfl hL.lv hi rfl (fun ls1 hl1 => k r hE H locs ls1 hP hD hS (hL.set rfl hl1))
theorem j_astore (C : Ok x g own cc nL ret) {i : Nat} {v : Nat} (d : decode cc pc = .ok (.astore i, 2)) (hi : i < nL) (hn : pc + 2 = n) (k : J x g cw nL dR QR n (setN L i (.ref v)) (st) h E) : J x g cw nL dR QR pc L (.ref v :: st) h (E) := by
  obtain ⟨p, l, e, s, m, args, below, meth, c, A⟩ := x
  subst hn
  intro r hE H locs ls hP hD hS hL
  exact lv_astore C.1 C.2.1 d hL.lv hi rfl (fun ls1 hl1 => k r hE H locs ls1 hP hD hS (hL.set rfl hl1))
theorem j_astore_nN (C : Ok x g own cc nL ret) {i : Fin 4} (d : decode cc pc = .ok (.astore_n i, 1)) (hi : i.val < nL) (hn : pc + 1 = n) (k : J x g cw nL dR QR n (setN L i.val .null) (st) h E) : J x g cw nL dR QR pc L (.null :: st) h (E) := by
  obtain ⟨p, l, e, s, m, args, below, meth, c, A⟩ := x
  subst hn
  intro r hE H locs ls hP hD hS hL
  exact lv_astore_nN C.1 C.2.1 d rfl hL.lv hi rfl (fun ls1 hl1 => k r hE H locs ls1 hP hD hS (hL.set rfl hl1))
theorem j_iinc (C : Ok x g own cc nL ret) {i : Nat} {z : Int} {v v2 : Int32} (d : decode cc pc = .ok (.iinc i z, 3)) (hl : nth L i = some (some (.int v))) (hv : v + Int32.ofInt z = v2) (hi : i < nL) (hn : pc + 3 = n) (k : J x g cw nL dR QR n (setN L i (.int v2)) st h E) : J x g cw nL dR QR pc L st h E := by
  obtain ⟨p, l, e, s, m, args, below, meth, c, A⟩ := x
  subst hn
  intro r hE H locs ls hP hD hS hL
  obtain ⟨kk, hk⟩ := List.getElem?_of_mem ((toLv_in L 0 (i, .int v)).mpr ⟨i, by simp, hl⟩)
  exact lv_iinc C.1 C.2.1 d hL.lv hk hv hi rfl (fun ls1 hl1 => k r hE H locs ls1 hP hD hS (hL.set rfl hl1))
theorem j_iadd (C : Ok x g own cc nL ret) {x1 y1 : Int32} (d : decode cc pc = .ok (.iadd, 1)) (hn : pc + 1 = n) (k : J x g cw nL dR QR n L (.int (x1 + y1) :: st) h E) : J x g cw nL dR QR pc L (.int y1 :: .int x1 :: st) h (E) := by
  obtain ⟨p, l, e, s, m, args, below, meth, c, A⟩ := x
  subst hn
  intro r hE H locs ls hP hD hS hL
  exact lv_iadd C.1 C.2.1 d (k r hE H locs ls hP hD hS hL)
theorem j_isub (C : Ok x g own cc nL ret) {x1 y1 : Int32} (d : decode cc pc = .ok (.isub, 1)) (hn : pc + 1 = n) (k : J x g cw nL dR QR n L (.int (x1 - y1) :: st) h E) : J x g cw nL dR QR pc L (.int y1 :: .int x1 :: st) h (E) := by
  obtain ⟨p, l, e, s, m, args, below, meth, c, A⟩ := x
  subst hn
  intro r hE H locs ls hP hD hS hL
  exact lv_isub C.1 C.2.1 d (k r hE H locs ls hP hD hS hL)
theorem j_imul (C : Ok x g own cc nL ret) {x1 y1 : Int32} (d : decode cc pc = .ok (.imul, 1)) (hn : pc + 1 = n) (k : J x g cw nL dR QR n L (.int (x1 * y1) :: st) h E) : J x g cw nL dR QR pc L (.int y1 :: .int x1 :: st) h (E) := by
  obtain ⟨p, l, e, s, m, args, below, meth, c, A⟩ := x
  subst hn
  intro r hE H locs ls hP hD hS hL
  exact lv_imul C.1 C.2.1 d (k r hE H locs ls hP hD hS hL)
theorem j_iand (C : Ok x g own cc nL ret) {x1 y1 : Int32} (d : decode cc pc = .ok (.iand, 1)) (hn : pc + 1 = n) (k : J x g cw nL dR QR n L (.int (x1 &&& y1) :: st) h E) : J x g cw nL dR QR pc L (.int y1 :: .int x1 :: st) h (E) := by
  obtain ⟨p, l, e, s, m, args, below, meth, c, A⟩ := x
  subst hn
  intro r hE H locs ls hP hD hS hL
  exact lv_iand C.1 C.2.1 d (k r hE H locs ls hP hD hS hL)
theorem j_ior (C : Ok x g own cc nL ret) {x1 y1 : Int32} (d : decode cc pc = .ok (.ior, 1)) (hn : pc + 1 = n) (k : J x g cw nL dR QR n L (.int (x1 ||| y1) :: st) h E) : J x g cw nL dR QR pc L (.int y1 :: .int x1 :: st) h (E) := by
  obtain ⟨p, l, e, s, m, args, below, meth, c, A⟩ := x
  subst hn
  intro r hE H locs ls hP hD hS hL
  exact lv_ior C.1 C.2.1 d (k r hE H locs ls hP hD hS hL)
theorem j_ixor (C : Ok x g own cc nL ret) {x1 y1 : Int32} (d : decode cc pc = .ok (.ixor, 1)) (hn : pc + 1 = n) (k : J x g cw nL dR QR n L (.int (x1 ^^^ y1) :: st) h E) : J x g cw nL dR QR pc L (.int y1 :: .int x1 :: st) h (E) := by
  obtain ⟨p, l, e, s, m, args, below, meth, c, A⟩ := x
  subst hn
  intro r hE H locs ls hP hD hS hL
  exact lv_ixor C.1 C.2.1 d (k r hE H locs ls hP hD hS hL)
theorem j_ishl (C : Ok x g own cc nL ret) {x1 y1 : Int32} (d : decode cc pc = .ok (.ishl, 1)) (hn : pc + 1 = n) (k : J x g cw nL dR QR n L (.int (x1 <<< (y1 &&& 31)) :: st) h E) : J x g cw nL dR QR pc L (.int y1 :: .int x1 :: st) h (E) := by
  obtain ⟨p, l, e, s, m, args, below, meth, c, A⟩ := x
  subst hn
  intro r hE H locs ls hP hD hS hL
  exact lv_ishl C.1 C.2.1 d (k r hE H locs ls hP hD hS hL)
theorem j_ishr (C : Ok x g own cc nL ret) {x1 y1 : Int32} (d : decode cc pc = .ok (.ishr, 1)) (hn : pc + 1 = n) (k : J x g cw nL dR QR n L (.int (x1 >>> (y1 &&& 31)) :: st) h E) : J x g cw nL dR QR pc L (.int y1 :: .int x1 :: st) h (E) := by
  obtain ⟨p, l, e, s, m, args, below, meth, c, A⟩ := x
  subst hn
  intro r hE H locs ls hP hD hS hL
  exact lv_ishr C.1 C.2.1 d (k r hE H locs ls hP hD hS hL)
theorem j_iushr (C : Ok x g own cc nL ret) {x1 y1 : Int32} (d : decode cc pc = .ok (.iushr, 1)) (hn : pc + 1 = n) (k : J x g cw nL dR QR n L (.int (x1.toUInt32 >>> (y1.toUInt32 &&& Int32.toUInt32 31)).toInt32 :: st) h E) : J x g cw nL dR QR pc L (.int y1 :: .int x1 :: st) h (E) := by
  obtain ⟨p, l, e, s, m, args, below, meth, c, A⟩ := x
  subst hn
  intro r hE H locs ls hP hD hS hL
  exact lv_iushr C.1 C.2.1 d rfl (k r hE H locs ls hP hD hS hL)
theorem j_ineg (C : Ok x g own cc nL ret) {x1 : Int32} (d : decode cc pc = .ok (.ineg, 1)) (hn : pc + 1 = n) (k : J x g cw nL dR QR n L (.int (-x1) :: st) h E) : J x g cw nL dR QR pc L (.int x1 :: st) h (E) := by
  obtain ⟨p, l, e, s, m, args, below, meth, c, A⟩ := x
  subst hn
  intro r hE H locs ls hP hD hS hL
  exact lv_ineg C.1 C.2.1 d (k r hE H locs ls hP hD hS hL)
theorem j_i2b (C : Ok x g own cc nL ret) {x1 : Int32} (d : decode cc pc = .ok (.i2b, 1)) (hn : pc + 1 = n) (k : J x g cw nL dR QR n L (.int x1.toInt8.toInt32 :: st) h E) : J x g cw nL dR QR pc L (.int x1 :: st) h (E) := by
  obtain ⟨p, l, e, s, m, args, below, meth, c, A⟩ := x
  subst hn
  intro r hE H locs ls hP hD hS hL
  exact lv_i2b C.1 C.2.1 d rfl (k r hE H locs ls hP hD hS hL)
theorem j_i2s (C : Ok x g own cc nL ret) {x1 : Int32} (d : decode cc pc = .ok (.i2s, 1)) (hn : pc + 1 = n) (k : J x g cw nL dR QR n L (.int x1.toInt16.toInt32 :: st) h E) : J x g cw nL dR QR pc L (.int x1 :: st) h (E) := by
  obtain ⟨p, l, e, s, m, args, below, meth, c, A⟩ := x
  subst hn
  intro r hE H locs ls hP hD hS hL
  exact lv_i2s C.1 C.2.1 d rfl (k r hE H locs ls hP hD hS hL)
theorem j_i2l (C : Ok x g own cc nL ret) {x1 : Int32} (d : decode cc pc = .ok (.i2l, 1)) (hn : pc + 1 = n) (k : J x g cw nL dR QR n L (.long x1.toInt64 :: st) h E) : J x g cw nL dR QR pc L (.int x1 :: st) h (E) := by
  obtain ⟨p, l, e, s, m, args, below, meth, c, A⟩ := x
  subst hn
  intro r hE H locs ls hP hD hS hL
  exact lv_i2l C.1 C.2.1 d rfl (k r hE H locs ls hP hD hS hL)
theorem j_ladd (C : Ok x g own cc nL ret) {x1 y1 : Int64} (d : decode cc pc = .ok (.ladd, 1)) (hn : pc + 1 = n) (k : J x g cw nL dR QR n L (.long (x1 + y1) :: st) h E) : J x g cw nL dR QR pc L (.long y1 :: .long x1 :: st) h (E) := by
  obtain ⟨p, l, e, s, m, args, below, meth, c, A⟩ := x
  subst hn
  intro r hE H locs ls hP hD hS hL
  exact lv_ladd C.1 C.2.1 d (k r hE H locs ls hP hD hS hL)
theorem j_lcmp (C : Ok x g own cc nL ret) {x1 y1 : Int64} (d : decode cc pc = .ok (.lcmp, 1)) (hn : pc + 1 = n) (k : J x g cw nL dR QR n L (.int (lg_cmp x1 y1) :: st) h E) : J x g cw nL dR QR pc L (.long y1 :: .long x1 :: st) h (E) := by
  obtain ⟨p, l, e, s, m, args, below, meth, c, A⟩ := x
  subst hn
  intro r hE H locs ls hP hD hS hL
  exact W.lcmp C.1 C.2.1 d (k r hE H locs ls hP hD hS hL)
theorem j_idiv (C : Ok x g own cc nL ret) {x1 y1 : Int32} (d : decode cc pc = .ok (.idiv, 1)) (hn : pc + 1 = n) (k : J x g cw nL dR QR n L (.int (x1 / y1) :: st) h E) : J x g cw nL dR QR pc L (.int y1 :: .int x1 :: st) h (chk (nz y1) E) := by
  obtain ⟨p, l, e, s, m, args, below, meth, c, A⟩ := x
  subst hn
  intro r hE H locs ls hP hD hS hL
  obtain ⟨hz, hE⟩ := chk_some hE
  exact lv_idiv C.1 C.2.1 d (nz_ne hz) (k r hE H locs ls hP hD hS hL)
theorem j_idivL (C : Ok x g own cc nL ret) {x1 y1 : Int32} (d : decode cc pc = .ok (.idiv, 1)) (hz : nz y1 = true) (hn : pc + 1 = n) (k : J x g cw nL dR QR n L (.int (x1 / y1) :: st) h E) : J x g cw nL dR QR pc L (.int y1 :: .int x1 :: st) h (E) := by
  obtain ⟨p, l, e, s, m, args, below, meth, c, A⟩ := x
  subst hn
  intro r hE H locs ls hP hD hS hL
  exact lv_idiv C.1 C.2.1 d (nz_ne hz) (k r hE H locs ls hP hD hS hL)
theorem j_irem (C : Ok x g own cc nL ret) {x1 y1 : Int32} (d : decode cc pc = .ok (.irem, 1)) (hn : pc + 1 = n) (k : J x g cw nL dR QR n L (.int (x1 - x1 / y1 * y1) :: st) h E) : J x g cw nL dR QR pc L (.int y1 :: .int x1 :: st) h (chk (nz y1) E) := by
  obtain ⟨p, l, e, s, m, args, below, meth, c, A⟩ := x
  subst hn
  intro r hE H locs ls hP hD hS hL
  obtain ⟨hz, hE⟩ := chk_some hE
  exact lv_irem C.1 C.2.1 d (nz_ne hz) (k r hE H locs ls hP hD hS hL)
theorem j_iremL (C : Ok x g own cc nL ret) {x1 y1 : Int32} (d : decode cc pc = .ok (.irem, 1)) (hz : nz y1 = true) (hn : pc + 1 = n) (k : J x g cw nL dR QR n L (.int (x1 - x1 / y1 * y1) :: st) h E) : J x g cw nL dR QR pc L (.int y1 :: .int x1 :: st) h (E) := by
  obtain ⟨p, l, e, s, m, args, below, meth, c, A⟩ := x
  subst hn
  intro r hE H locs ls hP hD hS hL
  exact lv_irem C.1 C.2.1 d (nz_ne hz) (k r hE H locs ls hP hD hS hL)
theorem j_dup (C : Ok x g own cc nL ret) {v : Value} (d : decode cc pc = .ok (.dup, 1)) (hc : v.category = 1) (hn : pc + 1 = n) (k : J x g cw nL dR QR n L (v :: v :: st) h E) : J x g cw nL dR QR pc L (v :: st) h (E) := by
  obtain ⟨p, l, e, s, m, args, below, meth, c, A⟩ := x
  subst hn
  intro r hE H locs ls hP hD hS hL
  exact lv_dup C.1 C.2.1 d hc (k r hE H locs ls hP hD hS hL)
theorem j_pop (C : Ok x g own cc nL ret) {v : Value} (d : decode cc pc = .ok (.pop, 1)) (hc : v.category = 1) (hn : pc + 1 = n) (k : J x g cw nL dR QR n L (st) h E) : J x g cw nL dR QR pc L (v :: st) h (E) := by
  obtain ⟨p, l, e, s, m, args, below, meth, c, A⟩ := x
  subst hn
  intro r hE H locs ls hP hD hS hL
  exact lv_pop C.1 C.2.1 d hc (k r hE H locs ls hP hD hS hL)
theorem j_dup_x1 (C : Ok x g own cc nL ret) {v u : Value} (d : decode cc pc = .ok (.dup_x1, 1)) (hc : v.category = 1) (hc2 : u.category = 1) (hn : pc + 1 = n) (k : J x g cw nL dR QR n L (v :: u :: v :: st) h E) : J x g cw nL dR QR pc L (v :: u :: st) h (E) := by
  obtain ⟨p, l, e, s, m, args, below, meth, c, A⟩ := x
  subst hn
  intro r hE H locs ls hP hD hS hL
  exact lv_dup_x1 C.1 C.2.1 d hc hc2 (k r hE H locs ls hP hD hS hL)
theorem j_dup2 (C : Ok x g own cc nL ret) {v u : Value} (d : decode cc pc = .ok (.dup2, 1)) (hc : v.category = 1) (hc2 : u.category = 1) (hn : pc + 1 = n) (k : J x g cw nL dR QR n L (v :: u :: v :: u :: st) h E) : J x g cw nL dR QR pc L (v :: u :: st) h (E) := by
  obtain ⟨p, l, e, s, m, args, below, meth, c, A⟩ := x
  subst hn
  intro r hE H locs ls hP hD hS hL
  exact lv_dup2_11 C.1 C.2.1 d hc hc2 (k r hE H locs ls hP hD hS hL)
theorem j_goto (C : Ok x g own cc nL ret) {off : Int} (d : decode cc pc = .ok (.goto off, 3)) (hn : (pc : Int) + off = (n : Int)) (k : J x g cw nL dR QR n L st h E) : J x g cw nL dR QR pc L st h E := by
  obtain ⟨p, l, e, s, m, args, below, meth, c, A⟩ := x
  intro r hE H locs ls hP hD hS hL
  exact lv_goto C.1 C.2.1 d hn (k r hE H locs ls hP hD hS hL)
theorem j_if_eq (C : Ok x g own cc nL ret) {x1 : Int32} {off : Int} {tgt : Nat} {E1 E2 : Option ρ} (d : decode cc pc = .ok (.ifCond .eq off, 3)) (ht : (pc : Int) + off = (tgt : Int)) (hn : pc + 3 = n) (kt : x1 = 0 → J x g cw nL dR QR tgt L st h E1) (kf : ¬ x1 = 0 → J x g cw nL dR QR n L st h E2) : J x g cw nL dR QR pc L (.int x1 :: st) h (if x1 = 0 then E1 else E2) := by
  obtain ⟨p, l, e, s, m, args, below, meth, c, A⟩ := x
  subst hn
  intro r hE H locs ls hP hD hS hL
  refine lv_if_eq C.1 C.2.1 d ht (fun q => ?_) (fun q => ?_)
  · exact kt q r (by rw [if_pos q] at hE; exact hE) H locs ls hP hD hS hL
  · exact kf q r (by rw [if_neg q] at hE; exact hE) H locs ls hP hD hS hL
theorem j_if_ne (C : Ok x g own cc nL ret) {x1 : Int32} {off : Int} {tgt : Nat} {E1 E2 : Option ρ} (d : decode cc pc = .ok (.ifCond .ne off, 3)) (ht : (pc : Int) + off = (tgt : Int)) (hn : pc + 3 = n) (kt : ¬ x1 = 0 → J x g cw nL dR QR tgt L st h E1) (kf : x1 = 0 → J x g cw nL dR QR n L st h E2) : J x g cw nL dR QR pc L (.int x1 :: st) h (if x1 = 0 then E2 else E1) := by
  obtain ⟨p, l, e, s, m, args, below, meth, c, A⟩ := x
  subst hn
  intro r hE H locs ls hP hD hS hL
  refine lv_if_ne C.1 C.2.1 d ht (fun q => ?_) (fun q => ?_)
  · exact kt q r (by rw [if_neg q] at hE; exact hE) H locs ls hP hD hS hL
  · exact kf q r (by rw [if_pos q] at hE; exact hE) H locs ls hP hD hS hL
theorem j_if_lt (C : Ok x g own cc nL ret) {x1 : Int32} {off : Int} {tgt : Nat} {E1 E2 : Option ρ} (d : decode cc pc = .ok (.ifCond .lt off, 3)) (ht : (pc : Int) + off = (tgt : Int)) (hn : pc + 3 = n) (kt : x1 < 0 → J x g cw nL dR QR tgt L st h E1) (kf : ¬ x1 < 0 → J x g cw nL dR QR n L st h E2) : J x g cw nL dR QR pc L (.int x1 :: st) h (if x1 < 0 then E1 else E2) := by
  obtain ⟨p, l, e, s, m, args, below, meth, c, A⟩ := x
  subst hn
  intro r hE H locs ls hP hD hS hL
  refine lv_if_lt C.1 C.2.1 d ht (fun q => ?_) (fun q => ?_)
  · exact kt q r (by rw [if_pos q] at hE; exact hE) H locs ls hP hD hS hL
  · exact kf q r (by rw [if_neg q] at hE; exact hE) H locs ls hP hD hS hL
theorem j_if_ge (C : Ok x g own cc nL ret) {x1 : Int32} {off : Int} {tgt : Nat} {E1 E2 : Option ρ} (d : decode cc pc = .ok (.ifCond .ge off, 3)) (ht : (pc : Int) + off = (tgt : Int)) (hn : pc + 3 = n) (kt : 0 ≤ x1 → J x g cw nL dR QR tgt L st h E1) (kf : ¬ 0 ≤ x1 → J x g cw nL dR QR n L st h E2) : J x g cw nL dR QR pc L (.int x1 :: st) h (if 0 ≤ x1 then E1 else E2) := by
  obtain ⟨p, l, e, s, m, args, below, meth, c, A⟩ := x
  subst hn
  intro r hE H locs ls hP hD hS hL
  refine lv_if_ge C.1 C.2.1 d ht (fun q => ?_) (fun q => ?_)
  · exact kt q r (by rw [if_pos q] at hE; exact hE) H locs ls hP hD hS hL
  · exact kf q r (by rw [if_neg q] at hE; exact hE) H locs ls hP hD hS hL
theorem j_if_gt (C : Ok x g own cc nL ret) {x1 : Int32} {off : Int} {tgt : Nat} {E1 E2 : Option ρ} (d : decode cc pc = .ok (.ifCond .gt off, 3)) (ht : (pc : Int) + off = (tgt : Int)) (hn : pc + 3 = n) (kt : 0 < x1 → J x g cw nL dR QR tgt L st h E1) (kf : ¬ 0 < x1 → J x g cw nL dR QR n L st h E2) : J x g cw nL dR QR pc L (.int x1 :: st) h (if 0 < x1 then E1 else E2) := by
  obtain ⟨p, l, e, s, m, args, below, meth, c, A⟩ := x
  subst hn
  intro r hE H locs ls hP hD hS hL
  refine lv_if_gt C.1 C.2.1 d ht (fun q => ?_) (fun q => ?_)
  · exact kt q r (by rw [if_pos q] at hE; exact hE) H locs ls hP hD hS hL
  · exact kf q r (by rw [if_neg q] at hE; exact hE) H locs ls hP hD hS hL
theorem j_if_le (C : Ok x g own cc nL ret) {x1 : Int32} {off : Int} {tgt : Nat} {E1 E2 : Option ρ} (d : decode cc pc = .ok (.ifCond .le off, 3)) (ht : (pc : Int) + off = (tgt : Int)) (hn : pc + 3 = n) (kt : x1 ≤ 0 → J x g cw nL dR QR tgt L st h E1) (kf : ¬ x1 ≤ 0 → J x g cw nL dR QR n L st h E2) : J x g cw nL dR QR pc L (.int x1 :: st) h (if x1 ≤ 0 then E1 else E2) := by
  obtain ⟨p, l, e, s, m, args, below, meth, c, A⟩ := x
  subst hn
  intro r hE H locs ls hP hD hS hL
  refine lv_if_le C.1 C.2.1 d ht (fun q => ?_) (fun q => ?_)
  · exact kt q r (by rw [if_pos q] at hE; exact hE) H locs ls hP hD hS hL
  · exact kf q r (by rw [if_neg q] at hE; exact hE) H locs ls hP hD hS hL
theorem j_icmp_eq (C : Ok x g own cc nL ret) {x1 y1 : Int32} {off : Int} {tgt : Nat} {E1 E2 : Option ρ} (d : decode cc pc = .ok (.if_icmp .eq off, 3)) (ht : (pc : Int) + off = (tgt : Int)) (hn : pc + 3 = n) (kt : x1 = y1 → J x g cw nL dR QR tgt L st h E1) (kf : ¬ x1 = y1 → J x g cw nL dR QR n L st h E2) : J x g cw nL dR QR pc L (.int y1 :: .int x1 :: st) h (if x1 = y1 then E1 else E2) := by
  obtain ⟨p, l, e, s, m, args, below, meth, c, A⟩ := x
  subst hn
  intro r hE H locs ls hP hD hS hL
  refine lv_icmp_eq C.1 C.2.1 d ht (fun q => ?_) (fun q => ?_)
  · exact kt q r (by rw [if_pos q] at hE; exact hE) H locs ls hP hD hS hL
  · exact kf q r (by rw [if_neg q] at hE; exact hE) H locs ls hP hD hS hL
theorem j_icmp_ne (C : Ok x g own cc nL ret) {x1 y1 : Int32} {off : Int} {tgt : Nat} {E1 E2 : Option ρ} (d : decode cc pc = .ok (.if_icmp .ne off, 3)) (ht : (pc : Int) + off = (tgt : Int)) (hn : pc + 3 = n) (kt : ¬ x1 = y1 → J x g cw nL dR QR tgt L st h E1) (kf : x1 = y1 → J x g cw nL dR QR n L st h E2) : J x g cw nL dR QR pc L (.int y1 :: .int x1 :: st) h (if x1 = y1 then E2 else E1) := by
  obtain ⟨p, l, e, s, m, args, below, meth, c, A⟩ := x
  subst hn
  intro r hE H locs ls hP hD hS hL
  refine lv_icmp_ne C.1 C.2.1 d ht (fun q => ?_) (fun q => ?_)
  · exact kt q r (by rw [if_neg q] at hE; exact hE) H locs ls hP hD hS hL
  · exact kf q r (by rw [if_pos q] at hE; exact hE) H locs ls hP hD hS hL
theorem j_icmp_lt (C : Ok x g own cc nL ret) {x1 y1 : Int32} {off : Int} {tgt : Nat} {E1 E2 : Option ρ} (d : decode cc pc = .ok (.if_icmp .lt off, 3)) (ht : (pc : Int) + off = (tgt : Int)) (hn : pc + 3 = n) (kt : x1 < y1 → J x g cw nL dR QR tgt L st h E1) (kf : ¬ x1 < y1 → J x g cw nL dR QR n L st h E2) : J x g cw nL dR QR pc L (.int y1 :: .int x1 :: st) h (if x1 < y1 then E1 else E2) := by
  obtain ⟨p, l, e, s, m, args, below, meth, c, A⟩ := x
  subst hn
  intro r hE H locs ls hP hD hS hL
  refine lv_icmp_lt C.1 C.2.1 d ht (fun q => ?_) (fun q => ?_)
  · exact kt q r (by rw [if_pos q] at hE; exact hE) H locs ls hP hD hS hL
  · exact kf q r (by rw [if_neg q] at hE; exact hE) H locs ls hP hD hS hL
theorem j_icmp_ge (C : Ok x g own cc nL ret) {x1 y1 : Int32} {off : Int} {tgt : Nat} {E1 E2 : Option ρ} (d : decode cc pc = .ok (.if_icmp .ge off, 3)) (ht : (pc : Int) + off = (tgt : Int)) (hn : pc + 3 = n) (kt : y1 ≤ x1 → J x g cw nL dR QR tgt L st h E1) (kf : ¬ y1 ≤ x1 → J x g cw nL dR QR n L st h E2) : J x g cw nL dR QR pc L (.int y1 :: .int x1 :: st) h (if y1 ≤ x1 then E1 else E2) := by
  obtain ⟨p, l, e, s, m, args, below, meth, c, A⟩ := x
  subst hn
  intro r hE H locs ls hP hD hS hL
  refine lv_icmp_ge C.1 C.2.1 d ht (fun q => ?_) (fun q => ?_)
  · exact kt q r (by rw [if_pos q] at hE; exact hE) H locs ls hP hD hS hL
  · exact kf q r (by rw [if_neg q] at hE; exact hE) H locs ls hP hD hS hL
theorem j_icmp_gt (C : Ok x g own cc nL ret) {x1 y1 : Int32} {off : Int} {tgt : Nat} {E1 E2 : Option ρ} (d : decode cc pc = .ok (.if_icmp .gt off, 3)) (ht : (pc : Int) + off = (tgt : Int)) (hn : pc + 3 = n) (kt : y1 < x1 → J x g cw nL dR QR tgt L st h E1) (kf : ¬ y1 < x1 → J x g cw nL dR QR n L st h E2) : J x g cw nL dR QR pc L (.int y1 :: .int x1 :: st) h (if y1 < x1 then E1 else E2) := by
  obtain ⟨p, l, e, s, m, args, below, meth, c, A⟩ := x
  subst hn
  intro r hE H locs ls hP hD hS hL
  refine lv_icmp_gt C.1 C.2.1 d ht (fun q => ?_) (fun q => ?_)
  · exact kt q r (by rw [if_pos q] at hE; exact hE) H locs ls hP hD hS hL
  · exact kf q r (by rw [if_neg q] at hE; exact hE) H locs ls hP hD hS hL
theorem j_icmp_le (C : Ok x g own cc nL ret) {x1 y1 : Int32} {off : Int} {tgt : Nat} {E1 E2 : Option ρ} (d : decode cc pc = .ok (.if_icmp .le off, 3)) (ht : (pc : Int) + off = (tgt : Int)) (hn : pc + 3 = n) (kt : x1 ≤ y1 → J x g cw nL dR QR tgt L st h E1) (kf : ¬ x1 ≤ y1 → J x g cw nL dR QR n L st h E2) : J x g cw nL dR QR pc L (.int y1 :: .int x1 :: st) h (if x1 ≤ y1 then E1 else E2) := by
  obtain ⟨p, l, e, s, m, args, below, meth, c, A⟩ := x
  subst hn
  intro r hE H locs ls hP hD hS hL
  refine lv_icmp_le C.1 C.2.1 d ht (fun q => ?_) (fun q => ?_)
  · exact kt q r (by rw [if_pos q] at hE; exact hE) H locs ls hP hD hS hL
  · exact kf q r (by rw [if_neg q] at hE; exact hE) H locs ls hP hD hS hL
theorem j_split {P : Prop} {i1 : Decidable P} {E1 E2 : Option ρ} (kt : P → J x g cw nL dR QR pc L st h E1) (kf : ¬ P → J x g cw nL dR QR pc L st h E2) : J x g cw nL dR QR pc L st h (@ite _ P i1 E1 E2) := by
  by_cases q : P
  · rw [if_pos q]; exact kt q
  · rw [if_neg q]; exact kf q
theorem j_chk {b : Bool} (k : b = true → J x g cw nL dR QR pc L st h E) : J x g cw nL dR QR pc L st h (chk b E) := by
  cases b with
  | true => exact k rfl
  | false =>
    obtain ⟨p, l, e, s, m, args, below, meth, c, A⟩ := x
    intro r hE
    cases hE
theorem j_none : J x g cw nL dR QR pc L st h none := by
  obtain ⟨p, l, e, s, m, args, below, meth, c, A⟩ := x
  intro r hE
  cases hE
/-- on to a place with fewer known locals -/
theorem j_to {L1 : List (Option Value)} (k : J x g cw nL dR QR pc L1 st h E) (hs : subL L1 L) : J x g cw nL dR QR pc L st h E := by
  obtain ⟨p, l, e, s, m, args, below, meth, c, A⟩ := x
  intro r hE H locs ls hP hD hS hL
  exact k r hE H locs ls hP hD hS (hL.sub hs)
theorem j_tabIn (C : Ok x g own cc nL ret) {dflt lo hi : Int} {offs : Array Int} {len : Nat} {x1 v : Int32} {off : Int} (d : decode cc pc = .ok (.tableswitch dflt lo hi offs, len)) (e : x1 = v) (h1 : ¬ v.toInt < lo ∧ ¬ hi < v.toInt ∧ offs[(v.toInt - lo).toNat]? = some off) (ht : (pc : Int) + off = (n : Int)) (k : J x g cw nL dR QR n L st h E) : J x g cw nL dR QR pc L (.int x1 :: st) h E := by
  subst e
  obtain ⟨p, l, e, s, m, args, below, meth, c, A⟩ := x
  intro r hE H locs ls hP hD hS hL
  exact lv_tableIn C.1 C.2.1 d h1.1 h1.2.1 h1.2.2 ht (k r hE H locs ls hP hD hS hL)
theorem j_tabOut (C : Ok x g own cc nL ret) {dflt lo hi : Int} {offs : Array Int} {len : Nat} {x1 : Int32} (d : decode cc pc = .ok (.tableswitch dflt lo hi offs, len)) (h1 : x1.toInt < lo ∨ hi < x1.toInt) (ht : (pc : Int) + dflt = (n : Int)) (k : J x g cw nL dR QR n L st h E) : J x g cw nL dR QR pc L (.int x1 :: st) h E := by
  obtain ⟨p, l, e, s, m, args, below, meth, c, A⟩ := x
  intro r hE H locs ls hP hD hS hL
  exact lv_tableOut C.1 C.2.1 d h1 ht (k r hE H locs ls hP hD hS hL)
theorem j_iald (C : Ok x g own cc nL ret) (q0 : Nat) {a N : Nat} {f : Nat → Int32} {i : Int32} (ha : (cw g h)[q0]? = some (a, .inl (g.2.2.1 0, N, .inl f))) (d : decode cc pc = .ok (.iaload, 1)) (hn : pc + 1 = n) (k : J x g cw nL dR QR n L (.int (f i.toNatClampNeg) :: st) h E) : J x g cw nL dR QR pc L (.int i :: .ref a :: st) h (chk (inR i N) E) := by
  obtain ⟨p, l, e, s, m, args, below, meth, c, A⟩ := x
  subst hn
  intro r hE H locs ls hP hD hS hL
  obtain ⟨hz, hE⟩ := chk_some hE
  exact va_iald C.1 C.2.1 C.2.2.2.2.2.2.2.1 hP q0 0 ha rfl (inR_vp hz) d (k r hE H locs ls hP hD hS hL)
theorem j_ialdL (C : Ok x g own cc nL ret) (q0 : Nat) {a N j : Nat} {f : Nat → Int32} {i : Int32} (ha : (cw g h)[q0]? = some (a, .inl (g.2.2.1 0, N, .inl f))) (hz : inR i N = true ∧ i.toNatClampNeg = j) (d : decode cc pc = .ok (.iaload, 1)) (hn : pc + 1 = n) (k : J x g cw nL dR QR n L (.int (f j) :: st) h E) : J x g cw nL dR QR pc L (.int i :: .ref a :: st) h E := by
  obtain ⟨p, l, e, s, m, args, below, meth, c, A⟩ := x
  subst hn
  obtain ⟨hz, rfl⟩ := hz
  intro r hE H locs ls hP hD hS hL
  exact va_iald C.1 C.2.1 C.2.2.2.2.2.2.2.1 hP q0 0 ha rfl (inR_vp hz) d (k r hE H locs ls hP hD hS hL)
theorem j_bald (C : Ok x g own cc nL ret) (q0 : Nat) {a N : Nat} {f : Nat → Int32} {i : Int32} (ha : (cw g h)[q0]? = some (a, .inl (g.2.2.1 1, N, .inl f))) (d : decode cc pc = .ok (.baload, 1)) (hn : pc + 1 = n) (k : J x g cw nL dR QR n L (.int (f i.toNatClampNeg) :: st) h E) : J x g cw nL dR QR pc L (.int i :: .ref a :: st) h (chk (inR i N) E) := by
  obtain ⟨p, l, e, s, m, args, below, meth, c, A⟩ := x
  subst hn
  intro r hE H locs ls hP hD hS hL
  obtain ⟨hz, hE⟩ := chk_some hE
  exact va_bald C.1 C.2.1 C.2.2.2.2.2.2.2.1 hP q0 1 ha rfl (inR_vp hz) d (k r hE H locs ls hP hD hS hL)
theorem j_baldL (C : Ok x g own cc nL ret) (q0 : Nat) {a N j : Nat} {f : Nat → Int32} {i : Int32} (ha : (cw g h)[q0]? = some (a, .inl (g.2.2.1 1, N, .inl f))) (hz : inR i N = true ∧ i.toNatClampNeg = j) (d : decode cc pc = .ok (.baload, 1)) (hn : pc + 1 = n) (k : J x g cw nL dR QR n L (.int (f j) :: st) h E) : J x g cw nL dR QR pc L (.int i :: .ref a :: st) h E := by
  obtain ⟨p, l, e, s, m, args, below, meth, c, A⟩ := x
  subst hn
  obtain ⟨hz, rfl⟩ := hz
  intro r hE H locs ls hP hD hS hL
  exact va_bald C.1 C.2.1 C.2.2.2.2.2.2.2.1 hP q0 1 ha rfl (inR_vp hz) d (k r hE H locs ls hP hD hS hL)
theorem j_iast (C : Ok x g own cc nL ret) (q0 : Nat) {a N : Nat} {f : Nat → Int32} {i v : Int32} (ha : (cw g h)[q0]? = some (a, .inl (g.2.2.1 0, N, .inl f))) (hs : (cw g h).set q0 (a, .inl (g.2.2.1 0, N, .inl (upd f i.toNatClampNeg v))) = cw g (up h q0 i.toNatClampNeg v)) (d : decode cc pc = .ok (.iastore, 1)) (hn : pc + 1 = n) (k : J x g cw nL dR QR n L st (up h q0 i.toNatClampNeg v) E) : J x g cw nL dR QR pc L (.int v :: .int i :: .ref a :: st) h (chk (inR i N) E) := by
  obtain ⟨p, l, e, s, m, args, below, meth, c, A⟩ := x
  subst hn
  intro r hE H locs ls hP hD hS hL
  obtain ⟨hz, hE⟩ := chk_some hE
  refine va_iast C.1 C.2.1 C.2.2.2.2.2.2.2.1 hP hD hS q0 0 ha rfl (inR_vp hz) d (fun H1 locs1 hP1 hD1 hS1 => ?_)
  rw [hs] at hP1 hD1
  exact k r hE H1 locs1 ls hP1 hD1 hS1 hL
theorem j_iastL (C : Ok x g own cc nL ret) (q0 : Nat) {a N j : Nat} {f : Nat → Int32} {i v : Int32} (ha : (cw g h)[q0]? = some (a, .inl (g.2.2.1 0, N, .inl f))) (hs : (cw g h).set q0 (a, .inl (g.2.2.1 0, N, .inl (upd f j v))) = cw g (up h q0 j v)) (hz : inR i N = true ∧ i.toNatClampNeg = j) (d : decode cc pc = .ok (.iastore, 1)) (hn : pc + 1 = n) (k : J x g cw nL dR QR n L st (up h q0 j v) E) : J x g cw nL dR QR pc L (.int v :: .int i :: .ref a :: st) h (E) := by
  obtain ⟨p, l, e, s, m, args, below, meth, c, A⟩ := x
  subst hn
  obtain ⟨hz, rfl⟩ := hz
  intro r hE H locs ls hP hD hS hL
  refine va_iast C.1 C.2.1 C.2.2.2.2.2.2.2.1 hP hD hS q0 0 ha rfl (inR_vp hz) d (fun H1 locs1 hP1 hD1 hS1 => ?_)
  rw [hs] at hP1 hD1
  exact k r hE H1 locs1 ls hP1 hD1 hS1 hL
theorem j_bast (C : Ok x g own cc nL ret) (q0 : Nat) {a N : Nat} {f : Nat → Int32} {i v : Int32} (ha : (cw g h)[q0]? = some (a, .inl (g.2.2.1 1, N, .inl f))) (hs : (cw g h).set q0 (a, .inl (g.2.2.1 1, N, .inl (upd f i.toNatClampNeg (vp_nar .byte v)))) = cw g (up h q0 i.toNatClampNeg (vp_nar .byte v))) (d : decode cc pc = .ok (.bastore, 1)) (hn : pc + 1 = n) (k : J x g cw nL dR QR n L st (up h q0 i.toNatClampNeg (vp_nar .byte v)) E) : J x g cw nL dR QR pc L (.int v :: .int i :: .ref a :: st) h (chk (inR i N) E) := by
  obtain ⟨p, l, e, s, m, args, below, meth, c, A⟩ := x
  subst hn
  intro r hE H locs ls hP hD hS hL
  obtain ⟨hz, hE⟩ := chk_some hE
  refine va_bast C.1 C.2.1 C.2.2.2.2.2.2.2.1 hP hD hS q0 1 ha rfl (inR_vp hz) d (fun H1 locs1 hP1 hD1 hS1 => ?_)
  rw [hs] at hP1 hD1
  exact k r hE H1 locs1 ls hP1 hD1 hS1 hL
theorem j_bastL (C : Ok x g own cc nL ret) (q0 : Nat) {a N j : Nat} {f : Nat → Int32} {i v : Int32} (ha : (cw g h)[q0]? = some (a, .inl (g.2.2.1 1, N, .inl f))) (hs : (cw g h).set q0 (a, .inl (g.2.2.1 1, N, .inl (upd f j (vp_nar .byte v)))) = cw g (up h q0 j (vp_nar .byte v))) (hz : inR i N = true ∧ i.toNatClampNeg = j) (d : decode cc pc = .ok (.bastore, 1)) (hn : pc + 1 = n) (k : J x g cw nL dR QR n L st (up h q0 j (vp_nar .byte v)) E) : J x g cw nL dR QR pc L (.int v :: .int i :: .ref a :: st) h (E) := by
  obtain ⟨p, l, e, s, m, args, below, meth, c, A⟩ := x
  subst hn
  obtain ⟨hz, rfl⟩ := hz
  intro r hE H locs ls hP hD hS hL
  refine va_bast C.1 C.2.1 C.2.2.2.2.2.2.2.1 hP hD hS q0 1 ha rfl (inR_vp hz) d (fun H1 locs1 hP1 hD1 hS1 => ?_)
  rw [hs] at hP1 hD1
  exact k r hE H1 locs1 ls hP1 hD1 hS1 hL
theorem j_alen (C : Ok x g own cc nL ret) (q0 t0 : Nat) {a : Nat} {cA : ClassId} {y : vp_A} {ty : FieldType} (ha : (cw g h)[q0]? = some (a, .inl (cA, y))) (ht : (tyG g)[t0]? = some (cA, ty)) {v : Int32} (hv : Int32.ofNat y.1 = v) (d : decode cc pc = .ok (.arraylength, 1)) (hn : pc + 1 = n) (k : J x g cw nL dR QR n L (.int v :: st) h E) : J x g cw nL dR QR pc L (.ref a :: st) h E := by
  obtain ⟨p, l, e, s, m, args, below, meth, c, A⟩ := x
  subst hn
  intro r hE H locs ls hP hD hS hL
  exact va_alen C.1 C.2.1 C.2.2.2.2.2.2.2.1 hP q0 t0 ha ht hv d (k r hE H locs ls hP hD hS hL)
theorem j_aald (C : Ok x g own cc nL ret) (q0 t0 : Nat) {a N b : Nat} {cA : ClassId} {Cn : String} {f : Nat → Option Nat} {i : Int32} (ha : (cw g h)[q0]? = some (a, .inl (cA, N, .inr (.inr (.inr (.inr f)))))) (ht : (tyG g)[t0]? = some (cA, .object Cn)) (hz : inR i N = true) (hb : f i.toNatClampNeg = some b) (d : decode cc pc = .ok (.aaload, 1)) (hn : pc + 1 = n) (k : J x g cw nL dR QR n L (.ref b :: st) h E) : J x g cw nL dR QR pc L (.int i :: .ref a :: st) h E := by
  obtain ⟨p, l, e, s, m, args, below, meth, c, A⟩ := x
  subst hn
  intro r hE H locs ls hP hD hS hL
  refine va_aldq C.1 C.2.1 C.2.2.2.2.2.2.2.1 hP q0 t0 ha ht (inR_vp hz) d ?_
  rw [hb]
  exact (k r hE H locs ls hP hD hS hL)
theorem j_get (C : Ok x g own cc nL ret) (q0 : Nat) {a ci i : Nat} {fs : List Value} (he : (cw g h)[q0]? = some (a, .inr (ci, fs))) {Cn : String} {T : u_T} {N : Nat} (hc : vwCl[ci]? = some (Cn, T, N)) (hin : ∀ w ∈ u_ws Cn T N, w ∈ gT) (j : Nat) (hj : j < N) (hl : Cond.fieldLink own i (T j).1 (T j).2.1 (T j).2.2.1 ∈ gT) {v : Value} (hv : fs[j]? = some v) (d : decode cc pc = .ok (.getfield i, 3)) (hn : pc + 3 = n) (k : J x g cw nL dR QR n L (v :: st) h E) : J x g cw nL dR QR pc L (.ref a :: st) h E := by
  obtain ⟨p, l, e, s, m, args, below, meth, c, A⟩ := x
  subst hn
  intro r hE H locs ls hP hD hS hL
  exact va_get C.1 C.2.1 C.2.2.2.2.2.1 hin C.2.2.2.2.1 C.2.2.2.2.2.2.2.1 hP q0 he hc j hj (C.2.2.2.2.2.1 _ hl) (fun _ h9 => h9) hv d (k r hE H locs ls hP hD hS hL)
theorem j_put (C : Ok x g own cc nL ret) (q0 : Nat) {a ci i : Nat} {fs : List Value} {v : Int32} (he : (cw g h)[q0]? = some (a, .inr (ci, fs))) {Cn : String} {T : u_T} {N : Nat} (hc : vwCl[ci]? = some (Cn, T, N)) (hin : ∀ w ∈ u_ws Cn T N, w ∈ gT) (ty0 : Nat → FieldType) (hty : ∀ k, k < N → parseFieldDescriptor (T k).2.2.1 = some (ty0 k)) (hnm : ∀ a, a < N → ∀ b, b < N → a ≠ b → (T a).2.1 ≠ (T b).2.1) (j : Nat) (hj : j < N) (hl : Cond.fieldLink own i (T j).1 (T j).2.1 (T j).2.2.1 ∈ gT) (hfin : (T j).2.2.2 = false) {ty : FieldType} (hd : parseFieldDescriptor (T j).2.2.1 = some ty) (hw : narrow ty (.int v) = .int v ∧ fits ty (.int v) = true) (hlt : j < fs.length) (hs : (cw g h).set q0 (a, .inr (ci, fs.set j (.int v))) = cw g (up h q0 j v)) (d : decode cc pc = .ok (.putfield i, 3)) (hn : pc + 3 = n) (k : J x g cw nL dR QR n L st (up h q0 j v) E) : J x g cw nL dR QR pc L (.int v :: .ref a :: st) h E := by
  obtain ⟨p, l, e, s, m, args, below, meth, c, A⟩ := x
  subst hn
  intro r hE H locs ls hP hD hS hL
  refine va_put C.1 C.2.1 C.2.2.2.2.2.1 hin ty0 hty hnm C.2.2.2.2.1 C.2.2.2.2.2.2.2.1 hP hD hS q0 he hc j hj (C.2.2.2.2.2.1 _ hl) (fun _ h9 => h9) hfin hd hw.1 hw.2 hlt d (fun H1 locs1 hP1 hD1 hS1 => ?_)
  rw [hs] at hP1 hD1
  exact k r hE H1 locs1 ls hP1 hD1 hS1 hL
theorem j_gets (C : Ok x g own cc nL ret) {Cn nm ds : String} {i : Nat} {v : Value} (hZ : ∀ (A : Nat → Prop) (U : State) (H : Heap), SX g A U H → va_Z Cn nm ds v A U H) (hl : Cond.fieldLink own i Cn nm ds ∈ gT) (d : decode cc pc = .ok (.getstatic i, 3)) (hn : pc + 3 = n) (k : J x g cw nL dR QR n L (v :: st) h E) : J x g cw nL dR QR pc L st h E := by
  obtain ⟨p, l, e, s, m, args, below, meth, c, A⟩ := x
  subst hn
  intro r hE H locs ls hP hD hS hL
  exact va_gets C.1 C.2.1 (hZ _ _ _ C.2.2.2.2.2.2.2.2.2) hS C.2.2.2.2.1 (C.2.2.2.2.2.1 _ hl) (fun _ h9 => h9) d (k r hE H locs ls hP hD hS hL)
theorem j_ti (C : Ok x g own cc nL ret) {t N : Nat} {f : Nat → Int32} {i : Int32} (hT : ∀ (A : Nat → Prop) (U : State) (H : Heap), SX g A U H → va_T .int t N (fun j => .int (f j)) A U H) (d : decode cc pc = .ok (.iaload, 1)) (hn : pc + 1 = n) (k : J x g cw nL dR QR n L (.int (f i.toNatClampNeg) :: st) h E) : J x g cw nL dR QR pc L (.int i :: .ref t :: st) h (chk (inR i N) E) := by
  obtain ⟨p, l, e, s, m, args, below, meth, c, A⟩ := x
  subst hn
  intro r hE H locs ls hP hD hS hL
  obtain ⟨hz, hE⟩ := chk_some hE
  exact va_ti C.1 C.2.1 (hT _ _ _ C.2.2.2.2.2.2.2.2.2) hS (inR_vp hz) rfl d (k r hE H locs ls hP hD hS hL)
theorem j_tiL (C : Ok x g own cc nL ret) {t N j : Nat} {f : Nat → Int32} {i : Int32} (hT : ∀ (A : Nat → Prop) (U : State) (H : Heap), SX g A U H → va_T .int t N (fun j => .int (f j)) A U H) (hz : inR i N = true ∧ i.toNatClampNeg = j) (d : decode cc pc = .ok (.iaload, 1)) (hn : pc + 1 = n) (k : J x g cw nL dR QR n L (.int (f j) :: st) h E) : J x g cw nL dR QR pc L (.int i :: .ref t :: st) h E := by
  obtain ⟨p, l, e, s, m, args, below, meth, c, A⟩ := x
  subst hn
  obtain ⟨hz, rfl⟩ := hz
  intro r hE H locs ls hP hD hS hL
  exact va_ti C.1 C.2.1 (hT _ _ _ C.2.2.2.2.2.2.2.2.2) hS (inR_vp hz) rfl d (k r hE H locs ls hP hD hS hL)
theorem j_tlen (C : Ok x g own cc nL ret) {t N : Nat} {f : Nat → Int32} (hT : ∀ (A : Nat → Prop) (U : State) (H : Heap), SX g A U H → va_T .int t N (fun j => .int (f j)) A U H) {v : Int32} (hv : Int32.ofNat N = v) (d : decode cc pc = .ok (.arraylength, 1)) (hn : pc + 1 = n) (k : J x g cw nL dR QR n L (.int v :: st) h E) : J x g cw nL dR QR pc L (.ref t :: st) h E := by
  obtain ⟨p, l, e, s, m, args, below, meth, c, A⟩ := x
  subst hn
  intro r hE H locs ls hP hD hS hL
  exact va_tlen C.1 C.2.1 (hT _ _ _ C.2.2.2.2.2.2.2.2.2) hS hv d (k r hE H locs ls hP hD hS hL)
theorem j_null (C : Ok x g own cc nL ret) (d : decode cc pc = .ok (.aconst_null, 1)) (hn : pc + 1 = n) (k : J x g cw nL dR QR n L (.null :: st) h E) : J x g cw nL dR QR pc L st h E := by
  obtain ⟨p, l, e, s, m, args, below, meth, c, A⟩ := x
  subst hn
  intro r hE H locs ls hP hD hS hL
  exact lv_null C.1 C.2.1 d (k r hE H locs ls hP hD hS hL)
theorem j_ifnull (C : Ok x g own cc nL ret) {a : Nat} {off : Int} (d : decode cc pc = .ok (.ifnull off, 3)) (hn : pc + 3 = n) (k : J x g cw nL dR QR n L st h E) : J x g cw nL dR QR pc L (.ref a :: st) h E := by
  obtain ⟨p, l, e, s, m, args, below, meth, c, A⟩ := x
  subst hn
  intro r hE H locs ls hP hD hS hL
  exact lv_ifnull C.1 C.2.1 d (k r hE H locs ls hP hD hS hL)
theorem j_ifnullN (C : Ok x g own cc nL ret) {off : Int} (d : decode cc pc = .ok (.ifnull off, 3)) (ht : (pc : Int) + off = (n : Int)) (k : J x g cw nL dR QR n L st h E) : J x g cw nL dR QR pc L (.null :: st) h E := by
  obtain ⟨p, l, e, s, m, args, below, meth, c, A⟩ := x
  intro r hE H locs ls hP hD hS hL
  exact lv_ifnullN C.1 C.2.1 d ht (k r hE H locs ls hP hD hS hL)
theorem j_ifnonnull (C : Ok x g own cc nL ret) {a : Nat} {off : Int} (d : decode cc pc = .ok (.ifnonnull off, 3)) (ht : (pc : Int) + off = (n : Int)) (k : J x g cw nL dR QR n L st h E) : J x g cw nL dR QR pc L (.ref a :: st) h E := by
  obtain ⟨p, l, e, s, m, args, below, meth, c, A⟩ := x
  intro r hE H locs ls hP hD hS hL
  exact lv_ifnonnull C.1 C.2.1 d ht (k r hE H locs ls hP hD hS hL)
theorem j_ifnonnullN (C : Ok x g own cc nL ret) {off : Int} (d : decode cc pc = .ok (.ifnonnull off, 3)) (hn : pc + 3 = n) (k : J x g cw nL dR QR n L st h E) : J x g cw nL dR QR pc L (.null :: st) h E := by
  obtain ⟨p, l, e, s, m, args, below, meth, c, A⟩ := x
  subst hn
  intro r hE H locs ls hP hD hS hL
  exact lv_ifnonnullN C.1 C.2.1 d (k r hE H locs ls hP hD hS hL)
end JRows
end
section
def revA : List Value → List Value → List Value
  | [], s => s
  | a :: t, s => revA t (a :: s)
theorem revA_eq : ∀ (a s : List Value), revA a s = a.reverse ++ s := by
  intro a
  induction a with
  | nil => intro s; rfl
  | cons b t ih => intro s; show revA t (b :: s) = _; rw [ih]; simp
theorem ct_of {ρ : Type} {l : Launch} {y : MethodName} {cc : ByteArray} {nL d : Nat} {ret : Option FieldType} {cw : Gl → Hp → va_W} {av : Gl → List Value} {h : Hp} {QR : ρ → QT} {E : Option ρ} {r : ρ} (hy : plainName y.cls = true) (hav : ∀ g, (∀ v ∈ av g, v.category = 1) ∧ (lg_sl (av g)).length ≤ nL) (hE : E = some r)
    (hJ : ∀ (x : Fx) (g : Gl), x.2.1 = l → Ok x g y.cls cc nL ret → J x g cw nL d QR 0 ((av g).map some) [] h E) : CT l y cc nL ret d cw av h (QR r) := by
  intro g sz
  refine Met.ofW (cc := cc) (maxL := nL) (ret := ret) hy rfl ?_
  intro p e s m args below meth c s₁ B hml hv
  obtain ⟨rfl, hsz, hP, hK, hD0, hX⟩ := hv
  have hts := atoms_spec (ws := Cond.code y cc nL ret :: gT) B.pre
  have hown : s.vm.findClass y.cls = some m.cls := findClass_of_methodNamed B.named
  subst hsz
  have hD := hD0.self (sz := s.heap.size)
  rw [lg_entry_eq]
  exact hJ (p, l, e, s, m, (av g).toArray, below, meth, c, va_A (cw g h) s.heap.size) g rfl ⟨B.exec, B.bytes, hml, B.returns, hown, fun w hw => hts w (List.mem_cons_of_mem _ hw), B.notSynchronized, hK, fun q hq => Or.inr hq, hX⟩ r hE s.heap [] _ hP hD va_S.rf (hasL_entry (av g) (hav g).1 (hav g).2)
def RunX (x : Fx) (g : Gl) (cw : Gl → Hp → va_W) (dR pc : Nat) (stk st : List Value) (Q : QT) (h : Hp) (H : Heap) (locs : List Loc) (ls : Array Slot) : Prop := match x with
  | (p, l, e, s, m, args, below, meth, c, _) => ∃ a, va_Run p l e (rmd dR) s m args below meth c H locs 0 0 0 0 (F0 m pc ls stk) st (Q g (va_A (cw g h) H.size) a) (va_A (cw g h) H.size)
def RunA (x : Fx) (g : Gl) (cw : Gl → Hp → va_W) (nL dR pc : Nat) (stk st : List Value) (Q : QT) (h : Hp) : Prop := ∀ (H : Heap) (locs : List Loc) (ls : Array Slot), va_P g.1 vwCl (cw g h) H → va_D x.2.2.2.2.2.2.2.2.2 (cw g h) → va_S x.2.2.2.2.2.2.2.2.2 x.2.2.2.1.heap H locs → ls.size = nL → RunX x g cw dR pc stk st Q h H locs ls
section JCalls
variable {ρ : Type} {x : Fx} {g : Gl} {cw : Gl → Hp → va_W} {nL dR : Nat} {QR : ρ → QT} {own : String} {cc : ByteArray} {ret : Option FieldType} {pc n : Nat} {L : List (Option Value)} {stk st : List Value} {h : Hp} {E : Option ρ}
variable {y : MethodName} {c1 : ByteArray} {n1 nA d i : Nat} {r1 : Option FieldType} {av : Gl → List Value} {As : List Value} {Q : QT}
theorem run_S (C : Ok x g own cc nL ret) (mi : MI y c1 n1 r1 nA) (hl : Cond.methodLink own i y ∈ gT) (hst : Cond.static y ∈ gT) (hd : d < dR ∧ n1 ≤ 40) (hM : CT x.2.1 y c1 n1 r1 d cw av h Q) (hav : av g = As) (hA : As.length = nA) (hk : stk = revA As st) (hw : (st.map fun v => v.category).sum ≤ 8) (dd : decode cc pc = .ok (.invokestatic i, 3)) : RunA x g cw nL dR pc stk st Q h := by
  obtain ⟨p, l, e, s, m, args, below, meth, c, A⟩ := x
  intro H locs ls hP hD hS hL
  have hts := C.2.2.2.2.2.1
  have hFc := A_in hD hS C.2.2.2.2.2.2.2.2.1
  refine ⟨_, va_runS (As := As) (rest := st) (Ts := gT) (own := own) (nL := nL) ⟨C.1, C.2.1, C.2.2.1, C.2.2.2.2.1, hts⟩ (hM g H.size) ⟨callB_of nA hts (gT_code mi.1) rfl rfl rfl (hts _ mi.2.1) (hts _ hl) mi.2.2 ⟨?_, ?_⟩, hts _ hst⟩ ⟨PreX.blind, fun U hU hW => ⟨by rw [hav], by rw [hU], by rw [hU]; exact hP, va_K.moved hW.alike C.2.2.2.2.2.2.2.1, hD.weaken (fun _ _ _ _ => trivial), SX.go C.2.2.2.2.2.2.2.2.2 hS hW hU hFc⟩⟩ rfl hA hL (hk.trans (revA_eq As st)) (lv_room hw) dd ⟨Nat.le_refl 0, Nat.le_refl 0⟩⟩
  · show d + 1 ≤ dR; omega
  · show 8 + (n1 + 11) + 64 * d ≤ 64 * dR; omega
theorem run_SN (C : Ok x g own cc nL ret) (mi : MI y c1 n1 r1 nA) {host : String} (hl : (own, i, y, host) ∈ neR) (hst : Cond.static y ∈ gT) (hd : d < dR ∧ n1 ≤ 40) (hM : CT x.2.1 y c1 n1 r1 d cw av h Q) (hav : av g = As) (hA : As.length = nA) (hk : stk = revA As st) (hw : (st.map fun v => v.category).sum ≤ 8) (dd : decode cc pc = .ok (.invokestatic i, 3)) : RunA x g cw nL dR pc stk st Q h := by
  obtain ⟨p, l, e, s, m, args, below, meth, c, A⟩ := x
  intro H locs ls hP hD hS hL
  have hts := C.2.2.2.2.2.1
  have hFc := A_in hD hS C.2.2.2.2.2.2.2.2.1
  have hne := (C.2.2.2.2.2.2.2.2.2 : SX _ _ _ _).2.2.2.2.2.2 _ hl
  refine ⟨_, va_runSN (As := As) (rest := st) (Ts := gT) (own := own) (nL := nL) (host := host) ⟨C.1, C.2.1, C.2.2.1, C.2.2.2.2.1, hts⟩ (hM g H.size) ⟨va_cnB nA hts (gT_code mi.1) rfl rfl rfl hne (hts _ mi.2.1) mi.2.2 ⟨?_, ?_⟩, hts _ hst, trivial⟩ ⟨PreX.blind, fun U hU hW => ⟨by rw [hav], by rw [hU], by rw [hU]; exact hP, va_K.moved hW.alike C.2.2.2.2.2.2.2.1, hD.weaken (fun _ _ _ _ => trivial), SX.go C.2.2.2.2.2.2.2.2.2 hS hW hU hFc⟩⟩ rfl hA hL (hk.trans (revA_eq As st)) (lv_room hw) dd ⟨Nat.le_refl 0, Nat.le_refl 0⟩⟩
  · show d + 1 ≤ dR; omega
  · show 8 + (n1 + 11) + 64 * d ≤ 64 * dR; omega
theorem run_V (C : Ok x g own cc nL ret) (mi : MI y c1 n1 r1 nA) (hl : Cond.methodLink own i y ∈ gT) {Cn : String} (hst : Cond.instanceMethod y ∈ gT ∧ Cond.selects Cn y y ∈ gT) (hd : d < dR ∧ n1 ≤ 40) (hM : CT x.2.1 y c1 n1 r1 d cw av h Q) {b q0 ci : Nat} {fs : List Value} {T : u_T} {N : Nat} (he : (cw g h)[q0]? = some (b, .inr (ci, fs))) (hc : vwCl[ci]? = some (Cn, T, N)) (hav : av g = .ref b :: As) (hA : As.length = nA) (hk : stk = revA As (.ref b :: st)) (hw : (st.map fun v => v.category).sum ≤ 8) (dd : decode cc pc = .ok (.invokevirtual i, 3)) : RunA x g cw nL dR pc stk st Q h := by
  obtain ⟨p, l, e, s, m, args, below, meth, c, A⟩ := x
  intro H locs ls hP hD hS hL
  have hts := C.2.2.2.2.2.1
  have hFc := A_in hD hS C.2.2.2.2.2.2.2.2.1
  refine ⟨_, va_runV (C := Cn) (b := b) (As := As) (rest := st) (Ts := gT) (own := own) (nL := nL) ⟨C.1, C.2.1, C.2.2.1, C.2.2.2.2.1, hts⟩ (hM g H.size) ⟨callB_of nA hts (gT_code mi.1) rfl rfl rfl (hts _ mi.2.1) (hts _ hl) mi.2.2 ⟨?_, ?_⟩, hts _ hst.1, hts _ hst.2⟩ ⟨PreX.blind, va_recv C.2.2.2.2.2.2.2.1 hP hc he, fun U hU hW => ⟨by rw [hav], by rw [hU], by rw [hU]; exact hP, va_K.moved hW.alike C.2.2.2.2.2.2.2.1, hD.weaken (fun _ _ _ _ => trivial), SX.go C.2.2.2.2.2.2.2.2.2 hS hW hU hFc⟩⟩ rfl hA hL (hk.trans (revA_eq As _)) (lv_room hw) dd ⟨Nat.le_refl 0, Nat.le_refl 0⟩⟩
  · show d + 1 ≤ dR; omega
  · show 8 + (n1 + 11) + 64 * d ≤ 64 * dR; omega

theorem j_ci (C : Ok x g own cc nL ret) {v : Int32} {u : Hp} (run : RunA x g cw nL dR pc stk st (qI cw v u) h) (hn : pc + 3 = n) (k : J x g cw nL dR QR n L (.int v :: st) u E) : J x g cw nL dR QR pc L stk h E := by
  obtain ⟨p, l, e, s, m, args, below, meth, c, A⟩ := x
  subst hn
  intro r hE H locs ls hP hD hS hL
  have hFc := A_in hD hS C.2.2.2.2.2.2.2.2.1
  obtain ⟨a, hr⟩ := run H locs ls hP hD hS hL.1
  refine va_calli hr hS (fun q _ h => hFc q h) hFc (fun v1 u1 t H1 locs1 ht hvm hw hB hz1 hk1 hS1 => ?_)
  obtain ⟨rfl, rfl⟩ := hw
  obtain ⟨hP1, hK1, hD1⟩ := hB
  rw [ht] at hP1
  exact k r hE H1 locs1 ls hP1 (hD1.weaken (fun k q _ h => hFc q.1 h)) hS1 hL
theorem j_cz (C : Ok x g own cc nL ret) {v : Int32} {u : Hp} (run : RunA x g cw nL dR pc stk st (qZ cw v u) h) (hn : pc + 3 = n) (k : (v = 0 ∨ v = 1) → J x g cw nL dR QR n L (.int v :: st) u E) : J x g cw nL dR QR pc L stk h E := by
  obtain ⟨p, l, e, s, m, args, below, meth, c, A⟩ := x
  subst hn
  intro r hE H locs ls hP hD hS hL
  have hFc := A_in hD hS C.2.2.2.2.2.2.2.2.1
  obtain ⟨a, hr⟩ := run H locs ls hP hD hS hL.1
  refine va_calli hr hS (fun q _ h => hFc q h) hFc (fun v1 u1 t H1 locs1 ht hvm hw hB hz1 hk1 hS1 => ?_)
  obtain ⟨rfl, rfl, hz⟩ := hw
  obtain ⟨hP1, hK1, hD1⟩ := hB
  rw [ht] at hP1
  exact k hz r hE H1 locs1 ls hP1 (hD1.weaken (fun k q _ h => hFc q.1 h)) hS1 hL
theorem j_cv (C : Ok x g own cc nL ret) {u : Hp} (run : RunA x g cw nL dR pc stk st (qV cw u) h) (hn : pc + 3 = n) (k : J x g cw nL dR QR n L (st) u E) : J x g cw nL dR QR pc L stk h E := by
  obtain ⟨p, l, e, s, m, args, below, meth, c, A⟩ := x
  subst hn
  intro r hE H locs ls hP hD hS hL
  have hFc := A_in hD hS C.2.2.2.2.2.2.2.2.1
  obtain ⟨a, hr⟩ := run H locs ls hP hD hS hL.1
  refine va_callv hr hS (fun q _ h => hFc q h) hFc (fun u1 t H1 locs1 ht hvm hw hB hz1 hk1 hS1 => ?_)
  obtain rfl := hw
  obtain ⟨hP1, hK1, hD1⟩ := hB
  rw [ht] at hP1
  exact k r hE H1 locs1 ls hP1 (hD1.weaken (fun k q _ h => hFc q.1 h)) hS1 hL
theorem j_cq (C : Ok x g own cc nL ret) {b : Nat} {u : Hp} (run : RunA x g cw nL dR pc stk st (qR cw (fun g => some (g.2.1 b)) u) h) (hn : pc + 3 = n) (k : J x g cw nL dR QR n L (rf g b :: st) u E) : J x g cw nL dR QR pc L stk h E := by
  obtain ⟨p, l, e, s, m, args, below, meth, c, A⟩ := x
  subst hn
  intro r hE H locs ls hP hD hS hL
  have hFc := A_in hD hS C.2.2.2.2.2.2.2.2.1
  obtain ⟨a, hr⟩ := run H locs ls hP hD hS hL.1
  refine va_callq hr hS (fun q _ h => hFc q h) hFc (fun v1 u1 t H1 locs1 ht hvm hw hB hz1 hk1 hS1 => ?_)
  obtain ⟨rfl, rfl⟩ := hw
  obtain ⟨hP1, hK1, hD1⟩ := hB
  rw [ht] at hP1
  exact k r hE H1 locs1 ls hP1 (hD1.weaken (fun k q _ h => hFc q.1 h)) hS1 hL
theorem j_cqN (C : Ok x g own cc nL ret) {u : Hp} (run : RunA x g cw nL dR pc stk st (qR cw (fun _ => none) u) h) (hn : pc + 3 = n) (k : J x g cw nL dR QR n L (.null :: st) u E) : J x g cw nL dR QR pc L stk h E := by
  obtain ⟨p, l, e, s, m, args, below, meth, c, A⟩ := x
  subst hn
  intro r hE H locs ls hP hD hS hL
  have hFc := A_in hD hS C.2.2.2.2.2.2.2.2.1
  obtain ⟨a, hr⟩ := run H locs ls hP hD hS hL.1
  refine va_callq hr hS (fun q _ h => hFc q h) hFc (fun v1 u1 t H1 locs1 ht hvm hw hB hz1 hk1 hS1 => ?_)
  obtain ⟨rfl, rfl⟩ := hw
  obtain ⟨hP1, hK1, hD1⟩ := hB
  rw [ht] at hP1
  exact k r hE H1 locs1 ls hP1 (hD1.weaken (fun k q _ h => hFc q.1 h)) hS1 hL
theorem j_bnd {α : Type} {X : Option α} {k : α → Option ρ} (kk : ∀ a, X = some a → J x g cw nL dR QR pc L stk h (k a)) : J x g cw nL dR QR pc L stk h (bnd X k) := by
  cases X with
  | some a => exact kk a rfl
  | none => exact j_none
end JCalls
section JRet
variable {x : Fx} {g : Gl} {cw : Gl → Hp → va_W} {nL dR : Nat} {own : String} {cc : ByteArray} {pc : Nat} {L : List (Option Value)} {h : Hp}

theorem j_ret (C : Ok x g own cc nL (some .int)) {v : Int32} (d : decode cc pc = .ok (.ireturn, 1)) : J x g cw nL dR (fun r : Int32 => qI cw r h) pc L [.int v] h (some v) := by
  obtain ⟨p, l, e, s, m, args, below, meth, c, A⟩ := x
  intro r hE H locs ls hP hD hS hL
  injection hE with hE
  subst hE
  refine W.iret C.1 C.2.1 C.2.2.2.1 (fun t ht hW => ⟨⟨_, _, rfl, ⟨rfl, rfl⟩, ⟨by rw [ht]; exact hP, va_K.moved hW.alike C.2.2.2.2.2.2.2.1, hD⟩⟩, hS.F ht⟩) hS.2.2 d C.2.2.2.2.2.2.1
theorem j_retP (C : Ok x g own cc nL (some .int)) {v : Int32} (d : decode cc pc = .ok (.ireturn, 1)) : J x g cw nL dR (fun r : Int32 × Hp => qI cw r.1 r.2) pc L [.int v] h (some (v, h)) := by
  obtain ⟨p, l, e, s, m, args, below, meth, c, A⟩ := x
  intro r hE H locs ls hP hD hS hL
  injection hE with hE
  subst hE
  refine W.iret C.1 C.2.1 C.2.2.2.1 (fun t ht hW => ⟨⟨_, _, rfl, ⟨rfl, rfl⟩, ⟨by rw [ht]; exact hP, va_K.moved hW.alike C.2.2.2.2.2.2.2.1, hD⟩⟩, hS.F ht⟩) hS.2.2 d C.2.2.2.2.2.2.1
theorem j_retZ (C : Ok x g own cc nL (some .boolean)) {v : Int32} (hz : v = 0 ∨ v = 1) (d : decode cc pc = .ok (.ireturn, 1)) : J x g cw nL dR (fun r : Int32 => qZ cw r h) pc L [.int v] h (some v) := by
  obtain ⟨p, l, e, s, m, args, below, meth, c, A⟩ := x
  intro r hE H locs ls hP hD hS hL
  injection hE with hE
  subst hE
  refine W.zret C.1 C.2.1 C.2.2.2.1 (by rcases hz with q | q <;> subst q <;> rfl) (fun t ht hW => ⟨⟨_, _, rfl, ⟨rfl, rfl, hz⟩, ⟨by rw [ht]; exact hP, va_K.moved hW.alike C.2.2.2.2.2.2.2.1, hD⟩⟩, hS.F ht⟩) hS.2.2 d C.2.2.2.2.2.2.1
theorem j_retZP (C : Ok x g own cc nL (some .boolean)) {v : Int32} (hz : v = 0 ∨ v = 1) (d : decode cc pc = .ok (.ireturn, 1)) : J x g cw nL dR (fun r : Int32 × Hp => qZ cw r.1 r.2) pc L [.int v] h (some (v, h)) := by
  obtain ⟨p, l, e, s, m, args, below, meth, c, A⟩ := x
  intro r hE H locs ls hP hD hS hL
  injection hE with hE
  subst hE
  refine W.zret C.1 C.2.1 C.2.2.2.1 (by rcases hz with q | q <;> subst q <;> rfl) (fun t ht hW => ⟨⟨_, _, rfl, ⟨rfl, rfl, hz⟩, ⟨by rw [ht]; exact hP, va_K.moved hW.alike C.2.2.2.2.2.2.2.1, hD⟩⟩, hS.F ht⟩) hS.2.2 d C.2.2.2.2.2.2.1
theorem j_retV (C : Ok x g own cc nL none) (d : decode cc pc = .ok (.return_, 1)) : J x g cw nL dR (fun r : Hp => qV cw r) pc L [] h (some h) := by
  obtain ⟨p, l, e, s, m, args, below, meth, c, A⟩ := x
  intro r hE H locs ls hP hD hS hL
  injection hE with hE
  subst hE
  exact W.vret C.1 C.2.1 C.2.2.2.1 (fun t ht hW => ⟨⟨_, rfl, rfl, ⟨by rw [ht]; exact hP, va_K.moved hW.alike C.2.2.2.2.2.2.2.1, hD⟩⟩, hS.F ht⟩) hS.2.2 d C.2.2.2.2.2.2.1
theorem j_retA {rt : FieldType} (C : Ok x g own cc nL (some rt)) (hrt : (∃ n, rt = .object n) ∨ ∃ t, rt = .array t) {b : Nat} (d : decode cc pc = .ok (.areturn, 1)) {QR : Unit → QT} (hQ : QR = fun _ => qR cw (fun g => some (g.2.1 b)) h) : J x g cw nL dR QR pc L [rf g b] h (some ()) := by
  obtain ⟨p, l, e, s, m, args, below, meth, c, A⟩ := x
  subst hQ
  intro r hE H locs ls hP hD hS hL
  exact W.aret C.1 C.2.1 C.2.2.2.1 hrt (Or.inr ⟨_, rfl⟩) (fun t ht hW => ⟨⟨_, _, rfl, ⟨rfl, rfl⟩, ⟨by rw [ht]; exact hP, va_K.moved hW.alike C.2.2.2.2.2.2.2.1, hD⟩⟩, hS.F ht⟩) hS.2.2 d C.2.2.2.2.2.2.1
theorem j_retN {rt : FieldType} (C : Ok x g own cc nL (some rt)) (hrt : (∃ n, rt = .object n) ∨ ∃ t, rt = .array t) (d : decode cc pc = .ok (.areturn, 1)) {QR : Unit → QT} (hQ : QR = fun _ => qR cw (fun _ => none) h) : J x g cw nL dR QR pc L [.null] h (some ()) := by
  obtain ⟨p, l, e, s, m, args, below, meth, c, A⟩ := x
  subst hQ
  intro r hE H locs ls hP hD hS hL
  exact W.aret C.1 C.2.1 C.2.2.2.1 hrt (Or.inl rfl) (fun t ht hW => ⟨⟨none, _, rfl, ⟨rfl, rfl⟩, ⟨by rw [ht]; exact hP, va_K.moved hW.alike C.2.2.2.2.2.2.2.1, hD⟩⟩, hS.F ht⟩) hS.2.2 d C.2.2.2.2.2.2.1
end JRet

def jmin (a b : Int32) : Int32 := if b < a then b else a
def jabs (a : Int32) : Int32 := if 0 ≤ a then a else 0 - a
def cpOk (sp dp nn : Int32) (n0 n1 : Nat) : Bool := decide (0 ≤ sp) && (decide (0 ≤ dp) && (decide (0 ≤ nn) && (decide (sp.toNatClampNeg + nn.toNatClampNeg ≤ n0) && decide (dp.toNatClampNeg + nn.toNatClampNeg ≤ n1))))
theorem cpOk_ok {sp dp nn : Int32} {n0 n1 : Nat} (h : cpOk sp dp nn n0 n1 = true) : ¬ sp < 0 ∧ ¬ dp < 0 ∧ ¬ nn < 0 ∧ sp.toNatClampNeg + nn.toNatClampNeg ≤ n0 ∧ dp.toNatClampNeg + nn.toNatClampNeg ≤ n1 := by
  unfold cpOk at h
  simp only [Bool.and_eq_true, decide_eq_true_eq] at h
  exact ⟨Int32.not_lt.mpr h.1, Int32.not_lt.mpr h.2.1, Int32.not_lt.mpr h.2.2.1, h.2.2.2.1, h.2.2.2.2⟩
theorem ms_max : Cond.static Lib.Math.max.name ∈ gT := gT_in (by decide +kernel) rfl
theorem ms_min : Cond.static Lib.Math.min.name ∈ gT := gT_in (by decide +kernel) rfl
theorem ms_abs : Cond.static Lib.Math.abs.name ∈ gT := gT_in (by decide +kernel) rfl
theorem mi_Math : Cond.initialized "java/lang/Math" ∈ gT := gT_in (by decide +kernel) rfl
theorem mc_max : Cond.code Lib.Math.max.name Lib.Math.max.code 2 (some .int) ∈ gT := gT_in (by decide +kernel) rfl
theorem mc_min : Cond.code Lib.Math.min.name Lib.Math.min.code 2 (some .int) ∈ gT := gT_in (by decide +kernel) rfl
theorem mc_abs : Cond.code Lib.Math.abs.name Lib.Math.abs.code 1 (some .int) ∈ gT := gT_in (by decide +kernel) rfl
theorem mc_copyn : Cond.native arraycopyName ∈ gT := gT_in (by decide +kernel) rfl
theorem mc_copys : Cond.static arraycopyName ∈ gT := gT_in (by decide +kernel) rfl
theorem mc_sys : Cond.initialized "java/lang/System" ∈ gT := gT_in (by decide +kernel) rfl
def jmax (a b : Int32) : Int32 := if a < b then b else a
section JMath
variable {ρ : Type} {x : Fx} {g : Gl} {cw : Gl → Hp → va_W} {nL dR : Nat} {QR : ρ → QT} {own : String} {cc : ByteArray} {ret : Option FieldType} {pc n : Nat} {L : List (Option Value)} {stk st : List Value} {h : Hp} {E : Option ρ} {i : Nat}

theorem j_mmax (C : Ok x g own cc nL ret) {x1 y1 : Int32} (hl : Cond.methodLink own i Lib.Math.max.name ∈ gT) (hd : 0 < dR) (hw : (st.map fun v => v.category).sum ≤ 8) (dd : decode cc pc = .ok (.invokestatic i, 3)) (hn : pc + 3 = n) (k : J x g cw nL dR QR n L (.int (jmax x1 y1) :: st) h E) : J x g cw nL dR QR pc L (.int y1 :: .int x1 :: st) h E := by
  obtain ⟨p, l, e, s, m, args, below, meth, c, A⟩ := x
  subst hn
  intro r hE H locs ls hP hD hS hL
  have hts := C.2.2.2.2.2.1
  refine va_mmax C.1 C.2.1 (C.2.2.1.trans hL.1.symm) C.2.2.2.2.1 (hts _ hl) (hts _ ms_max) (hts _ mi_Math) (hts _ mc_max) ?_ ?_ (Nat.zero_le _) (Nat.zero_le _) dd (k r hE H locs ls hP hD hS hL)
  · show 1 ≤ dR; omega
  · show _ + 13 ≤ 64 * dR; omega
theorem j_mmin (C : Ok x g own cc nL ret) {x1 y1 : Int32} (hl : Cond.methodLink own i Lib.Math.min.name ∈ gT) (hd : 0 < dR) (hw : (st.map fun v => v.category).sum ≤ 8) (dd : decode cc pc = .ok (.invokestatic i, 3)) (hn : pc + 3 = n) (k : J x g cw nL dR QR n L (.int (jmin x1 y1) :: st) h E) : J x g cw nL dR QR pc L (.int y1 :: .int x1 :: st) h E := by
  obtain ⟨p, l, e, s, m, args, below, meth, c, A⟩ := x
  subst hn
  intro r hE H locs ls hP hD hS hL
  have hts := C.2.2.2.2.2.1
  refine va_mmin C.1 C.2.1 (C.2.2.1.trans hL.1.symm) C.2.2.2.2.1 (hts _ hl) (hts _ ms_min) (hts _ mi_Math) (hts _ mc_min) ?_ ?_ (Nat.zero_le _) (Nat.zero_le _) dd (k r hE H locs ls hP hD hS hL)
  · show 1 ≤ dR; omega
  · show _ + 13 ≤ 64 * dR; omega
theorem j_mabs (C : Ok x g own cc nL ret) {x1 : Int32} (hl : Cond.methodLink own i Lib.Math.abs.name ∈ gT) (hd : 0 < dR) (hw : (st.map fun v => v.category).sum ≤ 8) (dd : decode cc pc = .ok (.invokestatic i, 3)) (hn : pc + 3 = n) (k : J x g cw nL dR QR n L (.int (jabs x1) :: st) h E) : J x g cw nL dR QR pc L (.int x1 :: st) h E := by
  obtain ⟨p, l, e, s, m, args, below, meth, c, A⟩ := x
  subst hn
  intro r hE H locs ls hP hD hS hL
  have hts := C.2.2.2.2.2.1
  refine va_mabs C.1 C.2.1 (C.2.2.1.trans hL.1.symm) C.2.2.2.2.1 (hts _ hl) (hts _ ms_abs) (hts _ mi_Math) (hts _ mc_abs) ?_ ?_ (Nat.zero_le _) (Nat.zero_le _) dd (k r hE H locs ls hP hD hS hL)
  · show 1 ≤ dR; omega
  · show _ + 13 ≤ 64 * dR; omega
theorem j_copy (C : Ok x g own cc nL ret) (q0 q1 : Nat) {a0 a1 n0 n1 : Nat} {f0 f1 : Nat → Int32} {sp dp nn : Int32} (ha0 : (cw g h)[q0]? = some (a0, .inl (g.2.2.1 0, n0, .inl f0))) (ha1 : (cw g h)[q1]? = some (a1, .inl (g.2.2.1 0, n1, .inl f1))) (hs : (cw g h).set q1 (a1, .inl (g.2.2.1 0, n1, .inl (va_cpy f0 f1 sp.toNatClampNeg dp.toNatClampNeg nn.toNatClampNeg))) = cw g (upA h q1 (va_cpy f0 f1 sp.toNatClampNeg dp.toNatClampNeg nn.toNatClampNeg))) (hl : Cond.methodLink own i arraycopyName ∈ gT) (hd : 0 < dR) (hw : (st.map fun v => v.category).sum ≤ 8) (dd : decode cc pc = .ok (.invokestatic i, 3)) (hn : pc + 3 = n) (k : J x g cw nL dR QR n L st (upA h q1 (va_cpy f0 f1 sp.toNatClampNeg dp.toNatClampNeg nn.toNatClampNeg)) E) : J x g cw nL dR QR pc L (.int nn :: .int dp :: .ref a1 :: .int sp :: .ref a0 :: st) h (chk (cpOk sp dp nn n0 n1) E) := by
  obtain ⟨p, l, e, s, m, args, below, meth, c, A⟩ := x
  subst hn
  intro r hE H locs ls hP hD hS hL
  obtain ⟨hz, hE⟩ := chk_some hE
  obtain ⟨h1, h2, h3, h4, h5⟩ := cpOk_ok hz
  have hts := C.2.2.2.2.2.1
  refine va_copyi C.1 C.2.1 (C.2.2.1.trans hL.1.symm) C.2.2.2.2.1 (hts _ hl) (hts _ mc_copyn) (hts _ mc_copys) (hts _ mc_sys) C.2.2.2.2.2.2.2.1 hP hD hS q0 q1 0 0 ha0 ha1 rfl rfl rfl h1 h2 h3 h4 h5 (fun _ _ => rfl) ?_ ?_ dd (fun H1 locs1 hP1 hD1 hS1 => ?_)
  · show 1 ≤ dR; omega
  · have : nativeFrameWords "java/lang/System" "arraycopy" 5 + 11 ≤ 40 := by decide
    show _ + _ ≤ 64 * dR; omega
  · rw [hs] at hP1 hD1
    exact k r hE H1 locs1 ls hP1 hD1 hS1 hL
end JMath
end
