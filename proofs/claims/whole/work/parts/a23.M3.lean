abbrev cX11_noBlock : ByteArray := prog_13_method_54_code
def yX11_noBlock : MethodName := ⟨RX11, "noBlock", "(I)Z"⟩
theorem dX11_noBlock_0 : decode cX11_noBlock 0 = .ok (.aload_n 0, 1) := by decide +kernel
theorem dX11_noBlock_1 : decode cX11_noBlock 1 = .ok (.iload_n 1, 1) := by decide +kernel
theorem dX11_noBlock_2 : decode cX11_noBlock 2 = .ok (.iconst 0, 1) := by decide +kernel
theorem dX11_noBlock_3 : decode cX11_noBlock 3 = .ok (.aload_n 0, 1) := by decide +kernel
theorem dX11_noBlock_4 : decode cX11_noBlock 4 = .ok (.getfield 84, 3) := by decide +kernel
theorem dX11_noBlock_7 : decode cX11_noBlock 7 = .ok (.iconst 1, 1) := by decide +kernel
theorem dX11_noBlock_8 : decode cX11_noBlock 8 = .ok (.isub, 1) := by decide +kernel
theorem dX11_noBlock_9 : decode cX11_noBlock 9 = .ok (.invokestatic 166, 3) := by decide +kernel
theorem dX11_noBlock_12 : decode cX11_noBlock 12 = .ok (.ifCond .ne 7, 3) := by decide +kernel
theorem dX11_noBlock_15 : decode cX11_noBlock 15 = .ok (.iconst 1, 1) := by decide +kernel
theorem dX11_noBlock_16 : decode cX11_noBlock 16 = .ok (.goto 4, 3) := by decide +kernel
theorem dX11_noBlock_19 : decode cX11_noBlock 19 = .ok (.iconst 0, 1) := by decide +kernel
theorem dX11_noBlock_20 : decode cX11_noBlock 20 = .ok (.iconst 1, 1) := by decide +kernel
theorem dX11_noBlock_21 : decode cX11_noBlock 21 = .ok (.invokevirtual 216, 3) := by decide +kernel
theorem dX11_noBlock_24 : decode cX11_noBlock 24 = .ok (.ireturn, 1) := by decide +kernel
theorem ci_X11_noBlock : Cond.instanceMethod yX11_noBlock ∈ TW := TW_of 1739 (by decide +kernel) (by decide +kernel)
theorem cs_X11_noBlock : Cond.selects yX11_noBlock.cls yX11_noBlock yX11_noBlock ∈ TW := TW_of 62 (by decide +kernel) (by decide +kernel)
abbrev cX11_noShot : ByteArray := prog_13_method_55_code
def yX11_noShot : MethodName := ⟨RX11, "noShot", "(I)Z"⟩
theorem dX11_noShot_0 : decode cX11_noShot 0 = .ok (.aload_n 0, 1) := by decide +kernel
theorem dX11_noShot_1 : decode cX11_noShot 1 = .ok (.iload_n 1, 1) := by decide +kernel
theorem dX11_noShot_2 : decode cX11_noShot 2 = .ok (.iconst 0, 1) := by decide +kernel
theorem dX11_noShot_3 : decode cX11_noShot 3 = .ok (.aload_n 0, 1) := by decide +kernel
theorem dX11_noShot_4 : decode cX11_noShot 4 = .ok (.getfield 38, 3) := by decide +kernel
theorem dX11_noShot_7 : decode cX11_noShot 7 = .ok (.bipush 40, 2) := by decide +kernel
theorem dX11_noShot_9 : decode cX11_noShot 9 = .ok (.iaload, 1) := by decide +kernel
theorem dX11_noShot_10 : decode cX11_noShot 10 = .ok (.iconst 1, 1) := by decide +kernel
theorem dX11_noShot_11 : decode cX11_noShot 11 = .ok (.isub, 1) := by decide +kernel
theorem dX11_noShot_12 : decode cX11_noShot 12 = .ok (.invokestatic 166, 3) := by decide +kernel
theorem dX11_noShot_15 : decode cX11_noShot 15 = .ok (.ifCond .ne 7, 3) := by decide +kernel
theorem dX11_noShot_18 : decode cX11_noShot 18 = .ok (.iconst 1, 1) := by decide +kernel
theorem dX11_noShot_19 : decode cX11_noShot 19 = .ok (.goto 4, 3) := by decide +kernel
theorem dX11_noShot_22 : decode cX11_noShot 22 = .ok (.iconst 0, 1) := by decide +kernel
theorem dX11_noShot_23 : decode cX11_noShot 23 = .ok (.iconst 1, 1) := by decide +kernel
theorem dX11_noShot_24 : decode cX11_noShot 24 = .ok (.invokevirtual 216, 3) := by decide +kernel
theorem dX11_noShot_27 : decode cX11_noShot 27 = .ok (.ireturn, 1) := by decide +kernel
theorem ci_X11_noShot : Cond.instanceMethod yX11_noShot ∈ TW := TW_of 1775 (by decide +kernel) (by decide +kernel)
theorem cs_X11_noShot : Cond.selects yX11_noShot.cls yX11_noShot yX11_noShot ∈ TW := TW_of 66 (by decide +kernel) (by decide +kernel)
abbrev cX11_count : ByteArray := prog_13_method_56_code
def yX11_count : MethodName := ⟨RX11, "count", "(I)I"⟩
theorem dX11_count_0 : decode cX11_count 0 = .ok (.aload_n 0, 1) := by decide +kernel
theorem dX11_count_1 : decode cX11_count 1 = .ok (.iconst 0, 1) := by decide +kernel
theorem dX11_count_2 : decode cX11_count 2 = .ok (.putfield 3, 3) := by decide +kernel
theorem dX11_count_5 : decode cX11_count 5 = .ok (.iload_n 1, 1) := by decide +kernel
theorem dX11_count_6 : decode cX11_count 6 = .ok (.tableswitch 76 0 5 #[38, 45, 52, 57, 62, 69], 38) := by decide +kernel
theorem dX11_count_44 : decode cX11_count 44 = .ok (.aload_n 0, 1) := by decide +kernel
theorem dX11_count_45 : decode cX11_count 45 = .ok (.getfield 13, 3) := by decide +kernel
theorem dX11_count_48 : decode cX11_count 48 = .ok (.iconst 0, 1) := by decide +kernel
theorem dX11_count_49 : decode cX11_count 49 = .ok (.iaload, 1) := by decide +kernel
theorem dX11_count_50 : decode cX11_count 50 = .ok (.ireturn, 1) := by decide +kernel
theorem dX11_count_51 : decode cX11_count 51 = .ok (.aload_n 0, 1) := by decide +kernel
theorem dX11_count_52 : decode cX11_count 52 = .ok (.getfield 13, 3) := by decide +kernel
theorem dX11_count_55 : decode cX11_count 55 = .ok (.iconst 2, 1) := by decide +kernel
theorem dX11_count_56 : decode cX11_count 56 = .ok (.iaload, 1) := by decide +kernel
theorem dX11_count_57 : decode cX11_count 57 = .ok (.ireturn, 1) := by decide +kernel
theorem dX11_count_58 : decode cX11_count 58 = .ok (.aload_n 0, 1) := by decide +kernel
theorem dX11_count_59 : decode cX11_count 59 = .ok (.invokevirtual 90, 3) := by decide +kernel
theorem dX11_count_62 : decode cX11_count 62 = .ok (.ireturn, 1) := by decide +kernel
theorem dX11_count_63 : decode cX11_count 63 = .ok (.aload_n 0, 1) := by decide +kernel
theorem dX11_count_64 : decode cX11_count 64 = .ok (.getfield 84, 3) := by decide +kernel
theorem dX11_count_67 : decode cX11_count 67 = .ok (.ireturn, 1) := by decide +kernel
theorem dX11_count_68 : decode cX11_count 68 = .ok (.aload_n 0, 1) := by decide +kernel
theorem dX11_count_69 : decode cX11_count 69 = .ok (.getfield 13, 3) := by decide +kernel
theorem dX11_count_72 : decode cX11_count 72 = .ok (.iconst 4, 1) := by decide +kernel
theorem dX11_count_73 : decode cX11_count 73 = .ok (.iaload, 1) := by decide +kernel
theorem dX11_count_74 : decode cX11_count 74 = .ok (.ireturn, 1) := by decide +kernel
theorem dX11_count_75 : decode cX11_count 75 = .ok (.aload_n 0, 1) := by decide +kernel
theorem dX11_count_76 : decode cX11_count 76 = .ok (.getfield 13, 3) := by decide +kernel
theorem dX11_count_79 : decode cX11_count 79 = .ok (.iconst 1, 1) := by decide +kernel
theorem dX11_count_80 : decode cX11_count 80 = .ok (.iaload, 1) := by decide +kernel
theorem dX11_count_81 : decode cX11_count 81 = .ok (.ireturn, 1) := by decide +kernel
theorem dX11_count_82 : decode cX11_count 82 = .ok (.iconst (-1), 1) := by decide +kernel
theorem dX11_count_83 : decode cX11_count 83 = .ok (.ireturn, 1) := by decide +kernel
theorem ci_X11_count : Cond.instanceMethod yX11_count ∈ TW := TW_of 1690 (by decide +kernel) (by decide +kernel)
theorem cs_X11_count : Cond.selects yX11_count.cls yX11_count yX11_count ∈ TW := TW_of 1691 (by decide +kernel) (by decide +kernel)
abbrev cX11_share : ByteArray := prog_13_method_57_code
def yX11_share : MethodName := ⟨RX11, "share", "(II)Z"⟩
theorem dX11_share_0 : decode cX11_share 0 = .ok (.aload_n 0, 1) := by decide +kernel
theorem dX11_share_1 : decode cX11_share 1 = .ok (.iload_n 1, 1) := by decide +kernel
theorem dX11_share_2 : decode cX11_share 2 = .ok (.iconst 2, 1) := by decide +kernel
theorem dX11_share_3 : decode cX11_share 3 = .ok (.invokevirtual 94, 3) := by decide +kernel
theorem dX11_share_6 : decode cX11_share 6 = .ok (.aload_n 0, 1) := by decide +kernel
theorem dX11_share_7 : decode cX11_share 7 = .ok (.iload_n 2, 1) := by decide +kernel
theorem dX11_share_8 : decode cX11_share 8 = .ok (.iconst 3, 1) := by decide +kernel
theorem dX11_share_9 : decode cX11_share 9 = .ok (.invokevirtual 94, 3) := by decide +kernel
theorem dX11_share_12 : decode cX11_share 12 = .ok (.if_icmp .ge 22, 3) := by decide +kernel
theorem dX11_share_15 : decode cX11_share 15 = .ok (.aload_n 0, 1) := by decide +kernel
theorem dX11_share_16 : decode cX11_share 16 = .ok (.iload_n 2, 1) := by decide +kernel
theorem dX11_share_17 : decode cX11_share 17 = .ok (.iconst 2, 1) := by decide +kernel
theorem dX11_share_18 : decode cX11_share 18 = .ok (.invokevirtual 94, 3) := by decide +kernel
theorem dX11_share_21 : decode cX11_share 21 = .ok (.aload_n 0, 1) := by decide +kernel
theorem dX11_share_22 : decode cX11_share 22 = .ok (.iload_n 1, 1) := by decide +kernel
theorem dX11_share_23 : decode cX11_share 23 = .ok (.iconst 3, 1) := by decide +kernel
theorem dX11_share_24 : decode cX11_share 24 = .ok (.invokevirtual 94, 3) := by decide +kernel
theorem dX11_share_27 : decode cX11_share 27 = .ok (.if_icmp .ge 7, 3) := by decide +kernel
theorem dX11_share_30 : decode cX11_share 30 = .ok (.iconst 1, 1) := by decide +kernel
theorem dX11_share_31 : decode cX11_share 31 = .ok (.goto 4, 3) := by decide +kernel
theorem dX11_share_34 : decode cX11_share 34 = .ok (.iconst 0, 1) := by decide +kernel
theorem dX11_share_35 : decode cX11_share 35 = .ok (.ireturn, 1) := by decide +kernel
theorem ci_X11_share : Cond.instanceMethod yX11_share ∈ TW := TW_of 1719 (by decide +kernel) (by decide +kernel)
theorem cs_X11_share : Cond.selects yX11_share.cls yX11_share yX11_share ∈ TW := TW_of 61 (by decide +kernel) (by decide +kernel)
abbrev cX11_shotOf : ByteArray := prog_13_method_65_code
def yX11_shotOf : MethodName := ⟨RX11, "shotOf", "(I)I"⟩
theorem dX11_shotOf_0 : decode cX11_shotOf 0 = .ok (.iconst 0, 1) := by decide +kernel
theorem dX11_shotOf_1 : decode cX11_shotOf 1 = .ok (.istore_n 2, 1) := by decide +kernel
theorem dX11_shotOf_2 : decode cX11_shotOf 2 = .ok (.iload_n 2, 1) := by decide +kernel
theorem dX11_shotOf_3 : decode cX11_shotOf 3 = .ok (.aload_n 0, 1) := by decide +kernel
theorem dX11_shotOf_4 : decode cX11_shotOf 4 = .ok (.getfield 38, 3) := by decide +kernel
theorem dX11_shotOf_7 : decode cX11_shotOf 7 = .ok (.bipush 40, 2) := by decide +kernel
theorem dX11_shotOf_9 : decode cX11_shotOf 9 = .ok (.iaload, 1) := by decide +kernel
theorem dX11_shotOf_10 : decode cX11_shotOf 10 = .ok (.if_icmp .ge 24, 3) := by decide +kernel
theorem dX11_shotOf_13 : decode cX11_shotOf 13 = .ok (.aload_n 0, 1) := by decide +kernel
theorem dX11_shotOf_14 : decode cX11_shotOf 14 = .ok (.getfield 38, 3) := by decide +kernel
theorem dX11_shotOf_17 : decode cX11_shotOf 17 = .ok (.bipush 41, 2) := by decide +kernel
theorem dX11_shotOf_19 : decode cX11_shotOf 19 = .ok (.iload_n 2, 1) := by decide +kernel
theorem dX11_shotOf_20 : decode cX11_shotOf 20 = .ok (.iadd, 1) := by decide +kernel
theorem dX11_shotOf_21 : decode cX11_shotOf 21 = .ok (.iaload, 1) := by decide +kernel
theorem dX11_shotOf_22 : decode cX11_shotOf 22 = .ok (.iload_n 1, 1) := by decide +kernel
theorem dX11_shotOf_23 : decode cX11_shotOf 23 = .ok (.if_icmp .ne 5, 3) := by decide +kernel
theorem dX11_shotOf_26 : decode cX11_shotOf 26 = .ok (.iload_n 2, 1) := by decide +kernel
theorem dX11_shotOf_27 : decode cX11_shotOf 27 = .ok (.ireturn, 1) := by decide +kernel
theorem dX11_shotOf_28 : decode cX11_shotOf 28 = .ok (.iinc 2 1, 3) := by decide +kernel
theorem dX11_shotOf_31 : decode cX11_shotOf 31 = .ok (.goto (-29), 3) := by decide +kernel
theorem dX11_shotOf_34 : decode cX11_shotOf 34 = .ok (.iconst (-1), 1) := by decide +kernel
theorem dX11_shotOf_35 : decode cX11_shotOf 35 = .ok (.ireturn, 1) := by decide +kernel
theorem ci_X11_shotOf : Cond.instanceMethod yX11_shotOf ∈ TW := TW_of 1711 (by decide +kernel) (by decide +kernel)
theorem cs_X11_shotOf : Cond.selects yX11_shotOf.cls yX11_shotOf yX11_shotOf ∈ TW := TW_of 59 (by decide +kernel) (by decide +kernel)
abbrev cX11_stateOf : ByteArray := prog_13_method_58_code
def yX11_stateOf : MethodName := ⟨RX11, "stateOf", "(I)I"⟩
theorem dX11_stateOf_0 : decode cX11_stateOf 0 = .ok (.aload_n 0, 1) := by decide +kernel
theorem dX11_stateOf_1 : decode cX11_stateOf 1 = .ok (.iload_n 1, 1) := by decide +kernel
theorem dX11_stateOf_2 : decode cX11_stateOf 2 = .ok (.invokevirtual 275, 3) := by decide +kernel
theorem dX11_stateOf_5 : decode cX11_stateOf 5 = .ok (.ifCond .eq 7, 3) := by decide +kernel
theorem dX11_stateOf_8 : decode cX11_stateOf 8 = .ok (.iconst 0, 1) := by decide +kernel
theorem dX11_stateOf_9 : decode cX11_stateOf 9 = .ok (.goto 22, 3) := by decide +kernel
theorem dX11_stateOf_12 : decode cX11_stateOf 12 = .ok (.aload_n 0, 1) := by decide +kernel
theorem dX11_stateOf_13 : decode cX11_stateOf 13 = .ok (.aload_n 0, 1) := by decide +kernel
theorem dX11_stateOf_14 : decode cX11_stateOf 14 = .ok (.getfield 20, 3) := by decide +kernel
theorem dX11_stateOf_17 : decode cX11_stateOf 17 = .ok (.iload_n 1, 1) := by decide +kernel
theorem dX11_stateOf_18 : decode cX11_stateOf 18 = .ok (.iaload, 1) := by decide +kernel
theorem dX11_stateOf_19 : decode cX11_stateOf 19 = .ok (.invokevirtual 278, 3) := by decide +kernel
theorem dX11_stateOf_22 : decode cX11_stateOf 22 = .ok (.iconst (-1), 1) := by decide +kernel
theorem dX11_stateOf_23 : decode cX11_stateOf 23 = .ok (.if_icmp .ne 7, 3) := by decide +kernel
theorem dX11_stateOf_26 : decode cX11_stateOf 26 = .ok (.iconst 2, 1) := by decide +kernel
theorem dX11_stateOf_27 : decode cX11_stateOf 27 = .ok (.goto 4, 3) := by decide +kernel
theorem dX11_stateOf_30 : decode cX11_stateOf 30 = .ok (.iconst 1, 1) := by decide +kernel
theorem dX11_stateOf_31 : decode cX11_stateOf 31 = .ok (.ireturn, 1) := by decide +kernel
theorem ci_X11_stateOf : Cond.instanceMethod yX11_stateOf ∈ TW := TW_of 1703 (by decide +kernel) (by decide +kernel)
theorem cs_X11_stateOf : Cond.selects yX11_stateOf.cls yX11_stateOf yX11_stateOf ∈ TW := TW_of 57 (by decide +kernel) (by decide +kernel)
abbrev cX11_overlaps : ByteArray := prog_13_method_59_code
def yX11_overlaps : MethodName := ⟨RX11, "overlaps", "(I)I"⟩
theorem dX11_overlaps_0 : decode cX11_overlaps 0 = .ok (.iconst 0, 1) := by decide +kernel
theorem dX11_overlaps_1 : decode cX11_overlaps 1 = .ok (.istore_n 2, 1) := by decide +kernel
theorem dX11_overlaps_2 : decode cX11_overlaps 2 = .ok (.iconst 0, 1) := by decide +kernel
theorem dX11_overlaps_3 : decode cX11_overlaps 3 = .ok (.istore_n 3, 1) := by decide +kernel
theorem dX11_overlaps_4 : decode cX11_overlaps 4 = .ok (.iload_n 3, 1) := by decide +kernel
theorem dX11_overlaps_5 : decode cX11_overlaps 5 = .ok (.aload_n 0, 1) := by decide +kernel
theorem dX11_overlaps_6 : decode cX11_overlaps 6 = .ok (.invokevirtual 90, 3) := by decide +kernel
theorem dX11_overlaps_9 : decode cX11_overlaps 9 = .ok (.if_icmp .ge 31, 3) := by decide +kernel
theorem dX11_overlaps_12 : decode cX11_overlaps 12 = .ok (.iload_n 2, 1) := by decide +kernel
theorem dX11_overlaps_13 : decode cX11_overlaps 13 = .ok (.iload_n 3, 1) := by decide +kernel
theorem dX11_overlaps_14 : decode cX11_overlaps 14 = .ok (.iload_n 1, 1) := by decide +kernel
theorem dX11_overlaps_15 : decode cX11_overlaps 15 = .ok (.if_icmp .eq 16, 3) := by decide +kernel
theorem dX11_overlaps_18 : decode cX11_overlaps 18 = .ok (.aload_n 0, 1) := by decide +kernel
theorem dX11_overlaps_19 : decode cX11_overlaps 19 = .ok (.iload_n 1, 1) := by decide +kernel
theorem dX11_overlaps_20 : decode cX11_overlaps 20 = .ok (.iload_n 3, 1) := by decide +kernel
theorem dX11_overlaps_21 : decode cX11_overlaps 21 = .ok (.invokevirtual 281, 3) := by decide +kernel
theorem dX11_overlaps_24 : decode cX11_overlaps 24 = .ok (.ifCond .eq 7, 3) := by decide +kernel
theorem dX11_overlaps_27 : decode cX11_overlaps 27 = .ok (.iconst 1, 1) := by decide +kernel
theorem dX11_overlaps_28 : decode cX11_overlaps 28 = .ok (.goto 4, 3) := by decide +kernel
theorem dX11_overlaps_31 : decode cX11_overlaps 31 = .ok (.iconst 0, 1) := by decide +kernel
theorem dX11_overlaps_32 : decode cX11_overlaps 32 = .ok (.iadd, 1) := by decide +kernel
theorem dX11_overlaps_33 : decode cX11_overlaps 33 = .ok (.istore_n 2, 1) := by decide +kernel
theorem dX11_overlaps_34 : decode cX11_overlaps 34 = .ok (.iinc 3 1, 3) := by decide +kernel
theorem dX11_overlaps_37 : decode cX11_overlaps 37 = .ok (.goto (-33), 3) := by decide +kernel
theorem dX11_overlaps_40 : decode cX11_overlaps 40 = .ok (.iload_n 2, 1) := by decide +kernel
theorem dX11_overlaps_41 : decode cX11_overlaps 41 = .ok (.ireturn, 1) := by decide +kernel
theorem ci_X11_overlaps : Cond.instanceMethod yX11_overlaps ∈ TW := TW_of 1715 (by decide +kernel) (by decide +kernel)
theorem cs_X11_overlaps : Cond.selects yX11_overlaps.cls yX11_overlaps yX11_overlaps ∈ TW := TW_of 60 (by decide +kernel) (by decide +kernel)
abbrev cX11_wordField : ByteArray := prog_13_method_60_code
def yX11_wordField : MethodName := ⟨RX11, "wordField", "(II)I"⟩
theorem dX11_wordField_0 : decode cX11_wordField 0 = .ok (.aload_n 0, 1) := by decide +kernel
theorem dX11_wordField_1 : decode cX11_wordField 1 = .ok (.iconst 0, 1) := by decide +kernel
theorem dX11_wordField_2 : decode cX11_wordField 2 = .ok (.putfield 3, 3) := by decide +kernel
theorem dX11_wordField_5 : decode cX11_wordField 5 = .ok (.aload_n 0, 1) := by decide +kernel
theorem dX11_wordField_6 : decode cX11_wordField 6 = .ok (.iload_n 1, 1) := by decide +kernel
theorem dX11_wordField_7 : decode cX11_wordField 7 = .ok (.invokevirtual 284, 3) := by decide +kernel
theorem dX11_wordField_10 : decode cX11_wordField 10 = .ok (.ifCond .eq 5, 3) := by decide +kernel
theorem dX11_wordField_13 : decode cX11_wordField 13 = .ok (.iconst 0, 1) := by decide +kernel
theorem dX11_wordField_14 : decode cX11_wordField 14 = .ok (.ireturn, 1) := by decide +kernel
theorem dX11_wordField_15 : decode cX11_wordField 15 = .ok (.iload_n 2, 1) := by decide +kernel
theorem dX11_wordField_16 : decode cX11_wordField 16 = .ok (.tableswitch 80 0 5 #[40, 47, 54, 61, 68, 74], 40) := by decide +kernel
theorem dX11_wordField_56 : decode cX11_wordField 56 = .ok (.aload_n 0, 1) := by decide +kernel
theorem dX11_wordField_57 : decode cX11_wordField 57 = .ok (.iload_n 1, 1) := by decide +kernel
theorem dX11_wordField_58 : decode cX11_wordField 58 = .ok (.iconst 0, 1) := by decide +kernel
theorem dX11_wordField_59 : decode cX11_wordField 59 = .ok (.invokevirtual 94, 3) := by decide +kernel
theorem dX11_wordField_62 : decode cX11_wordField 62 = .ok (.ireturn, 1) := by decide +kernel
theorem dX11_wordField_63 : decode cX11_wordField 63 = .ok (.aload_n 0, 1) := by decide +kernel
theorem dX11_wordField_64 : decode cX11_wordField 64 = .ok (.iload_n 1, 1) := by decide +kernel
theorem dX11_wordField_65 : decode cX11_wordField 65 = .ok (.iconst 2, 1) := by decide +kernel
theorem dX11_wordField_66 : decode cX11_wordField 66 = .ok (.invokevirtual 94, 3) := by decide +kernel
theorem dX11_wordField_69 : decode cX11_wordField 69 = .ok (.ireturn, 1) := by decide +kernel
theorem dX11_wordField_70 : decode cX11_wordField 70 = .ok (.aload_n 0, 1) := by decide +kernel
theorem dX11_wordField_71 : decode cX11_wordField 71 = .ok (.iload_n 1, 1) := by decide +kernel
theorem dX11_wordField_72 : decode cX11_wordField 72 = .ok (.iconst 3, 1) := by decide +kernel
theorem dX11_wordField_73 : decode cX11_wordField 73 = .ok (.invokevirtual 94, 3) := by decide +kernel
theorem dX11_wordField_76 : decode cX11_wordField 76 = .ok (.ireturn, 1) := by decide +kernel
theorem dX11_wordField_77 : decode cX11_wordField 77 = .ok (.aload_n 0, 1) := by decide +kernel
theorem dX11_wordField_78 : decode cX11_wordField 78 = .ok (.getfield 20, 3) := by decide +kernel
theorem dX11_wordField_81 : decode cX11_wordField 81 = .ok (.iload_n 1, 1) := by decide +kernel
theorem dX11_wordField_82 : decode cX11_wordField 82 = .ok (.iaload, 1) := by decide +kernel
theorem dX11_wordField_83 : decode cX11_wordField 83 = .ok (.ireturn, 1) := by decide +kernel
theorem dX11_wordField_84 : decode cX11_wordField 84 = .ok (.aload_n 0, 1) := by decide +kernel
theorem dX11_wordField_85 : decode cX11_wordField 85 = .ok (.iload_n 1, 1) := by decide +kernel
theorem dX11_wordField_86 : decode cX11_wordField 86 = .ok (.invokevirtual 287, 3) := by decide +kernel
theorem dX11_wordField_89 : decode cX11_wordField 89 = .ok (.ireturn, 1) := by decide +kernel
theorem dX11_wordField_90 : decode cX11_wordField 90 = .ok (.aload_n 0, 1) := by decide +kernel
theorem dX11_wordField_91 : decode cX11_wordField 91 = .ok (.iload_n 1, 1) := by decide +kernel
theorem dX11_wordField_92 : decode cX11_wordField 92 = .ok (.invokevirtual 290, 3) := by decide +kernel
theorem dX11_wordField_95 : decode cX11_wordField 95 = .ok (.ireturn, 1) := by decide +kernel
theorem dX11_wordField_96 : decode cX11_wordField 96 = .ok (.iconst (-1), 1) := by decide +kernel
theorem dX11_wordField_97 : decode cX11_wordField 97 = .ok (.ireturn, 1) := by decide +kernel
theorem ci_X11_wordField : Cond.instanceMethod yX11_wordField ∈ TW := TW_of 1694 (by decide +kernel) (by decide +kernel)
theorem cs_X11_wordField : Cond.selects yX11_wordField.cls yX11_wordField yX11_wordField ∈ TW := TW_of 1695 (by decide +kernel) (by decide +kernel)
abbrev cX11_isSameText : ByteArray := prog_13_method_61_code
def yX11_isSameText : MethodName := ⟨RX11, "isSameText", "(II)Z"⟩
theorem dX11_isSameText_0 : decode cX11_isSameText 0 = .ok (.aload_n 0, 1) := by decide +kernel
theorem dX11_isSameText_1 : decode cX11_isSameText 1 = .ok (.iconst 0, 1) := by decide +kernel
theorem dX11_isSameText_2 : decode cX11_isSameText 2 = .ok (.putfield 3, 3) := by decide +kernel
theorem dX11_isSameText_5 : decode cX11_isSameText 5 = .ok (.aload_n 0, 1) := by decide +kernel
theorem dX11_isSameText_6 : decode cX11_isSameText 6 = .ok (.iload_n 1, 1) := by decide +kernel
theorem dX11_isSameText_7 : decode cX11_isSameText 7 = .ok (.invokevirtual 284, 3) := by decide +kernel
theorem dX11_isSameText_10 : decode cX11_isSameText 10 = .ok (.ifCond .ne 30, 3) := by decide +kernel
theorem dX11_isSameText_13 : decode cX11_isSameText 13 = .ok (.aload_n 0, 1) := by decide +kernel
theorem dX11_isSameText_14 : decode cX11_isSameText 14 = .ok (.iload_n 2, 1) := by decide +kernel
theorem dX11_isSameText_15 : decode cX11_isSameText 15 = .ok (.invokevirtual 284, 3) := by decide +kernel
theorem dX11_isSameText_18 : decode cX11_isSameText 18 = .ok (.ifCond .ne 22, 3) := by decide +kernel
theorem dX11_isSameText_21 : decode cX11_isSameText 21 = .ok (.aload_n 0, 1) := by decide +kernel
theorem dX11_isSameText_22 : decode cX11_isSameText 22 = .ok (.iload_n 1, 1) := by decide +kernel
theorem dX11_isSameText_23 : decode cX11_isSameText 23 = .ok (.iconst 1, 1) := by decide +kernel
theorem dX11_isSameText_24 : decode cX11_isSameText 24 = .ok (.invokevirtual 94, 3) := by decide +kernel
theorem dX11_isSameText_27 : decode cX11_isSameText 27 = .ok (.aload_n 0, 1) := by decide +kernel
theorem dX11_isSameText_28 : decode cX11_isSameText 28 = .ok (.iload_n 2, 1) := by decide +kernel
theorem dX11_isSameText_29 : decode cX11_isSameText 29 = .ok (.iconst 1, 1) := by decide +kernel
theorem dX11_isSameText_30 : decode cX11_isSameText 30 = .ok (.invokevirtual 94, 3) := by decide +kernel
theorem dX11_isSameText_33 : decode cX11_isSameText 33 = .ok (.if_icmp .ne 7, 3) := by decide +kernel
theorem dX11_isSameText_36 : decode cX11_isSameText 36 = .ok (.iconst 1, 1) := by decide +kernel
theorem dX11_isSameText_37 : decode cX11_isSameText 37 = .ok (.goto 4, 3) := by decide +kernel
theorem dX11_isSameText_40 : decode cX11_isSameText 40 = .ok (.iconst 0, 1) := by decide +kernel
theorem dX11_isSameText_41 : decode cX11_isSameText 41 = .ok (.ireturn, 1) := by decide +kernel
theorem ci_X11_isSameText : Cond.instanceMethod yX11_isSameText ∈ TW := TW_of 1722 (by decide +kernel) (by decide +kernel)
theorem cs_X11_isSameText : Cond.selects yX11_isSameText.cls yX11_isSameText yX11_isSameText ∈ TW := TW_of 1723 (by decide +kernel) (by decide +kernel)
abbrev cX11_overlap : ByteArray := prog_13_method_62_code
def yX11_overlap : MethodName := ⟨RX11, "overlap", "(II)Z"⟩
theorem dX11_overlap_0 : decode cX11_overlap 0 = .ok (.aload_n 0, 1) := by decide +kernel
theorem dX11_overlap_1 : decode cX11_overlap 1 = .ok (.iconst 0, 1) := by decide +kernel
theorem dX11_overlap_2 : decode cX11_overlap 2 = .ok (.putfield 3, 3) := by decide +kernel
theorem dX11_overlap_5 : decode cX11_overlap 5 = .ok (.aload_n 0, 1) := by decide +kernel
theorem dX11_overlap_6 : decode cX11_overlap 6 = .ok (.iload_n 1, 1) := by decide +kernel
theorem dX11_overlap_7 : decode cX11_overlap 7 = .ok (.invokevirtual 284, 3) := by decide +kernel
theorem dX11_overlap_10 : decode cX11_overlap 10 = .ok (.ifCond .ne 24, 3) := by decide +kernel
theorem dX11_overlap_13 : decode cX11_overlap 13 = .ok (.aload_n 0, 1) := by decide +kernel
theorem dX11_overlap_14 : decode cX11_overlap 14 = .ok (.iload_n 2, 1) := by decide +kernel
theorem dX11_overlap_15 : decode cX11_overlap 15 = .ok (.invokevirtual 284, 3) := by decide +kernel
theorem dX11_overlap_18 : decode cX11_overlap 18 = .ok (.ifCond .ne 16, 3) := by decide +kernel
theorem dX11_overlap_21 : decode cX11_overlap 21 = .ok (.aload_n 0, 1) := by decide +kernel
theorem dX11_overlap_22 : decode cX11_overlap 22 = .ok (.iload_n 1, 1) := by decide +kernel
theorem dX11_overlap_23 : decode cX11_overlap 23 = .ok (.iload_n 2, 1) := by decide +kernel
theorem dX11_overlap_24 : decode cX11_overlap 24 = .ok (.invokevirtual 281, 3) := by decide +kernel
theorem dX11_overlap_27 : decode cX11_overlap 27 = .ok (.ifCond .eq 7, 3) := by decide +kernel
theorem dX11_overlap_30 : decode cX11_overlap 30 = .ok (.iconst 1, 1) := by decide +kernel
theorem dX11_overlap_31 : decode cX11_overlap 31 = .ok (.goto 4, 3) := by decide +kernel
theorem dX11_overlap_34 : decode cX11_overlap 34 = .ok (.iconst 0, 1) := by decide +kernel
theorem dX11_overlap_35 : decode cX11_overlap 35 = .ok (.ireturn, 1) := by decide +kernel
theorem ci_X11_overlap : Cond.instanceMethod yX11_overlap ∈ TW := TW_of 1726 (by decide +kernel) (by decide +kernel)
theorem cs_X11_overlap : Cond.selects yX11_overlap.cls yX11_overlap yX11_overlap ∈ TW := TW_of 1727 (by decide +kernel) (by decide +kernel)
abbrev cX11_differentTexts : ByteArray := prog_13_method_63_code
def yX11_differentTexts : MethodName := ⟨RX11, "differentTexts", "()I"⟩
theorem dX11_differentTexts_0 : decode cX11_differentTexts 0 = .ok (.aload_n 0, 1) := by decide +kernel
theorem dX11_differentTexts_1 : decode cX11_differentTexts 1 = .ok (.iconst 0, 1) := by decide +kernel
theorem dX11_differentTexts_2 : decode cX11_differentTexts 2 = .ok (.putfield 3, 3) := by decide +kernel
theorem dX11_differentTexts_5 : decode cX11_differentTexts 5 = .ok (.iconst 0, 1) := by decide +kernel
theorem dX11_differentTexts_6 : decode cX11_differentTexts 6 = .ok (.istore_n 1, 1) := by decide +kernel
theorem dX11_differentTexts_7 : decode cX11_differentTexts 7 = .ok (.iconst 0, 1) := by decide +kernel
theorem dX11_differentTexts_8 : decode cX11_differentTexts 8 = .ok (.istore_n 2, 1) := by decide +kernel
theorem dX11_differentTexts_9 : decode cX11_differentTexts 9 = .ok (.iload_n 2, 1) := by decide +kernel
theorem dX11_differentTexts_10 : decode cX11_differentTexts 10 = .ok (.aload_n 0, 1) := by decide +kernel
theorem dX11_differentTexts_11 : decode cX11_differentTexts 11 = .ok (.invokevirtual 90, 3) := by decide +kernel
theorem dX11_differentTexts_14 : decode cX11_differentTexts 14 = .ok (.if_icmp .ge 64, 3) := by decide +kernel
theorem dX11_differentTexts_17 : decode cX11_differentTexts 17 = .ok (.iconst 1, 1) := by decide +kernel
theorem dX11_differentTexts_18 : decode cX11_differentTexts 18 = .ok (.istore_n 3, 1) := by decide +kernel
theorem dX11_differentTexts_19 : decode cX11_differentTexts 19 = .ok (.iconst 0, 1) := by decide +kernel
theorem dX11_differentTexts_20 : decode cX11_differentTexts 20 = .ok (.istore 4, 2) := by decide +kernel
theorem dX11_differentTexts_22 : decode cX11_differentTexts 22 = .ok (.iload 4, 2) := by decide +kernel
theorem dX11_differentTexts_24 : decode cX11_differentTexts 24 = .ok (.iload_n 2, 1) := by decide +kernel
theorem dX11_differentTexts_25 : decode cX11_differentTexts 25 = .ok (.if_icmp .ge 35, 3) := by decide +kernel
theorem dX11_differentTexts_28 : decode cX11_differentTexts 28 = .ok (.iload_n 3, 1) := by decide +kernel
theorem dX11_differentTexts_29 : decode cX11_differentTexts 29 = .ok (.ifCond .eq 23, 3) := by decide +kernel
theorem dX11_differentTexts_32 : decode cX11_differentTexts 32 = .ok (.aload_n 0, 1) := by decide +kernel
theorem dX11_differentTexts_33 : decode cX11_differentTexts 33 = .ok (.iload 4, 2) := by decide +kernel
theorem dX11_differentTexts_35 : decode cX11_differentTexts 35 = .ok (.iconst 1, 1) := by decide +kernel
theorem dX11_differentTexts_36 : decode cX11_differentTexts 36 = .ok (.invokevirtual 94, 3) := by decide +kernel
theorem dX11_differentTexts_39 : decode cX11_differentTexts 39 = .ok (.aload_n 0, 1) := by decide +kernel
theorem dX11_differentTexts_40 : decode cX11_differentTexts 40 = .ok (.iload_n 2, 1) := by decide +kernel
theorem dX11_differentTexts_41 : decode cX11_differentTexts 41 = .ok (.iconst 1, 1) := by decide +kernel
theorem dX11_differentTexts_42 : decode cX11_differentTexts 42 = .ok (.invokevirtual 94, 3) := by decide +kernel
theorem dX11_differentTexts_45 : decode cX11_differentTexts 45 = .ok (.if_icmp .eq 7, 3) := by decide +kernel
theorem dX11_differentTexts_48 : decode cX11_differentTexts 48 = .ok (.iconst 1, 1) := by decide +kernel
theorem dX11_differentTexts_49 : decode cX11_differentTexts 49 = .ok (.goto 4, 3) := by decide +kernel
theorem dX11_differentTexts_52 : decode cX11_differentTexts 52 = .ok (.iconst 0, 1) := by decide +kernel
theorem dX11_differentTexts_53 : decode cX11_differentTexts 53 = .ok (.istore_n 3, 1) := by decide +kernel
theorem dX11_differentTexts_54 : decode cX11_differentTexts 54 = .ok (.iinc 4 1, 3) := by decide +kernel
theorem dX11_differentTexts_57 : decode cX11_differentTexts 57 = .ok (.goto (-35), 3) := by decide +kernel
theorem dX11_differentTexts_60 : decode cX11_differentTexts 60 = .ok (.iload_n 1, 1) := by decide +kernel
theorem dX11_differentTexts_61 : decode cX11_differentTexts 61 = .ok (.iload_n 3, 1) := by decide +kernel
theorem dX11_differentTexts_62 : decode cX11_differentTexts 62 = .ok (.ifCond .eq 7, 3) := by decide +kernel
theorem dX11_differentTexts_65 : decode cX11_differentTexts 65 = .ok (.iconst 1, 1) := by decide +kernel
theorem dX11_differentTexts_66 : decode cX11_differentTexts 66 = .ok (.goto 4, 3) := by decide +kernel
theorem dX11_differentTexts_69 : decode cX11_differentTexts 69 = .ok (.iconst 0, 1) := by decide +kernel
theorem dX11_differentTexts_70 : decode cX11_differentTexts 70 = .ok (.iadd, 1) := by decide +kernel
theorem dX11_differentTexts_71 : decode cX11_differentTexts 71 = .ok (.istore_n 1, 1) := by decide +kernel
theorem dX11_differentTexts_72 : decode cX11_differentTexts 72 = .ok (.iinc 2 1, 3) := by decide +kernel
theorem dX11_differentTexts_75 : decode cX11_differentTexts 75 = .ok (.goto (-66), 3) := by decide +kernel
theorem dX11_differentTexts_78 : decode cX11_differentTexts 78 = .ok (.iload_n 1, 1) := by decide +kernel
theorem dX11_differentTexts_79 : decode cX11_differentTexts 79 = .ok (.ireturn, 1) := by decide +kernel
theorem ci_X11_differentTexts : Cond.instanceMethod yX11_differentTexts ∈ TW := TW_of 1730 (by decide +kernel) (by decide +kernel)
theorem cs_X11_differentTexts : Cond.selects yX11_differentTexts.cls yX11_differentTexts yX11_differentTexts ∈ TW := TW_of 1731 (by decide +kernel) (by decide +kernel)
abbrev cX11_keptIn : ByteArray := prog_13_method_64_code
def yX11_keptIn : MethodName := ⟨RX11, "keptIn", "(I)I"⟩
theorem dX11_keptIn_0 : decode cX11_keptIn 0 = .ok (.iconst 0, 1) := by decide +kernel
theorem dX11_keptIn_1 : decode cX11_keptIn 1 = .ok (.istore_n 2, 1) := by decide +kernel
theorem dX11_keptIn_2 : decode cX11_keptIn 2 = .ok (.aload_n 0, 1) := by decide +kernel
theorem dX11_keptIn_3 : decode cX11_keptIn 3 = .ok (.getfield 29, 3) := by decide +kernel
theorem dX11_keptIn_6 : decode cX11_keptIn 6 = .ok (.iload_n 1, 1) := by decide +kernel
theorem dX11_keptIn_7 : decode cX11_keptIn 7 = .ok (.iaload, 1) := by decide +kernel
theorem dX11_keptIn_8 : decode cX11_keptIn 8 = .ok (.istore_n 3, 1) := by decide +kernel
theorem dX11_keptIn_9 : decode cX11_keptIn 9 = .ok (.iload_n 3, 1) := by decide +kernel
theorem dX11_keptIn_10 : decode cX11_keptIn 10 = .ok (.aload_n 0, 1) := by decide +kernel
theorem dX11_keptIn_11 : decode cX11_keptIn 11 = .ok (.getfield 29, 3) := by decide +kernel
theorem dX11_keptIn_14 : decode cX11_keptIn 14 = .ok (.iload_n 1, 1) := by decide +kernel
theorem dX11_keptIn_15 : decode cX11_keptIn 15 = .ok (.iconst 1, 1) := by decide +kernel
theorem dX11_keptIn_16 : decode cX11_keptIn 16 = .ok (.iadd, 1) := by decide +kernel
theorem dX11_keptIn_17 : decode cX11_keptIn 17 = .ok (.iaload, 1) := by decide +kernel
theorem dX11_keptIn_18 : decode cX11_keptIn 18 = .ok (.if_icmp .ge 25, 3) := by decide +kernel
theorem dX11_keptIn_21 : decode cX11_keptIn 21 = .ok (.iload_n 2, 1) := by decide +kernel
theorem dX11_keptIn_22 : decode cX11_keptIn 22 = .ok (.aload_n 0, 1) := by decide +kernel
theorem dX11_keptIn_23 : decode cX11_keptIn 23 = .ok (.iload_n 3, 1) := by decide +kernel
theorem dX11_keptIn_24 : decode cX11_keptIn 24 = .ok (.invokevirtual 275, 3) := by decide +kernel
theorem dX11_keptIn_27 : decode cX11_keptIn 27 = .ok (.ifCond .eq 7, 3) := by decide +kernel
theorem dX11_keptIn_30 : decode cX11_keptIn 30 = .ok (.iconst 1, 1) := by decide +kernel
theorem dX11_keptIn_31 : decode cX11_keptIn 31 = .ok (.goto 4, 3) := by decide +kernel
theorem dX11_keptIn_34 : decode cX11_keptIn 34 = .ok (.iconst 0, 1) := by decide +kernel
theorem dX11_keptIn_35 : decode cX11_keptIn 35 = .ok (.iadd, 1) := by decide +kernel
theorem dX11_keptIn_36 : decode cX11_keptIn 36 = .ok (.istore_n 2, 1) := by decide +kernel
theorem dX11_keptIn_37 : decode cX11_keptIn 37 = .ok (.iinc 3 1, 3) := by decide +kernel
theorem dX11_keptIn_40 : decode cX11_keptIn 40 = .ok (.goto (-31), 3) := by decide +kernel
theorem dX11_keptIn_43 : decode cX11_keptIn 43 = .ok (.iload_n 2, 1) := by decide +kernel
theorem dX11_keptIn_44 : decode cX11_keptIn 44 = .ok (.ireturn, 1) := by decide +kernel
theorem ci_X11_keptIn : Cond.instanceMethod yX11_keptIn ∈ TW := TW_of 1743 (by decide +kernel) (by decide +kernel)
theorem cs_X11_keptIn : Cond.selects yX11_keptIn.cls yX11_keptIn yX11_keptIn ∈ TW := TW_of 63 (by decide +kernel) (by decide +kernel)
abbrev cX11_blockField : ByteArray := prog_13_method_66_code
def yX11_blockField : MethodName := ⟨RX11, "blockField", "(II)I"⟩
theorem dX11_blockField_0 : decode cX11_blockField 0 = .ok (.aload_n 0, 1) := by decide +kernel
theorem dX11_blockField_1 : decode cX11_blockField 1 = .ok (.iconst 0, 1) := by decide +kernel
theorem dX11_blockField_2 : decode cX11_blockField 2 = .ok (.putfield 3, 3) := by decide +kernel
theorem dX11_blockField_5 : decode cX11_blockField 5 = .ok (.aload_n 0, 1) := by decide +kernel
theorem dX11_blockField_6 : decode cX11_blockField 6 = .ok (.iload_n 1, 1) := by decide +kernel
theorem dX11_blockField_7 : decode cX11_blockField 7 = .ok (.invokevirtual 293, 3) := by decide +kernel
theorem dX11_blockField_10 : decode cX11_blockField 10 = .ok (.ifCond .eq 5, 3) := by decide +kernel
theorem dX11_blockField_13 : decode cX11_blockField 13 = .ok (.iconst 0, 1) := by decide +kernel
theorem dX11_blockField_14 : decode cX11_blockField 14 = .ok (.ireturn, 1) := by decide +kernel
theorem dX11_blockField_15 : decode cX11_blockField 15 = .ok (.iload_n 2, 1) := by decide +kernel
theorem dX11_blockField_16 : decode cX11_blockField 16 = .ok (.tableswitch 126 0 8 #[52, 59, 66, 82, 88, 94, 100, 110, 120], 52) := by decide +kernel
theorem dX11_blockField_68 : decode cX11_blockField 68 = .ok (.aload_n 0, 1) := by decide +kernel
theorem dX11_blockField_69 : decode cX11_blockField 69 = .ok (.getfield 23, 3) := by decide +kernel
theorem dX11_blockField_72 : decode cX11_blockField 72 = .ok (.iload_n 1, 1) := by decide +kernel
theorem dX11_blockField_73 : decode cX11_blockField 73 = .ok (.iaload, 1) := by decide +kernel
theorem dX11_blockField_74 : decode cX11_blockField 74 = .ok (.ireturn, 1) := by decide +kernel
theorem dX11_blockField_75 : decode cX11_blockField 75 = .ok (.aload_n 0, 1) := by decide +kernel
theorem dX11_blockField_76 : decode cX11_blockField 76 = .ok (.getfield 26, 3) := by decide +kernel
theorem dX11_blockField_79 : decode cX11_blockField 79 = .ok (.iload_n 1, 1) := by decide +kernel
theorem dX11_blockField_80 : decode cX11_blockField 80 = .ok (.iaload, 1) := by decide +kernel
theorem dX11_blockField_81 : decode cX11_blockField 81 = .ok (.ireturn, 1) := by decide +kernel
theorem dX11_blockField_82 : decode cX11_blockField 82 = .ok (.aload_n 0, 1) := by decide +kernel
theorem dX11_blockField_83 : decode cX11_blockField 83 = .ok (.getfield 29, 3) := by decide +kernel
theorem dX11_blockField_86 : decode cX11_blockField 86 = .ok (.iload_n 1, 1) := by decide +kernel
theorem dX11_blockField_87 : decode cX11_blockField 87 = .ok (.iconst 1, 1) := by decide +kernel
theorem dX11_blockField_88 : decode cX11_blockField 88 = .ok (.iadd, 1) := by decide +kernel
theorem dX11_blockField_89 : decode cX11_blockField 89 = .ok (.iaload, 1) := by decide +kernel
theorem dX11_blockField_90 : decode cX11_blockField 90 = .ok (.aload_n 0, 1) := by decide +kernel
theorem dX11_blockField_91 : decode cX11_blockField 91 = .ok (.getfield 29, 3) := by decide +kernel
theorem dX11_blockField_94 : decode cX11_blockField 94 = .ok (.iload_n 1, 1) := by decide +kernel
theorem dX11_blockField_95 : decode cX11_blockField 95 = .ok (.iaload, 1) := by decide +kernel
theorem dX11_blockField_96 : decode cX11_blockField 96 = .ok (.isub, 1) := by decide +kernel
theorem dX11_blockField_97 : decode cX11_blockField 97 = .ok (.ireturn, 1) := by decide +kernel
theorem dX11_blockField_98 : decode cX11_blockField 98 = .ok (.aload_n 0, 1) := by decide +kernel
theorem dX11_blockField_99 : decode cX11_blockField 99 = .ok (.iload_n 1, 1) := by decide +kernel
theorem dX11_blockField_100 : decode cX11_blockField 100 = .ok (.invokevirtual 296, 3) := by decide +kernel
theorem dX11_blockField_103 : decode cX11_blockField 103 = .ok (.ireturn, 1) := by decide +kernel
theorem dX11_blockField_104 : decode cX11_blockField 104 = .ok (.aload_n 0, 1) := by decide +kernel
theorem dX11_blockField_105 : decode cX11_blockField 105 = .ok (.iload_n 1, 1) := by decide +kernel
theorem dX11_blockField_106 : decode cX11_blockField 106 = .ok (.invokevirtual 299, 3) := by decide +kernel
theorem dX11_blockField_109 : decode cX11_blockField 109 = .ok (.ireturn, 1) := by decide +kernel
theorem dX11_blockField_110 : decode cX11_blockField 110 = .ok (.aload_n 0, 1) := by decide +kernel
theorem dX11_blockField_111 : decode cX11_blockField 111 = .ok (.iload_n 1, 1) := by decide +kernel
theorem dX11_blockField_112 : decode cX11_blockField 112 = .ok (.invokevirtual 302, 3) := by decide +kernel
theorem dX11_blockField_115 : decode cX11_blockField 115 = .ok (.ireturn, 1) := by decide +kernel
theorem dX11_blockField_116 : decode cX11_blockField 116 = .ok (.aload_n 0, 1) := by decide +kernel
theorem dX11_blockField_117 : decode cX11_blockField 117 = .ok (.getfield 38, 3) := by decide +kernel
theorem dX11_blockField_120 : decode cX11_blockField 120 = .ok (.bipush 81, 2) := by decide +kernel
theorem dX11_blockField_122 : decode cX11_blockField 122 = .ok (.iload_n 1, 1) := by decide +kernel
theorem dX11_blockField_123 : decode cX11_blockField 123 = .ok (.iadd, 1) := by decide +kernel
theorem dX11_blockField_124 : decode cX11_blockField 124 = .ok (.iaload, 1) := by decide +kernel
theorem dX11_blockField_125 : decode cX11_blockField 125 = .ok (.ireturn, 1) := by decide +kernel
theorem dX11_blockField_126 : decode cX11_blockField 126 = .ok (.aload_n 0, 1) := by decide +kernel
theorem dX11_blockField_127 : decode cX11_blockField 127 = .ok (.getfield 38, 3) := by decide +kernel
theorem dX11_blockField_130 : decode cX11_blockField 130 = .ok (.bipush 121, 2) := by decide +kernel
theorem dX11_blockField_132 : decode cX11_blockField 132 = .ok (.iload_n 1, 1) := by decide +kernel
theorem dX11_blockField_133 : decode cX11_blockField 133 = .ok (.iadd, 1) := by decide +kernel
theorem dX11_blockField_134 : decode cX11_blockField 134 = .ok (.iaload, 1) := by decide +kernel
theorem dX11_blockField_135 : decode cX11_blockField 135 = .ok (.ireturn, 1) := by decide +kernel
theorem dX11_blockField_136 : decode cX11_blockField 136 = .ok (.aload_n 0, 1) := by decide +kernel
theorem dX11_blockField_137 : decode cX11_blockField 137 = .ok (.iload_n 1, 1) := by decide +kernel
theorem dX11_blockField_138 : decode cX11_blockField 138 = .ok (.invokevirtual 278, 3) := by decide +kernel
theorem dX11_blockField_141 : decode cX11_blockField 141 = .ok (.ireturn, 1) := by decide +kernel
theorem dX11_blockField_142 : decode cX11_blockField 142 = .ok (.iconst (-1), 1) := by decide +kernel
theorem dX11_blockField_143 : decode cX11_blockField 143 = .ok (.ireturn, 1) := by decide +kernel
theorem ci_X11_blockField : Cond.instanceMethod yX11_blockField ∈ TW := TW_of 1734 (by decide +kernel) (by decide +kernel)
theorem cs_X11_blockField : Cond.selects yX11_blockField.cls yX11_blockField yX11_blockField ∈ TW := TW_of 1735 (by decide +kernel) (by decide +kernel)
abbrev cX11_blockAt : ByteArray := prog_13_method_67_code
def yX11_blockAt : MethodName := ⟨RX11, "blockAt", "(I)I"⟩
theorem dX11_blockAt_0 : decode cX11_blockAt 0 = .ok (.aload_n 0, 1) := by decide +kernel
theorem dX11_blockAt_1 : decode cX11_blockAt 1 = .ok (.iconst 0, 1) := by decide +kernel
theorem dX11_blockAt_2 : decode cX11_blockAt 2 = .ok (.putfield 3, 3) := by decide +kernel
theorem dX11_blockAt_5 : decode cX11_blockAt 5 = .ok (.iconst 0, 1) := by decide +kernel
theorem dX11_blockAt_6 : decode cX11_blockAt 6 = .ok (.istore_n 2, 1) := by decide +kernel
theorem dX11_blockAt_7 : decode cX11_blockAt 7 = .ok (.iload_n 2, 1) := by decide +kernel
theorem dX11_blockAt_8 : decode cX11_blockAt 8 = .ok (.aload_n 0, 1) := by decide +kernel
theorem dX11_blockAt_9 : decode cX11_blockAt 9 = .ok (.getfield 84, 3) := by decide +kernel
theorem dX11_blockAt_12 : decode cX11_blockAt 12 = .ok (.if_icmp .ge 30, 3) := by decide +kernel
theorem dX11_blockAt_15 : decode cX11_blockAt 15 = .ok (.iload_n 1, 1) := by decide +kernel
theorem dX11_blockAt_16 : decode cX11_blockAt 16 = .ok (.aload_n 0, 1) := by decide +kernel
theorem dX11_blockAt_17 : decode cX11_blockAt 17 = .ok (.iload_n 2, 1) := by decide +kernel
theorem dX11_blockAt_18 : decode cX11_blockAt 18 = .ok (.invokevirtual 299, 3) := by decide +kernel
theorem dX11_blockAt_21 : decode cX11_blockAt 21 = .ok (.aload_n 0, 1) := by decide +kernel
theorem dX11_blockAt_22 : decode cX11_blockAt 22 = .ok (.iload_n 2, 1) := by decide +kernel
theorem dX11_blockAt_23 : decode cX11_blockAt 23 = .ok (.invokevirtual 302, 3) := by decide +kernel
theorem dX11_blockAt_26 : decode cX11_blockAt 26 = .ok (.iconst 1, 1) := by decide +kernel
theorem dX11_blockAt_27 : decode cX11_blockAt 27 = .ok (.isub, 1) := by decide +kernel
theorem dX11_blockAt_28 : decode cX11_blockAt 28 = .ok (.invokestatic 166, 3) := by decide +kernel
theorem dX11_blockAt_31 : decode cX11_blockAt 31 = .ok (.ifCond .eq 5, 3) := by decide +kernel
theorem dX11_blockAt_34 : decode cX11_blockAt 34 = .ok (.iload_n 2, 1) := by decide +kernel
theorem dX11_blockAt_35 : decode cX11_blockAt 35 = .ok (.ireturn, 1) := by decide +kernel
theorem dX11_blockAt_36 : decode cX11_blockAt 36 = .ok (.iinc 2 1, 3) := by decide +kernel
theorem dX11_blockAt_39 : decode cX11_blockAt 39 = .ok (.goto (-32), 3) := by decide +kernel
theorem dX11_blockAt_42 : decode cX11_blockAt 42 = .ok (.iconst (-1), 1) := by decide +kernel
theorem dX11_blockAt_43 : decode cX11_blockAt 43 = .ok (.ireturn, 1) := by decide +kernel
theorem ci_X11_blockAt : Cond.instanceMethod yX11_blockAt ∈ TW := TW_of 1754 (by decide +kernel) (by decide +kernel)
theorem cs_X11_blockAt : Cond.selects yX11_blockAt.cls yX11_blockAt yX11_blockAt ∈ TW := TW_of 1755 (by decide +kernel) (by decide +kernel)
abbrev cX11_isSnapped : ByteArray := prog_13_method_68_code
def yX11_isSnapped : MethodName := ⟨RX11, "isSnapped", "(I)Z"⟩
theorem dX11_isSnapped_0 : decode cX11_isSnapped 0 = .ok (.aload_n 0, 1) := by decide +kernel
theorem dX11_isSnapped_1 : decode cX11_isSnapped 1 = .ok (.iconst 0, 1) := by decide +kernel
theorem dX11_isSnapped_2 : decode cX11_isSnapped 2 = .ok (.putfield 3, 3) := by decide +kernel
theorem dX11_isSnapped_5 : decode cX11_isSnapped 5 = .ok (.aload_n 0, 1) := by decide +kernel
theorem dX11_isSnapped_6 : decode cX11_isSnapped 6 = .ok (.iload_n 1, 1) := by decide +kernel
theorem dX11_isSnapped_7 : decode cX11_isSnapped 7 = .ok (.invokevirtual 293, 3) := by decide +kernel
theorem dX11_isSnapped_10 : decode cX11_isSnapped 10 = .ok (.ifCond .ne 17, 3) := by decide +kernel
theorem dX11_isSnapped_13 : decode cX11_isSnapped 13 = .ok (.aload_n 0, 1) := by decide +kernel
theorem dX11_isSnapped_14 : decode cX11_isSnapped 14 = .ok (.getfield 35, 3) := by decide +kernel
theorem dX11_isSnapped_17 : decode cX11_isSnapped 17 = .ok (.iload_n 1, 1) := by decide +kernel
theorem dX11_isSnapped_18 : decode cX11_isSnapped 18 = .ok (.iaload, 1) := by decide +kernel
theorem dX11_isSnapped_19 : decode cX11_isSnapped 19 = .ok (.iconst 1, 1) := by decide +kernel
theorem dX11_isSnapped_20 : decode cX11_isSnapped 20 = .ok (.if_icmp .ne 7, 3) := by decide +kernel
theorem dX11_isSnapped_23 : decode cX11_isSnapped 23 = .ok (.iconst 1, 1) := by decide +kernel
theorem dX11_isSnapped_24 : decode cX11_isSnapped 24 = .ok (.goto 4, 3) := by decide +kernel
theorem dX11_isSnapped_27 : decode cX11_isSnapped 27 = .ok (.iconst 0, 1) := by decide +kernel
theorem dX11_isSnapped_28 : decode cX11_isSnapped 28 = .ok (.ireturn, 1) := by decide +kernel
theorem ci_X11_isSnapped : Cond.instanceMethod yX11_isSnapped ∈ TW := TW_of 1758 (by decide +kernel) (by decide +kernel)
theorem cs_X11_isSnapped : Cond.selects yX11_isSnapped.cls yX11_isSnapped yX11_isSnapped ∈ TW := TW_of 1759 (by decide +kernel) (by decide +kernel)
abbrev cX11_speakersAt : ByteArray := prog_13_method_69_code
def yX11_speakersAt : MethodName := ⟨RX11, "speakersAt", "(I)I"⟩
theorem dX11_speakersAt_0 : decode cX11_speakersAt 0 = .ok (.aload_n 0, 1) := by decide +kernel
theorem dX11_speakersAt_1 : decode cX11_speakersAt 1 = .ok (.iconst 0, 1) := by decide +kernel
theorem dX11_speakersAt_2 : decode cX11_speakersAt 2 = .ok (.putfield 3, 3) := by decide +kernel
theorem dX11_speakersAt_5 : decode cX11_speakersAt 5 = .ok (.iconst 0, 1) := by decide +kernel
theorem dX11_speakersAt_6 : decode cX11_speakersAt 6 = .ok (.istore_n 2, 1) := by decide +kernel
theorem dX11_speakersAt_7 : decode cX11_speakersAt 7 = .ok (.iconst 0, 1) := by decide +kernel
theorem dX11_speakersAt_8 : decode cX11_speakersAt 8 = .ok (.istore_n 3, 1) := by decide +kernel
theorem dX11_speakersAt_9 : decode cX11_speakersAt 9 = .ok (.iload_n 3, 1) := by decide +kernel
theorem dX11_speakersAt_10 : decode cX11_speakersAt 10 = .ok (.aload_n 0, 1) := by decide +kernel
theorem dX11_speakersAt_11 : decode cX11_speakersAt 11 = .ok (.invokevirtual 90, 3) := by decide +kernel
theorem dX11_speakersAt_14 : decode cX11_speakersAt 14 = .ok (.if_icmp .ge 45, 3) := by decide +kernel
theorem dX11_speakersAt_17 : decode cX11_speakersAt 17 = .ok (.iload_n 2, 1) := by decide +kernel
theorem dX11_speakersAt_18 : decode cX11_speakersAt 18 = .ok (.iload_n 1, 1) := by decide +kernel
theorem dX11_speakersAt_19 : decode cX11_speakersAt 19 = .ok (.aload_n 0, 1) := by decide +kernel
theorem dX11_speakersAt_20 : decode cX11_speakersAt 20 = .ok (.iload_n 3, 1) := by decide +kernel
theorem dX11_speakersAt_21 : decode cX11_speakersAt 21 = .ok (.iconst 2, 1) := by decide +kernel
theorem dX11_speakersAt_22 : decode cX11_speakersAt 22 = .ok (.invokevirtual 94, 3) := by decide +kernel
theorem dX11_speakersAt_25 : decode cX11_speakersAt 25 = .ok (.aload_n 0, 1) := by decide +kernel
theorem dX11_speakersAt_26 : decode cX11_speakersAt 26 = .ok (.iload_n 3, 1) := by decide +kernel
theorem dX11_speakersAt_27 : decode cX11_speakersAt 27 = .ok (.iconst 3, 1) := by decide +kernel
theorem dX11_speakersAt_28 : decode cX11_speakersAt 28 = .ok (.invokevirtual 94, 3) := by decide +kernel
theorem dX11_speakersAt_31 : decode cX11_speakersAt 31 = .ok (.iconst 1, 1) := by decide +kernel
theorem dX11_speakersAt_32 : decode cX11_speakersAt 32 = .ok (.isub, 1) := by decide +kernel
theorem dX11_speakersAt_33 : decode cX11_speakersAt 33 = .ok (.invokestatic 166, 3) := by decide +kernel
theorem dX11_speakersAt_36 : decode cX11_speakersAt 36 = .ok (.ifCond .eq 14, 3) := by decide +kernel
theorem dX11_speakersAt_39 : decode cX11_speakersAt 39 = .ok (.iconst 1, 1) := by decide +kernel
theorem dX11_speakersAt_40 : decode cX11_speakersAt 40 = .ok (.aload_n 0, 1) := by decide +kernel
theorem dX11_speakersAt_41 : decode cX11_speakersAt 41 = .ok (.iload_n 3, 1) := by decide +kernel
theorem dX11_speakersAt_42 : decode cX11_speakersAt 42 = .ok (.iconst 0, 1) := by decide +kernel
theorem dX11_speakersAt_43 : decode cX11_speakersAt 43 = .ok (.invokevirtual 94, 3) := by decide +kernel
theorem dX11_speakersAt_46 : decode cX11_speakersAt 46 = .ok (.ishl, 1) := by decide +kernel
theorem dX11_speakersAt_47 : decode cX11_speakersAt 47 = .ok (.goto 4, 3) := by decide +kernel
theorem dX11_speakersAt_50 : decode cX11_speakersAt 50 = .ok (.iconst 0, 1) := by decide +kernel
theorem dX11_speakersAt_51 : decode cX11_speakersAt 51 = .ok (.ior, 1) := by decide +kernel
theorem dX11_speakersAt_52 : decode cX11_speakersAt 52 = .ok (.istore_n 2, 1) := by decide +kernel
theorem dX11_speakersAt_53 : decode cX11_speakersAt 53 = .ok (.iinc 3 1, 3) := by decide +kernel
theorem dX11_speakersAt_56 : decode cX11_speakersAt 56 = .ok (.goto (-47), 3) := by decide +kernel
theorem dX11_speakersAt_59 : decode cX11_speakersAt 59 = .ok (.iload_n 2, 1) := by decide +kernel
theorem dX11_speakersAt_60 : decode cX11_speakersAt 60 = .ok (.ireturn, 1) := by decide +kernel
theorem ci_X11_speakersAt : Cond.instanceMethod yX11_speakersAt ∈ TW := TW_of 1762 (by decide +kernel) (by decide +kernel)
theorem cs_X11_speakersAt : Cond.selects yX11_speakersAt.cls yX11_speakersAt yX11_speakersAt ∈ TW := TW_of 1763 (by decide +kernel) (by decide +kernel)
abbrev cX11_shotBlock : ByteArray := prog_13_method_70_code
def yX11_shotBlock : MethodName := ⟨RX11, "shotBlock", "(I)I"⟩
theorem dX11_shotBlock_0 : decode cX11_shotBlock 0 = .ok (.aload_n 0, 1) := by decide +kernel
theorem dX11_shotBlock_1 : decode cX11_shotBlock 1 = .ok (.getfield 38, 3) := by decide +kernel
theorem dX11_shotBlock_4 : decode cX11_shotBlock 4 = .ok (.bipush 41, 2) := by decide +kernel
theorem dX11_shotBlock_6 : decode cX11_shotBlock 6 = .ok (.iload_n 1, 1) := by decide +kernel
theorem dX11_shotBlock_7 : decode cX11_shotBlock 7 = .ok (.iadd, 1) := by decide +kernel
theorem dX11_shotBlock_8 : decode cX11_shotBlock 8 = .ok (.iaload, 1) := by decide +kernel
theorem dX11_shotBlock_9 : decode cX11_shotBlock 9 = .ok (.ireturn, 1) := by decide +kernel
theorem ci_X11_shotBlock : Cond.instanceMethod yX11_shotBlock ∈ TW := TW_of 1779 (by decide +kernel) (by decide +kernel)
theorem cs_X11_shotBlock : Cond.selects yX11_shotBlock.cls yX11_shotBlock yX11_shotBlock ∈ TW := TW_of 67 (by decide +kernel) (by decide +kernel)
abbrev cX11_playsFrom : ByteArray := prog_13_method_71_code
def yX11_playsFrom : MethodName := ⟨RX11, "playsFrom", "(I)I"⟩
theorem dX11_playsFrom_0 : decode cX11_playsFrom 0 = .ok (.aload_n 0, 1) := by decide +kernel
theorem dX11_playsFrom_1 : decode cX11_playsFrom 1 = .ok (.iload_n 1, 1) := by decide +kernel
theorem dX11_playsFrom_2 : decode cX11_playsFrom 2 = .ok (.invokevirtual 299, 3) := by decide +kernel
theorem dX11_playsFrom_5 : decode cX11_playsFrom 5 = .ok (.aload_n 0, 1) := by decide +kernel
theorem dX11_playsFrom_6 : decode cX11_playsFrom 6 = .ok (.getfield 38, 3) := by decide +kernel
theorem dX11_playsFrom_9 : decode cX11_playsFrom 9 = .ok (.bipush 81, 2) := by decide +kernel
theorem dX11_playsFrom_11 : decode cX11_playsFrom 11 = .ok (.iload_n 1, 1) := by decide +kernel
theorem dX11_playsFrom_12 : decode cX11_playsFrom 12 = .ok (.iadd, 1) := by decide +kernel
theorem dX11_playsFrom_13 : decode cX11_playsFrom 13 = .ok (.iaload, 1) := by decide +kernel
theorem dX11_playsFrom_14 : decode cX11_playsFrom 14 = .ok (.isub, 1) := by decide +kernel
theorem dX11_playsFrom_15 : decode cX11_playsFrom 15 = .ok (.iload_n 1, 1) := by decide +kernel
theorem dX11_playsFrom_16 : decode cX11_playsFrom 16 = .ok (.ifCond .ne 7, 3) := by decide +kernel
theorem dX11_playsFrom_19 : decode cX11_playsFrom 19 = .ok (.iconst 0, 1) := by decide +kernel
theorem dX11_playsFrom_20 : decode cX11_playsFrom 20 = .ok (.goto 11, 3) := by decide +kernel
theorem dX11_playsFrom_23 : decode cX11_playsFrom 23 = .ok (.aload_n 0, 1) := by decide +kernel
theorem dX11_playsFrom_24 : decode cX11_playsFrom 24 = .ok (.getfield 26, 3) := by decide +kernel
theorem dX11_playsFrom_27 : decode cX11_playsFrom 27 = .ok (.iload_n 1, 1) := by decide +kernel
theorem dX11_playsFrom_28 : decode cX11_playsFrom 28 = .ok (.iconst 1, 1) := by decide +kernel
theorem dX11_playsFrom_29 : decode cX11_playsFrom 29 = .ok (.isub, 1) := by decide +kernel
theorem dX11_playsFrom_30 : decode cX11_playsFrom 30 = .ok (.iaload, 1) := by decide +kernel
theorem dX11_playsFrom_31 : decode cX11_playsFrom 31 = .ok (.invokestatic 98, 3) := by decide +kernel
theorem dX11_playsFrom_34 : decode cX11_playsFrom 34 = .ok (.ireturn, 1) := by decide +kernel
theorem ci_X11_playsFrom : Cond.instanceMethod yX11_playsFrom ∈ TW := TW_of 1787 (by decide +kernel) (by decide +kernel)
theorem cs_X11_playsFrom : Cond.selects yX11_playsFrom.cls yX11_playsFrom yX11_playsFrom ∈ TW := TW_of 68 (by decide +kernel) (by decide +kernel)
abbrev cX11_playsTo : ByteArray := prog_13_method_72_code
def yX11_playsTo : MethodName := ⟨RX11, "playsTo", "(I)I"⟩
theorem dX11_playsTo_0 : decode cX11_playsTo 0 = .ok (.aload_n 0, 1) := by decide +kernel
theorem dX11_playsTo_1 : decode cX11_playsTo 1 = .ok (.iload_n 1, 1) := by decide +kernel
theorem dX11_playsTo_2 : decode cX11_playsTo 2 = .ok (.invokevirtual 302, 3) := by decide +kernel
theorem dX11_playsTo_5 : decode cX11_playsTo 5 = .ok (.aload_n 0, 1) := by decide +kernel
theorem dX11_playsTo_6 : decode cX11_playsTo 6 = .ok (.getfield 38, 3) := by decide +kernel
theorem dX11_playsTo_9 : decode cX11_playsTo 9 = .ok (.bipush 121, 2) := by decide +kernel
theorem dX11_playsTo_11 : decode cX11_playsTo 11 = .ok (.iload_n 1, 1) := by decide +kernel
theorem dX11_playsTo_12 : decode cX11_playsTo 12 = .ok (.iadd, 1) := by decide +kernel
theorem dX11_playsTo_13 : decode cX11_playsTo 13 = .ok (.iaload, 1) := by decide +kernel
theorem dX11_playsTo_14 : decode cX11_playsTo 14 = .ok (.iadd, 1) := by decide +kernel
theorem dX11_playsTo_15 : decode cX11_playsTo 15 = .ok (.iload_n 1, 1) := by decide +kernel
theorem dX11_playsTo_16 : decode cX11_playsTo 16 = .ok (.aload_n 0, 1) := by decide +kernel
theorem dX11_playsTo_17 : decode cX11_playsTo 17 = .ok (.getfield 84, 3) := by decide +kernel
theorem dX11_playsTo_20 : decode cX11_playsTo 20 = .ok (.iconst 1, 1) := by decide +kernel
theorem dX11_playsTo_21 : decode cX11_playsTo 21 = .ok (.isub, 1) := by decide +kernel
theorem dX11_playsTo_22 : decode cX11_playsTo 22 = .ok (.if_icmp .ne 12, 3) := by decide +kernel
theorem dX11_playsTo_25 : decode cX11_playsTo 25 = .ok (.aload_n 0, 1) := by decide +kernel
theorem dX11_playsTo_26 : decode cX11_playsTo 26 = .ok (.getfield 13, 3) := by decide +kernel
theorem dX11_playsTo_29 : decode cX11_playsTo 29 = .ok (.iconst 0, 1) := by decide +kernel
theorem dX11_playsTo_30 : decode cX11_playsTo 30 = .ok (.iaload, 1) := by decide +kernel
theorem dX11_playsTo_31 : decode cX11_playsTo 31 = .ok (.goto 11, 3) := by decide +kernel
theorem dX11_playsTo_34 : decode cX11_playsTo 34 = .ok (.aload_n 0, 1) := by decide +kernel
theorem dX11_playsTo_35 : decode cX11_playsTo 35 = .ok (.getfield 23, 3) := by decide +kernel
theorem dX11_playsTo_38 : decode cX11_playsTo 38 = .ok (.iload_n 1, 1) := by decide +kernel
theorem dX11_playsTo_39 : decode cX11_playsTo 39 = .ok (.iconst 1, 1) := by decide +kernel
theorem dX11_playsTo_40 : decode cX11_playsTo 40 = .ok (.iadd, 1) := by decide +kernel
theorem dX11_playsTo_41 : decode cX11_playsTo 41 = .ok (.iaload, 1) := by decide +kernel
theorem dX11_playsTo_42 : decode cX11_playsTo 42 = .ok (.invokestatic 107, 3) := by decide +kernel
theorem dX11_playsTo_45 : decode cX11_playsTo 45 = .ok (.ireturn, 1) := by decide +kernel
theorem ci_X11_playsTo : Cond.instanceMethod yX11_playsTo ∈ TW := TW_of 1791 (by decide +kernel) (by decide +kernel)
theorem cs_X11_playsTo : Cond.selects yX11_playsTo.cls yX11_playsTo yX11_playsTo ∈ TW := TW_of 69 (by decide +kernel) (by decide +kernel)
abbrev cX11_plays : ByteArray := prog_13_method_73_code
def yX11_plays : MethodName := ⟨RX11, "plays", "(I)I"⟩
theorem dX11_plays_0 : decode cX11_plays 0 = .ok (.aload_n 0, 1) := by decide +kernel
theorem dX11_plays_1 : decode cX11_plays 1 = .ok (.iload_n 1, 1) := by decide +kernel
theorem dX11_plays_2 : decode cX11_plays 2 = .ok (.invokevirtual 305, 3) := by decide +kernel
theorem dX11_plays_5 : decode cX11_plays 5 = .ok (.aload_n 0, 1) := by decide +kernel
theorem dX11_plays_6 : decode cX11_plays 6 = .ok (.iload_n 1, 1) := by decide +kernel
theorem dX11_plays_7 : decode cX11_plays 7 = .ok (.invokevirtual 308, 3) := by decide +kernel
theorem dX11_plays_10 : decode cX11_plays 10 = .ok (.isub, 1) := by decide +kernel
theorem dX11_plays_11 : decode cX11_plays 11 = .ok (.ireturn, 1) := by decide +kernel
theorem ci_X11_plays : Cond.instanceMethod yX11_plays ∈ TW := TW_of 1799 (by decide +kernel) (by decide +kernel)
theorem cs_X11_plays : Cond.selects yX11_plays.cls yX11_plays yX11_plays ∈ TW := TW_of 71 (by decide +kernel) (by decide +kernel)
abbrev cX11_filmStart : ByteArray := prog_13_method_74_code
def yX11_filmStart : MethodName := ⟨RX11, "filmStart", "(I)I"⟩
theorem dX11_filmStart_0 : decode cX11_filmStart 0 = .ok (.iconst 0, 1) := by decide +kernel
theorem dX11_filmStart_1 : decode cX11_filmStart 1 = .ok (.istore_n 2, 1) := by decide +kernel
theorem dX11_filmStart_2 : decode cX11_filmStart 2 = .ok (.iconst 0, 1) := by decide +kernel
theorem dX11_filmStart_3 : decode cX11_filmStart 3 = .ok (.istore_n 3, 1) := by decide +kernel
theorem dX11_filmStart_4 : decode cX11_filmStart 4 = .ok (.iload_n 3, 1) := by decide +kernel
theorem dX11_filmStart_5 : decode cX11_filmStart 5 = .ok (.iload_n 1, 1) := by decide +kernel
theorem dX11_filmStart_6 : decode cX11_filmStart 6 = .ok (.if_icmp .ge 21, 3) := by decide +kernel
theorem dX11_filmStart_9 : decode cX11_filmStart 9 = .ok (.iload_n 2, 1) := by decide +kernel
theorem dX11_filmStart_10 : decode cX11_filmStart 10 = .ok (.aload_n 0, 1) := by decide +kernel
theorem dX11_filmStart_11 : decode cX11_filmStart 11 = .ok (.aload_n 0, 1) := by decide +kernel
theorem dX11_filmStart_12 : decode cX11_filmStart 12 = .ok (.iload_n 3, 1) := by decide +kernel
theorem dX11_filmStart_13 : decode cX11_filmStart 13 = .ok (.invokevirtual 311, 3) := by decide +kernel
theorem dX11_filmStart_16 : decode cX11_filmStart 16 = .ok (.invokevirtual 314, 3) := by decide +kernel
theorem dX11_filmStart_19 : decode cX11_filmStart 19 = .ok (.iadd, 1) := by decide +kernel
theorem dX11_filmStart_20 : decode cX11_filmStart 20 = .ok (.istore_n 2, 1) := by decide +kernel
theorem dX11_filmStart_21 : decode cX11_filmStart 21 = .ok (.iinc 3 1, 3) := by decide +kernel
theorem dX11_filmStart_24 : decode cX11_filmStart 24 = .ok (.goto (-20), 3) := by decide +kernel
theorem dX11_filmStart_27 : decode cX11_filmStart 27 = .ok (.iload_n 2, 1) := by decide +kernel
theorem dX11_filmStart_28 : decode cX11_filmStart 28 = .ok (.ireturn, 1) := by decide +kernel
theorem ci_X11_filmStart : Cond.instanceMethod yX11_filmStart ∈ TW := TW_of 1795 (by decide +kernel) (by decide +kernel)
theorem cs_X11_filmStart : Cond.selects yX11_filmStart.cls yX11_filmStart yX11_filmStart ∈ TW := TW_of 70 (by decide +kernel) (by decide +kernel)
abbrev cX11_film : ByteArray := prog_13_method_75_code
def yX11_film : MethodName := ⟨RX11, "film", "()I"⟩
theorem dX11_film_0 : decode cX11_film 0 = .ok (.aload_n 0, 1) := by decide +kernel
theorem dX11_film_1 : decode cX11_film 1 = .ok (.aload_n 0, 1) := by decide +kernel
theorem dX11_film_2 : decode cX11_film 2 = .ok (.getfield 38, 3) := by decide +kernel
theorem dX11_film_5 : decode cX11_film 5 = .ok (.bipush 40, 2) := by decide +kernel
theorem dX11_film_7 : decode cX11_film 7 = .ok (.iaload, 1) := by decide +kernel
theorem dX11_film_8 : decode cX11_film 8 = .ok (.invokevirtual 317, 3) := by decide +kernel
theorem dX11_film_11 : decode cX11_film 11 = .ok (.ireturn, 1) := by decide +kernel
theorem ci_X11_film : Cond.instanceMethod yX11_film ∈ TW := TW_of 1807 (by decide +kernel) (by decide +kernel)
theorem cs_X11_film : Cond.selects yX11_film.cls yX11_film yX11_film ∈ TW := TW_of 72 (by decide +kernel) (by decide +kernel)
abbrev cX11_shots : ByteArray := prog_13_method_76_code
def yX11_shots : MethodName := ⟨RX11, "shots", "()I"⟩
theorem dX11_shots_0 : decode cX11_shots 0 = .ok (.aload_n 0, 1) := by decide +kernel
theorem dX11_shots_1 : decode cX11_shots 1 = .ok (.iconst 0, 1) := by decide +kernel
theorem dX11_shots_2 : decode cX11_shots 2 = .ok (.putfield 3, 3) := by decide +kernel
theorem dX11_shots_5 : decode cX11_shots 5 = .ok (.aload_n 0, 1) := by decide +kernel
theorem dX11_shots_6 : decode cX11_shots 6 = .ok (.getfield 38, 3) := by decide +kernel
theorem dX11_shots_9 : decode cX11_shots 9 = .ok (.bipush 40, 2) := by decide +kernel
theorem dX11_shots_11 : decode cX11_shots 11 = .ok (.iaload, 1) := by decide +kernel
theorem dX11_shots_12 : decode cX11_shots 12 = .ok (.ireturn, 1) := by decide +kernel
theorem ci_X11_shots : Cond.instanceMethod yX11_shots ∈ TW := TW_of 1766 (by decide +kernel) (by decide +kernel)
theorem cs_X11_shots : Cond.selects yX11_shots.cls yX11_shots yX11_shots ∈ TW := TW_of 1767 (by decide +kernel) (by decide +kernel)
abbrev cX11_blockOf : ByteArray := prog_13_method_77_code
def yX11_blockOf : MethodName := ⟨RX11, "blockOf", "(I)I"⟩
theorem dX11_blockOf_0 : decode cX11_blockOf 0 = .ok (.aload_n 0, 1) := by decide +kernel
theorem dX11_blockOf_1 : decode cX11_blockOf 1 = .ok (.iconst 0, 1) := by decide +kernel
theorem dX11_blockOf_2 : decode cX11_blockOf 2 = .ok (.putfield 3, 3) := by decide +kernel
theorem dX11_blockOf_5 : decode cX11_blockOf 5 = .ok (.aload_n 0, 1) := by decide +kernel
theorem dX11_blockOf_6 : decode cX11_blockOf 6 = .ok (.iload_n 1, 1) := by decide +kernel
theorem dX11_blockOf_7 : decode cX11_blockOf 7 = .ok (.invokevirtual 320, 3) := by decide +kernel
theorem dX11_blockOf_10 : decode cX11_blockOf 10 = .ok (.ifCond .eq 7, 3) := by decide +kernel
theorem dX11_blockOf_13 : decode cX11_blockOf 13 = .ok (.iconst 0, 1) := by decide +kernel
theorem dX11_blockOf_14 : decode cX11_blockOf 14 = .ok (.goto 8, 3) := by decide +kernel
theorem dX11_blockOf_17 : decode cX11_blockOf 17 = .ok (.aload_n 0, 1) := by decide +kernel
theorem dX11_blockOf_18 : decode cX11_blockOf 18 = .ok (.iload_n 1, 1) := by decide +kernel
theorem dX11_blockOf_19 : decode cX11_blockOf 19 = .ok (.invokevirtual 311, 3) := by decide +kernel
theorem dX11_blockOf_22 : decode cX11_blockOf 22 = .ok (.ireturn, 1) := by decide +kernel
theorem ci_X11_blockOf : Cond.instanceMethod yX11_blockOf ∈ TW := TW_of 1770 (by decide +kernel) (by decide +kernel)
theorem cs_X11_blockOf : Cond.selects yX11_blockOf.cls yX11_blockOf yX11_blockOf ∈ TW := TW_of 1771 (by decide +kernel) (by decide +kernel)
abbrev cX11_shotField : ByteArray := prog_13_method_78_code
def yX11_shotField : MethodName := ⟨RX11, "shotField", "(II)I"⟩
theorem dX11_shotField_0 : decode cX11_shotField 0 = .ok (.aload_n 0, 1) := by decide +kernel
theorem dX11_shotField_1 : decode cX11_shotField 1 = .ok (.iconst 0, 1) := by decide +kernel
theorem dX11_shotField_2 : decode cX11_shotField 2 = .ok (.putfield 3, 3) := by decide +kernel
theorem dX11_shotField_5 : decode cX11_shotField 5 = .ok (.aload_n 0, 1) := by decide +kernel
theorem dX11_shotField_6 : decode cX11_shotField 6 = .ok (.iload_n 1, 1) := by decide +kernel
theorem dX11_shotField_7 : decode cX11_shotField 7 = .ok (.invokevirtual 320, 3) := by decide +kernel
theorem dX11_shotField_10 : decode cX11_shotField 10 = .ok (.ifCond .eq 5, 3) := by decide +kernel
theorem dX11_shotField_13 : decode cX11_shotField 13 = .ok (.iconst 0, 1) := by decide +kernel
theorem dX11_shotField_14 : decode cX11_shotField 14 = .ok (.ireturn, 1) := by decide +kernel
theorem dX11_shotField_15 : decode cX11_shotField 15 = .ok (.aload_n 0, 1) := by decide +kernel
theorem dX11_shotField_16 : decode cX11_shotField 16 = .ok (.iload_n 1, 1) := by decide +kernel
theorem dX11_shotField_17 : decode cX11_shotField 17 = .ok (.invokevirtual 311, 3) := by decide +kernel
theorem dX11_shotField_20 : decode cX11_shotField 20 = .ok (.istore_n 3, 1) := by decide +kernel
theorem dX11_shotField_21 : decode cX11_shotField 21 = .ok (.iload_n 2, 1) := by decide +kernel
theorem dX11_shotField_22 : decode cX11_shotField 22 = .ok (.ifCond .ne 11, 3) := by decide +kernel
theorem dX11_shotField_25 : decode cX11_shotField 25 = .ok (.aload_n 0, 1) := by decide +kernel
theorem dX11_shotField_26 : decode cX11_shotField 26 = .ok (.iload_n 3, 1) := by decide +kernel
theorem dX11_shotField_27 : decode cX11_shotField 27 = .ok (.invokevirtual 308, 3) := by decide +kernel
theorem dX11_shotField_30 : decode cX11_shotField 30 = .ok (.goto 30, 3) := by decide +kernel
theorem dX11_shotField_33 : decode cX11_shotField 33 = .ok (.iload_n 2, 1) := by decide +kernel
theorem dX11_shotField_34 : decode cX11_shotField 34 = .ok (.iconst 1, 1) := by decide +kernel
theorem dX11_shotField_35 : decode cX11_shotField 35 = .ok (.if_icmp .ne 11, 3) := by decide +kernel
theorem dX11_shotField_38 : decode cX11_shotField 38 = .ok (.aload_n 0, 1) := by decide +kernel
theorem dX11_shotField_39 : decode cX11_shotField 39 = .ok (.iload_n 3, 1) := by decide +kernel
theorem dX11_shotField_40 : decode cX11_shotField 40 = .ok (.invokevirtual 305, 3) := by decide +kernel
theorem dX11_shotField_43 : decode cX11_shotField 43 = .ok (.goto 17, 3) := by decide +kernel
theorem dX11_shotField_46 : decode cX11_shotField 46 = .ok (.iload_n 2, 1) := by decide +kernel
theorem dX11_shotField_47 : decode cX11_shotField 47 = .ok (.iconst 2, 1) := by decide +kernel
theorem dX11_shotField_48 : decode cX11_shotField 48 = .ok (.if_icmp .ne 11, 3) := by decide +kernel
theorem dX11_shotField_51 : decode cX11_shotField 51 = .ok (.aload_n 0, 1) := by decide +kernel
theorem dX11_shotField_52 : decode cX11_shotField 52 = .ok (.iload_n 1, 1) := by decide +kernel
theorem dX11_shotField_53 : decode cX11_shotField 53 = .ok (.invokevirtual 317, 3) := by decide +kernel
theorem dX11_shotField_56 : decode cX11_shotField 56 = .ok (.goto 4, 3) := by decide +kernel
theorem dX11_shotField_59 : decode cX11_shotField 59 = .ok (.iconst (-1), 1) := by decide +kernel
theorem dX11_shotField_60 : decode cX11_shotField 60 = .ok (.ireturn, 1) := by decide +kernel
theorem ci_X11_shotField : Cond.instanceMethod yX11_shotField ∈ TW := TW_of 1782 (by decide +kernel) (by decide +kernel)
theorem cs_X11_shotField : Cond.selects yX11_shotField.cls yX11_shotField yX11_shotField ∈ TW := TW_of 1783 (by decide +kernel) (by decide +kernel)
abbrev cX11_filmLength : ByteArray := prog_13_method_79_code
def yX11_filmLength : MethodName := ⟨RX11, "filmLength", "()I"⟩
theorem dX11_filmLength_0 : decode cX11_filmLength 0 = .ok (.aload_n 0, 1) := by decide +kernel
theorem dX11_filmLength_1 : decode cX11_filmLength 1 = .ok (.iconst 0, 1) := by decide +kernel
theorem dX11_filmLength_2 : decode cX11_filmLength 2 = .ok (.putfield 3, 3) := by decide +kernel
theorem dX11_filmLength_5 : decode cX11_filmLength 5 = .ok (.aload_n 0, 1) := by decide +kernel
theorem dX11_filmLength_6 : decode cX11_filmLength 6 = .ok (.invokevirtual 323, 3) := by decide +kernel
theorem dX11_filmLength_9 : decode cX11_filmLength 9 = .ok (.ireturn, 1) := by decide +kernel
theorem ci_X11_filmLength : Cond.instanceMethod yX11_filmLength ∈ TW := TW_of 1802 (by decide +kernel) (by decide +kernel)
theorem cs_X11_filmLength : Cond.selects yX11_filmLength.cls yX11_filmLength yX11_filmLength ∈ TW := TW_of 1803 (by decide +kernel) (by decide +kernel)
abbrev cX11_beginsClip : ByteArray := prog_13_method_80_code
def yX11_beginsClip : MethodName := ⟨RX11, "beginsClip", "(I)Z"⟩
theorem dX11_beginsClip_0 : decode cX11_beginsClip 0 = .ok (.iload_n 1, 1) := by decide +kernel
theorem dX11_beginsClip_1 : decode cX11_beginsClip 1 = .ok (.ifCond .eq 26, 3) := by decide +kernel
theorem dX11_beginsClip_4 : decode cX11_beginsClip 4 = .ok (.aload_n 0, 1) := by decide +kernel
theorem dX11_beginsClip_5 : decode cX11_beginsClip 5 = .ok (.aload_n 0, 1) := by decide +kernel
theorem dX11_beginsClip_6 : decode cX11_beginsClip 6 = .ok (.iload_n 1, 1) := by decide +kernel
theorem dX11_beginsClip_7 : decode cX11_beginsClip 7 = .ok (.invokevirtual 311, 3) := by decide +kernel
theorem dX11_beginsClip_10 : decode cX11_beginsClip 10 = .ok (.invokevirtual 308, 3) := by decide +kernel
theorem dX11_beginsClip_13 : decode cX11_beginsClip 13 = .ok (.aload_n 0, 1) := by decide +kernel
theorem dX11_beginsClip_14 : decode cX11_beginsClip 14 = .ok (.aload_n 0, 1) := by decide +kernel
theorem dX11_beginsClip_15 : decode cX11_beginsClip 15 = .ok (.iload_n 1, 1) := by decide +kernel
theorem dX11_beginsClip_16 : decode cX11_beginsClip 16 = .ok (.iconst 1, 1) := by decide +kernel
theorem dX11_beginsClip_17 : decode cX11_beginsClip 17 = .ok (.isub, 1) := by decide +kernel
theorem dX11_beginsClip_18 : decode cX11_beginsClip 18 = .ok (.invokevirtual 311, 3) := by decide +kernel
theorem dX11_beginsClip_21 : decode cX11_beginsClip 21 = .ok (.invokevirtual 305, 3) := by decide +kernel
theorem dX11_beginsClip_24 : decode cX11_beginsClip 24 = .ok (.if_icmp .eq 7, 3) := by decide +kernel
theorem dX11_beginsClip_27 : decode cX11_beginsClip 27 = .ok (.iconst 1, 1) := by decide +kernel
theorem dX11_beginsClip_28 : decode cX11_beginsClip 28 = .ok (.goto 4, 3) := by decide +kernel
theorem dX11_beginsClip_31 : decode cX11_beginsClip 31 = .ok (.iconst 0, 1) := by decide +kernel
theorem dX11_beginsClip_32 : decode cX11_beginsClip 32 = .ok (.ireturn, 1) := by decide +kernel
theorem ci_X11_beginsClip : Cond.instanceMethod yX11_beginsClip ∈ TW := TW_of 1815 (by decide +kernel) (by decide +kernel)
theorem cs_X11_beginsClip : Cond.selects yX11_beginsClip.cls yX11_beginsClip yX11_beginsClip ∈ TW := TW_of 73 (by decide +kernel) (by decide +kernel)
abbrev cX11_clips : ByteArray := prog_13_method_81_code
def yX11_clips : MethodName := ⟨RX11, "clips", "()I"⟩
theorem dX11_clips_0 : decode cX11_clips 0 = .ok (.aload_n 0, 1) := by decide +kernel
theorem dX11_clips_1 : decode cX11_clips 1 = .ok (.iconst 0, 1) := by decide +kernel
theorem dX11_clips_2 : decode cX11_clips 2 = .ok (.putfield 3, 3) := by decide +kernel
theorem dX11_clips_5 : decode cX11_clips 5 = .ok (.iconst 0, 1) := by decide +kernel
theorem dX11_clips_6 : decode cX11_clips 6 = .ok (.istore_n 1, 1) := by decide +kernel
theorem dX11_clips_7 : decode cX11_clips 7 = .ok (.iconst 0, 1) := by decide +kernel
theorem dX11_clips_8 : decode cX11_clips 8 = .ok (.istore_n 2, 1) := by decide +kernel
theorem dX11_clips_9 : decode cX11_clips 9 = .ok (.iload_n 2, 1) := by decide +kernel
theorem dX11_clips_10 : decode cX11_clips 10 = .ok (.aload_n 0, 1) := by decide +kernel
theorem dX11_clips_11 : decode cX11_clips 11 = .ok (.getfield 38, 3) := by decide +kernel
theorem dX11_clips_14 : decode cX11_clips 14 = .ok (.bipush 40, 2) := by decide +kernel
theorem dX11_clips_16 : decode cX11_clips 16 = .ok (.iaload, 1) := by decide +kernel
theorem dX11_clips_17 : decode cX11_clips 17 = .ok (.if_icmp .ge 25, 3) := by decide +kernel
theorem dX11_clips_20 : decode cX11_clips 20 = .ok (.iload_n 1, 1) := by decide +kernel
theorem dX11_clips_21 : decode cX11_clips 21 = .ok (.aload_n 0, 1) := by decide +kernel
theorem dX11_clips_22 : decode cX11_clips 22 = .ok (.iload_n 2, 1) := by decide +kernel
theorem dX11_clips_23 : decode cX11_clips 23 = .ok (.invokevirtual 326, 3) := by decide +kernel
theorem dX11_clips_26 : decode cX11_clips 26 = .ok (.ifCond .eq 7, 3) := by decide +kernel
theorem dX11_clips_29 : decode cX11_clips 29 = .ok (.iconst 1, 1) := by decide +kernel
theorem dX11_clips_30 : decode cX11_clips 30 = .ok (.goto 4, 3) := by decide +kernel
theorem dX11_clips_33 : decode cX11_clips 33 = .ok (.iconst 0, 1) := by decide +kernel
theorem dX11_clips_34 : decode cX11_clips 34 = .ok (.iadd, 1) := by decide +kernel
theorem dX11_clips_35 : decode cX11_clips 35 = .ok (.istore_n 1, 1) := by decide +kernel
theorem dX11_clips_36 : decode cX11_clips 36 = .ok (.iinc 2 1, 3) := by decide +kernel
theorem dX11_clips_39 : decode cX11_clips 39 = .ok (.goto (-30), 3) := by decide +kernel
theorem dX11_clips_42 : decode cX11_clips 42 = .ok (.iload_n 1, 1) := by decide +kernel
theorem dX11_clips_43 : decode cX11_clips 43 = .ok (.ireturn, 1) := by decide +kernel
theorem ci_X11_clips : Cond.instanceMethod yX11_clips ∈ TW := TW_of 1810 (by decide +kernel) (by decide +kernel)
theorem cs_X11_clips : Cond.selects yX11_clips.cls yX11_clips yX11_clips ∈ TW := TW_of 1811 (by decide +kernel) (by decide +kernel)
abbrev cX11_clipAt : ByteArray := prog_13_method_82_code
def yX11_clipAt : MethodName := ⟨RX11, "clipAt", "(I)I"⟩
theorem dX11_clipAt_0 : decode cX11_clipAt 0 = .ok (.iconst 0, 1) := by decide +kernel
theorem dX11_clipAt_1 : decode cX11_clipAt 1 = .ok (.istore_n 2, 1) := by decide +kernel
theorem dX11_clipAt_2 : decode cX11_clipAt 2 = .ok (.iconst 0, 1) := by decide +kernel
theorem dX11_clipAt_3 : decode cX11_clipAt 3 = .ok (.istore_n 3, 1) := by decide +kernel
theorem dX11_clipAt_4 : decode cX11_clipAt 4 = .ok (.iload_n 3, 1) := by decide +kernel
theorem dX11_clipAt_5 : decode cX11_clipAt 5 = .ok (.aload_n 0, 1) := by decide +kernel
theorem dX11_clipAt_6 : decode cX11_clipAt 6 = .ok (.getfield 38, 3) := by decide +kernel
theorem dX11_clipAt_9 : decode cX11_clipAt 9 = .ok (.bipush 40, 2) := by decide +kernel
theorem dX11_clipAt_11 : decode cX11_clipAt 11 = .ok (.iaload, 1) := by decide +kernel
theorem dX11_clipAt_12 : decode cX11_clipAt 12 = .ok (.if_icmp .ge 30, 3) := by decide +kernel
theorem dX11_clipAt_15 : decode cX11_clipAt 15 = .ok (.aload_n 0, 1) := by decide +kernel
theorem dX11_clipAt_16 : decode cX11_clipAt 16 = .ok (.iload_n 3, 1) := by decide +kernel
theorem dX11_clipAt_17 : decode cX11_clipAt 17 = .ok (.invokevirtual 326, 3) := by decide +kernel
theorem dX11_clipAt_20 : decode cX11_clipAt 20 = .ok (.ifCond .ne 6, 3) := by decide +kernel
theorem dX11_clipAt_23 : decode cX11_clipAt 23 = .ok (.goto 13, 3) := by decide +kernel
theorem dX11_clipAt_26 : decode cX11_clipAt 26 = .ok (.iload_n 2, 1) := by decide +kernel
theorem dX11_clipAt_27 : decode cX11_clipAt 27 = .ok (.iload_n 1, 1) := by decide +kernel
theorem dX11_clipAt_28 : decode cX11_clipAt 28 = .ok (.if_icmp .ne 5, 3) := by decide +kernel
theorem dX11_clipAt_31 : decode cX11_clipAt 31 = .ok (.iload_n 3, 1) := by decide +kernel
theorem dX11_clipAt_32 : decode cX11_clipAt 32 = .ok (.ireturn, 1) := by decide +kernel
theorem dX11_clipAt_33 : decode cX11_clipAt 33 = .ok (.iinc 2 1, 3) := by decide +kernel
theorem dX11_clipAt_36 : decode cX11_clipAt 36 = .ok (.iinc 3 1, 3) := by decide +kernel
theorem dX11_clipAt_39 : decode cX11_clipAt 39 = .ok (.goto (-35), 3) := by decide +kernel
theorem dX11_clipAt_42 : decode cX11_clipAt 42 = .ok (.iconst (-1), 1) := by decide +kernel
theorem dX11_clipAt_43 : decode cX11_clipAt 43 = .ok (.ireturn, 1) := by decide +kernel
theorem ci_X11_clipAt : Cond.instanceMethod yX11_clipAt ∈ TW := TW_of 1823 (by decide +kernel) (by decide +kernel)
theorem cs_X11_clipAt : Cond.selects yX11_clipAt.cls yX11_clipAt yX11_clipAt ∈ TW := TW_of 74 (by decide +kernel) (by decide +kernel)
abbrev cX11_clipField : ByteArray := prog_13_method_83_code
def yX11_clipField : MethodName := ⟨RX11, "clipField", "(II)I"⟩
theorem dX11_clipField_0 : decode cX11_clipField 0 = .ok (.aload_n 0, 1) := by decide +kernel
theorem dX11_clipField_1 : decode cX11_clipField 1 = .ok (.iconst 0, 1) := by decide +kernel
theorem dX11_clipField_2 : decode cX11_clipField 2 = .ok (.putfield 3, 3) := by decide +kernel
theorem dX11_clipField_5 : decode cX11_clipField 5 = .ok (.aload_n 0, 1) := by decide +kernel
theorem dX11_clipField_6 : decode cX11_clipField 6 = .ok (.iload_n 1, 1) := by decide +kernel
theorem dX11_clipField_7 : decode cX11_clipField 7 = .ok (.invokevirtual 329, 3) := by decide +kernel
theorem dX11_clipField_10 : decode cX11_clipField 10 = .ok (.istore_n 3, 1) := by decide +kernel
theorem dX11_clipField_11 : decode cX11_clipField 11 = .ok (.iload_n 3, 1) := by decide +kernel
theorem dX11_clipField_12 : decode cX11_clipField 12 = .ok (.iconst (-1), 1) := by decide +kernel
theorem dX11_clipField_13 : decode cX11_clipField 13 = .ok (.if_icmp .ne 5, 3) := by decide +kernel
theorem dX11_clipField_16 : decode cX11_clipField 16 = .ok (.iconst (-1), 1) := by decide +kernel
theorem dX11_clipField_17 : decode cX11_clipField 17 = .ok (.ireturn, 1) := by decide +kernel
theorem dX11_clipField_18 : decode cX11_clipField 18 = .ok (.iload_n 3, 1) := by decide +kernel
theorem dX11_clipField_19 : decode cX11_clipField 19 = .ok (.istore 4, 2) := by decide +kernel
theorem dX11_clipField_21 : decode cX11_clipField 21 = .ok (.iload 4, 2) := by decide +kernel
theorem dX11_clipField_23 : decode cX11_clipField 23 = .ok (.iconst 1, 1) := by decide +kernel
theorem dX11_clipField_24 : decode cX11_clipField 24 = .ok (.iadd, 1) := by decide +kernel
theorem dX11_clipField_25 : decode cX11_clipField 25 = .ok (.aload_n 0, 1) := by decide +kernel
theorem dX11_clipField_26 : decode cX11_clipField 26 = .ok (.getfield 38, 3) := by decide +kernel
theorem dX11_clipField_29 : decode cX11_clipField 29 = .ok (.bipush 40, 2) := by decide +kernel
theorem dX11_clipField_31 : decode cX11_clipField 31 = .ok (.iaload, 1) := by decide +kernel
theorem dX11_clipField_32 : decode cX11_clipField 32 = .ok (.if_icmp .ge 20, 3) := by decide +kernel
theorem dX11_clipField_35 : decode cX11_clipField 35 = .ok (.aload_n 0, 1) := by decide +kernel
theorem dX11_clipField_36 : decode cX11_clipField 36 = .ok (.iload 4, 2) := by decide +kernel
theorem dX11_clipField_38 : decode cX11_clipField 38 = .ok (.iconst 1, 1) := by decide +kernel
theorem dX11_clipField_39 : decode cX11_clipField 39 = .ok (.iadd, 1) := by decide +kernel
theorem dX11_clipField_40 : decode cX11_clipField 40 = .ok (.invokevirtual 326, 3) := by decide +kernel
theorem dX11_clipField_43 : decode cX11_clipField 43 = .ok (.ifCond .ne 9, 3) := by decide +kernel
theorem dX11_clipField_46 : decode cX11_clipField 46 = .ok (.iinc 4 1, 3) := by decide +kernel
theorem dX11_clipField_49 : decode cX11_clipField 49 = .ok (.goto (-28), 3) := by decide +kernel
theorem dX11_clipField_52 : decode cX11_clipField 52 = .ok (.iload_n 2, 1) := by decide +kernel
theorem dX11_clipField_53 : decode cX11_clipField 53 = .ok (.tableswitch 65 0 3 #[31, 41, 52, 58], 31) := by decide +kernel
theorem dX11_clipField_84 : decode cX11_clipField 84 = .ok (.aload_n 0, 1) := by decide +kernel
theorem dX11_clipField_85 : decode cX11_clipField 85 = .ok (.aload_n 0, 1) := by decide +kernel
theorem dX11_clipField_86 : decode cX11_clipField 86 = .ok (.iload_n 3, 1) := by decide +kernel
theorem dX11_clipField_87 : decode cX11_clipField 87 = .ok (.invokevirtual 311, 3) := by decide +kernel
theorem dX11_clipField_90 : decode cX11_clipField 90 = .ok (.invokevirtual 308, 3) := by decide +kernel
theorem dX11_clipField_93 : decode cX11_clipField 93 = .ok (.ireturn, 1) := by decide +kernel
theorem dX11_clipField_94 : decode cX11_clipField 94 = .ok (.aload_n 0, 1) := by decide +kernel
theorem dX11_clipField_95 : decode cX11_clipField 95 = .ok (.aload_n 0, 1) := by decide +kernel
theorem dX11_clipField_96 : decode cX11_clipField 96 = .ok (.iload 4, 2) := by decide +kernel
theorem dX11_clipField_98 : decode cX11_clipField 98 = .ok (.invokevirtual 311, 3) := by decide +kernel
theorem dX11_clipField_101 : decode cX11_clipField 101 = .ok (.invokevirtual 305, 3) := by decide +kernel
theorem dX11_clipField_104 : decode cX11_clipField 104 = .ok (.ireturn, 1) := by decide +kernel
theorem dX11_clipField_105 : decode cX11_clipField 105 = .ok (.aload_n 0, 1) := by decide +kernel
theorem dX11_clipField_106 : decode cX11_clipField 106 = .ok (.iload_n 3, 1) := by decide +kernel
theorem dX11_clipField_107 : decode cX11_clipField 107 = .ok (.invokevirtual 317, 3) := by decide +kernel
theorem dX11_clipField_110 : decode cX11_clipField 110 = .ok (.ireturn, 1) := by decide +kernel
theorem dX11_clipField_111 : decode cX11_clipField 111 = .ok (.iload 4, 2) := by decide +kernel
theorem dX11_clipField_113 : decode cX11_clipField 113 = .ok (.iload_n 3, 1) := by decide +kernel
theorem dX11_clipField_114 : decode cX11_clipField 114 = .ok (.isub, 1) := by decide +kernel
theorem dX11_clipField_115 : decode cX11_clipField 115 = .ok (.iconst 1, 1) := by decide +kernel
theorem dX11_clipField_116 : decode cX11_clipField 116 = .ok (.iadd, 1) := by decide +kernel
theorem dX11_clipField_117 : decode cX11_clipField 117 = .ok (.ireturn, 1) := by decide +kernel
theorem dX11_clipField_118 : decode cX11_clipField 118 = .ok (.iconst (-1), 1) := by decide +kernel
theorem dX11_clipField_119 : decode cX11_clipField 119 = .ok (.ireturn, 1) := by decide +kernel
theorem ci_X11_clipField : Cond.instanceMethod yX11_clipField ∈ TW := TW_of 1818 (by decide +kernel) (by decide +kernel)
theorem cs_X11_clipField : Cond.selects yX11_clipField.cls yX11_clipField yX11_clipField ∈ TW := TW_of 1819 (by decide +kernel) (by decide +kernel)
theorem cw_X11_275 : CWd RX11 275 yX11_isKept cX11_isKept 2 (some .boolean) 1 := ⟨TW_of 1705 (by decide +kernel) (by decide +kernel), TW_of 1708 (by decide +kernel) (by decide +kernel), TW_of 112 (by decide +kernel) (by decide +kernel), by decide +kernel⟩
theorem cw_X11_278 : CWd RX11 278 yX11_shotOf cX11_shotOf 3 (some .int) 1 := ⟨TW_of 1709 (by decide +kernel) (by decide +kernel), TW_of 1712 (by decide +kernel) (by decide +kernel), TW_of 112 (by decide +kernel) (by decide +kernel), by decide +kernel⟩
theorem cw_X11_281 : CWd RX11 281 yX11_share cX11_share 3 (some .boolean) 2 := ⟨TW_of 1717 (by decide +kernel) (by decide +kernel), TW_of 1720 (by decide +kernel) (by decide +kernel), TW_of 112 (by decide +kernel) (by decide +kernel), by decide +kernel⟩
theorem cw_X11_284 : CWd RX11 284 yX11_noWord cX11_noWord 2 (some .boolean) 1 := ⟨TW_of 1697 (by decide +kernel) (by decide +kernel), TW_of 1700 (by decide +kernel) (by decide +kernel), TW_of 112 (by decide +kernel) (by decide +kernel), by decide +kernel⟩
theorem cw_X11_287 : CWd RX11 287 yX11_stateOf cX11_stateOf 2 (some .int) 1 := ⟨TW_of 1701 (by decide +kernel) (by decide +kernel), TW_of 1704 (by decide +kernel) (by decide +kernel), TW_of 112 (by decide +kernel) (by decide +kernel), by decide +kernel⟩
theorem cw_X11_290 : CWd RX11 290 yX11_overlaps cX11_overlaps 4 (some .int) 1 := ⟨TW_of 1713 (by decide +kernel) (by decide +kernel), TW_of 1716 (by decide +kernel) (by decide +kernel), TW_of 112 (by decide +kernel) (by decide +kernel), by decide +kernel⟩
theorem cw_X11_293 : CWd RX11 293 yX11_noBlock cX11_noBlock 2 (some .boolean) 1 := ⟨TW_of 1737 (by decide +kernel) (by decide +kernel), TW_of 1740 (by decide +kernel) (by decide +kernel), TW_of 112 (by decide +kernel) (by decide +kernel), by decide +kernel⟩
theorem cw_X11_296 : CWd RX11 296 yX11_keptIn cX11_keptIn 4 (some .int) 1 := ⟨TW_of 1741 (by decide +kernel) (by decide +kernel), TW_of 1744 (by decide +kernel) (by decide +kernel), TW_of 112 (by decide +kernel) (by decide +kernel), by decide +kernel⟩
theorem cw_X11_299 : CWd RX11 299 yX11_rangeStart cX11_rangeStart 2 (some .int) 1 := ⟨TW_of 1745 (by decide +kernel) (by decide +kernel), TW_of 1748 (by decide +kernel) (by decide +kernel), TW_of 112 (by decide +kernel) (by decide +kernel), by decide +kernel⟩
theorem cw_X11_302 : CWd RX11 302 yX11_rangeEnd cX11_rangeEnd 2 (some .int) 1 := ⟨TW_of 1749 (by decide +kernel) (by decide +kernel), TW_of 1752 (by decide +kernel) (by decide +kernel), TW_of 112 (by decide +kernel) (by decide +kernel), by decide +kernel⟩
theorem cw_X11_305 : CWd RX11 305 yX11_playsTo cX11_playsTo 2 (some .int) 1 := ⟨TW_of 1789 (by decide +kernel) (by decide +kernel), TW_of 1792 (by decide +kernel) (by decide +kernel), TW_of 112 (by decide +kernel) (by decide +kernel), by decide +kernel⟩
theorem cw_X11_308 : CWd RX11 308 yX11_playsFrom cX11_playsFrom 2 (some .int) 1 := ⟨TW_of 1785 (by decide +kernel) (by decide +kernel), TW_of 1788 (by decide +kernel) (by decide +kernel), TW_of 112 (by decide +kernel) (by decide +kernel), by decide +kernel⟩
theorem cw_X11_311 : CWd RX11 311 yX11_shotBlock cX11_shotBlock 2 (some .int) 1 := ⟨TW_of 1777 (by decide +kernel) (by decide +kernel), TW_of 1780 (by decide +kernel) (by decide +kernel), TW_of 112 (by decide +kernel) (by decide +kernel), by decide +kernel⟩
theorem cw_X11_314 : CWd RX11 314 yX11_plays cX11_plays 2 (some .int) 1 := ⟨TW_of 1797 (by decide +kernel) (by decide +kernel), TW_of 1800 (by decide +kernel) (by decide +kernel), TW_of 112 (by decide +kernel) (by decide +kernel), by decide +kernel⟩
theorem cw_X11_317 : CWd RX11 317 yX11_filmStart cX11_filmStart 4 (some .int) 1 := ⟨TW_of 1793 (by decide +kernel) (by decide +kernel), TW_of 1796 (by decide +kernel) (by decide +kernel), TW_of 112 (by decide +kernel) (by decide +kernel), by decide +kernel⟩
theorem cw_X11_320 : CWd RX11 320 yX11_noShot cX11_noShot 2 (some .boolean) 1 := ⟨TW_of 1773 (by decide +kernel) (by decide +kernel), TW_of 1776 (by decide +kernel) (by decide +kernel), TW_of 112 (by decide +kernel) (by decide +kernel), by decide +kernel⟩
theorem cw_X11_323 : CWd RX11 323 yX11_film cX11_film 1 (some .int) 0 := ⟨TW_of 1805 (by decide +kernel) (by decide +kernel), TW_of 1808 (by decide +kernel) (by decide +kernel), TW_of 112 (by decide +kernel) (by decide +kernel), by decide +kernel⟩
theorem cw_X11_326 : CWd RX11 326 yX11_beginsClip cX11_beginsClip 2 (some .boolean) 1 := ⟨TW_of 1813 (by decide +kernel) (by decide +kernel), TW_of 1816 (by decide +kernel) (by decide +kernel), TW_of 112 (by decide +kernel) (by decide +kernel), by decide +kernel⟩
theorem cw_X11_329 : CWd RX11 329 yX11_clipAt cX11_clipAt 4 (some .int) 1 := ⟨TW_of 1821 (by decide +kernel) (by decide +kernel), TW_of 1824 (by decide +kernel) (by decide +kernel), TW_of 112 (by decide +kernel) (by decide +kernel), by decide +kernel⟩
set_option maxRecDepth 20000 in
set_option maxHeartbeats 1000000 in
theorem j_X11_noBlock_20 {l : Launch} {Z : ZT} {h : Hp} {p1 : Int32} {g : Hp} {s1 : Int32} {p : Program} {e : Env} {s : State} {m : MethodId} {args : Array Value} {below : List Frame} {meth : Method} {c : Code} (C : CX p s m args meth c cX11_noBlock RX11 2 (some .boolean) Z) {out : Int32 × Hp} {ls : Array Slot} {H : Heap} {locs : List Loc} (hW : XW Z h g s.heap H locs) (hl : lv_has ls 2 [(0, .ref (Z.1 125)), (1, .int p1)]) (hf : J_X11_noBlock_20 p1 g s1 = some out) : W p l e (rmD 1) s m args below meth c H locs 0 0 (MQ below (va_Qi (fun r (_ : Unit) => r = out.1) (fun _ => Wd Z h out.2) (FR Z)) args s 0 0 (FR Z)) (F0 m 20 ls [.int s1, .ref (Z.1 125)]) := by
  rw [J_X11_noBlock_20] at hf
  refine lv_iconst (v := 1) C.1 C.2.1 dX11_noBlock_20 (by decide) ?_
  obtain ⟨u1, hcu1, hf⟩ := bnd_t hf
  refine x_calli hW (x_runV C hW hl (wk9 (k_125)) rfl rfl (c_X11_throwsIf hcu1) (cw_X11_216) ci_X11_throwsIf cs_X11_throwsIf (rm_ok (by decide) (by decide)) ⟨Nat.le_refl _, Nat.le_refl _⟩ (As := [.int s1, .int (1 : Int32)]) rfl rfl (Nat.le_of_ble_eq_true rfl) dX11_noBlock_21) (fun H locs hW => ?_)
  obtain ⟨hz, hf⟩ := ck_t hf
  obtain rfl := Option.some.inj hf
  exact x_zret C hW hz dX11_noBlock_24 rfl
set_option maxRecDepth 20000 in
set_option maxHeartbeats 1000000 in
theorem c_X11_noBlock {l : Launch} {Z : ZT} {h : Hp} {g : Hp} {p1 : Int32} {out : Int32 × Hp} (hf : f_X11_noBlock g p1 = some out) : Met l yX11_noBlock (wY yX11_noBlock cX11_noBlock 2 (some .boolean)) (rmD 1) (va_Pc [.ref (Z.1 125), .int p1] (Wd Z h g)) (va_Qi (fun r (_ : Unit) => r = out.1) (fun _ => Wd Z h out.2) (FR Z)) 0 0 (FR Z) := by
  refine metX RX11 rfl (by decide +kernel) (Nat.le_of_ble_eq_true rfl) ?_
  intro p e s m args below meth c C hW ls hl
  have hl : lv_has ls 2 [(0, .ref (Z.1 125)), (1, .int p1)] := hl
  unfold f_X11_noBlock at hf
  refine lv_aload_n C.1 C.2.1 dX11_noBlock_0 rfl (lv_at hl 0 rfl) ?_
  refine lv_iload_n C.1 C.2.1 dX11_noBlock_1 rfl (lv_at hl 1 rfl) ?_
  refine lv_iconst (v := 0) C.1 C.2.1 dX11_noBlock_2 (by decide) ?_
  refine lv_aload_n C.1 C.2.1 dX11_noBlock_3 rfl (lv_at hl 0 rfl) ?_
  refine xg_X11_84 C hW (k_125) dX11_noBlock_4 ?_
  refine lv_iconst (v := 1) C.1 C.2.1 dX11_noBlock_7 (by decide) ?_
  refine lv_isub C.1 C.2.1 dX11_noBlock_8 ?_
  obtain ⟨u2, hcu2, hf⟩ := bnd_t hf
  refine x_calli hW (x_runS C hW hl (c_X11_in hcu2) (cw_X11_166) ct_X11_in (rm_ok (by decide) (by decide)) ⟨Nat.le_refl _, Nat.le_refl _⟩ (As := [.int p1, .int (0 : Int32), .int (g 125 3 - (1 : Int32))]) rfl rfl (Nat.le_of_ble_eq_true rfl) dX11_noBlock_9) (fun H locs hW => ?_)
  refine x_ifne (tgt := 19) C hf dX11_noBlock_12 (by decide) (fun hf => ?_) (fun hf => ?_)
  · refine lv_iconst (v := 0) C.1 C.2.1 dX11_noBlock_19 (by decide) ?_
    exact j_X11_noBlock_20 C hW (lv_sub hl [0, 1] rfl) hf
  · refine lv_iconst (v := 1) C.1 C.2.1 dX11_noBlock_15 (by decide) ?_
    refine lv_goto (tgt := 20) C.1 C.2.1 dX11_noBlock_16 (by decide) ?_
    exact j_X11_noBlock_20 C hW (lv_sub hl [0, 1] rfl) hf
set_option maxRecDepth 20000 in
set_option maxHeartbeats 1000000 in
theorem j_X11_noShot_23 {l : Launch} {Z : ZT} {h : Hp} {p1 : Int32} {g : Hp} {s1 : Int32} {p : Program} {e : Env} {s : State} {m : MethodId} {args : Array Value} {below : List Frame} {meth : Method} {c : Code} (C : CX p s m args meth c cX11_noShot RX11 2 (some .boolean) Z) {out : Int32 × Hp} {ls : Array Slot} {H : Heap} {locs : List Loc} (hW : XW Z h g s.heap H locs) (hl : lv_has ls 2 [(0, .ref (Z.1 125)), (1, .int p1)]) (hf : J_X11_noShot_23 p1 g s1 = some out) : W p l e (rmD 1) s m args below meth c H locs 0 0 (MQ below (va_Qi (fun r (_ : Unit) => r = out.1) (fun _ => Wd Z h out.2) (FR Z)) args s 0 0 (FR Z)) (F0 m 23 ls [.int s1, .ref (Z.1 125)]) := by
  rw [J_X11_noShot_23] at hf
  refine lv_iconst (v := 1) C.1 C.2.1 dX11_noShot_23 (by decide) ?_
  obtain ⟨u1, hcu1, hf⟩ := bnd_t hf
  refine x_calli hW (x_runV C hW hl (wk9 (k_125)) rfl rfl (c_X11_throwsIf hcu1) (cw_X11_216) ci_X11_throwsIf cs_X11_throwsIf (rm_ok (by decide) (by decide)) ⟨Nat.le_refl _, Nat.le_refl _⟩ (As := [.int s1, .int (1 : Int32)]) rfl rfl (Nat.le_of_ble_eq_true rfl) dX11_noShot_24) (fun H locs hW => ?_)
  obtain ⟨hz, hf⟩ := ck_t hf
  obtain rfl := Option.some.inj hf
  exact x_zret C hW hz dX11_noShot_27 rfl
set_option maxRecDepth 20000 in
set_option maxHeartbeats 1000000 in
theorem c_X11_noShot {l : Launch} {Z : ZT} {h : Hp} {g : Hp} {p1 : Int32} {out : Int32 × Hp} (hf : f_X11_noShot g p1 = some out) : Met l yX11_noShot (wY yX11_noShot cX11_noShot 2 (some .boolean)) (rmD 1) (va_Pc [.ref (Z.1 125), .int p1] (Wd Z h g)) (va_Qi (fun r (_ : Unit) => r = out.1) (fun _ => Wd Z h out.2) (FR Z)) 0 0 (FR Z) := by
  refine metX RX11 rfl (by decide +kernel) (Nat.le_of_ble_eq_true rfl) ?_
  intro p e s m args below meth c C hW ls hl
  have hl : lv_has ls 2 [(0, .ref (Z.1 125)), (1, .int p1)] := hl
  unfold f_X11_noShot at hf
  refine lv_aload_n C.1 C.2.1 dX11_noShot_0 rfl (lv_at hl 0 rfl) ?_
  refine lv_iload_n C.1 C.2.1 dX11_noShot_1 rfl (lv_at hl 1 rfl) ?_
  refine lv_iconst (v := 0) C.1 C.2.1 dX11_noShot_2 (by decide) ?_
  refine lv_aload_n C.1 C.2.1 dX11_noShot_3 rfl (lv_at hl 0 rfl) ?_
  refine xg_X11_38 C hW (k_125) dX11_noShot_4 ?_
  refine lv_bipush (v := 40) C.1 C.2.1 dX11_noShot_7 (by decide) ?_
  refine x_ialdM C hW a_134 hf dX11_noShot_9 (fun hf => ?_)
  refine lv_iconst (v := 1) C.1 C.2.1 dX11_noShot_10 (by decide) ?_
  refine lv_isub C.1 C.2.1 dX11_noShot_11 ?_
  obtain ⟨u2, hcu2, hf⟩ := bnd_t hf
  refine x_calli hW (x_runS C hW hl (c_X11_in hcu2) (cw_X11_166) ct_X11_in (rm_ok (by decide) (by decide)) ⟨Nat.le_refl _, Nat.le_refl _⟩ (As := [.int p1, .int (0 : Int32), .int (g 134 (ix (40 : Int32)) - (1 : Int32))]) rfl rfl (Nat.le_of_ble_eq_true rfl) dX11_noShot_12) (fun H locs hW => ?_)
  refine x_ifne (tgt := 22) C hf dX11_noShot_15 (by decide) (fun hf => ?_) (fun hf => ?_)
  · refine lv_iconst (v := 0) C.1 C.2.1 dX11_noShot_22 (by decide) ?_
    exact j_X11_noShot_23 C hW (lv_sub hl [0, 1] rfl) hf
  · refine lv_iconst (v := 1) C.1 C.2.1 dX11_noShot_18 (by decide) ?_
    refine lv_goto (tgt := 23) C.1 C.2.1 dX11_noShot_19 (by decide) ?_
    exact j_X11_noShot_23 C hW (lv_sub hl [0, 1] rfl) hf
set_option maxRecDepth 20000 in
set_option maxHeartbeats 1000000 in
theorem c_X11_count {l : Launch} {Z : ZT} {h : Hp} {g : Hp} {p1 : Int32} {out : Int32 × Hp} (hf : f_X11_count g p1 = some out) : Met l yX11_count (wY yX11_count cX11_count 2 (some .int)) (rmD 1) (va_Pc [.ref (Z.1 125), .int p1] (Wd Z h g)) (va_Qi (fun r (_ : Unit) => r = out.1) (fun _ => Wd Z h out.2) (FR Z)) 0 0 (FR Z) := by
  refine metX RX11 rfl (by decide +kernel) (Nat.le_of_ble_eq_true rfl) ?_
  intro p e s m args below meth c C hW ls hl
  have hl : lv_has ls 2 [(0, .ref (Z.1 125)), (1, .int p1)] := hl
  unfold f_X11_count at hf
  refine lv_aload_n C.1 C.2.1 dX11_count_0 rfl (lv_at hl 0 rfl) ?_
  refine lv_iconst (v := 0) C.1 C.2.1 dX11_count_1 (by decide) ?_
  refine xp_X11_3 C hW (k_125) hf dX11_count_2 (fun g1 H locs hf hW => ?_)
  refine lv_iload_n C.1 C.2.1 dX11_count_5 rfl (lv_at hl 1 rfl) ?_
  rcases Classical.em (p1 = 0) with q0 | q0
  · rw [if_pos q0] at hf
    refine x_swin (tgt := 44) C q0 dX11_count_6 (by decide) (by decide) rfl (by decide) ?_
    refine lv_aload_n C.1 C.2.1 dX11_count_44 rfl (lv_at hl 0 rfl) ?_
    refine xg_X11_13 C hW (k_125) dX11_count_45 ?_
    refine lv_iconst (v := 0) C.1 C.2.1 dX11_count_48 (by decide) ?_
    refine x_ialdM C hW a_126 hf dX11_count_49 (fun hf => ?_)
    obtain rfl := Option.some.inj hf
    exact x_iret C hW dX11_count_50 rfl
  · rw [if_neg q0] at hf
    rcases Classical.em (p1 = 1) with q1 | q1
    · rw [if_pos q1] at hf
      refine x_swin (tgt := 51) C q1 dX11_count_6 (by decide) (by decide) rfl (by decide) ?_
      refine lv_aload_n C.1 C.2.1 dX11_count_51 rfl (lv_at hl 0 rfl) ?_
      refine xg_X11_13 C hW (k_125) dX11_count_52 ?_
      refine lv_iconst (v := 2) C.1 C.2.1 dX11_count_55 (by decide) ?_
      refine x_ialdM C hW a_126 hf dX11_count_56 (fun hf => ?_)
      obtain rfl := Option.some.inj hf
      exact x_iret C hW dX11_count_57 rfl
    · rw [if_neg q1] at hf
      rcases Classical.em (p1 = 2) with q2 | q2
      · rw [if_pos q2] at hf
        refine x_swin (tgt := 58) C q2 dX11_count_6 (by decide) (by decide) rfl (by decide) ?_
        refine lv_aload_n C.1 C.2.1 dX11_count_58 rfl (lv_at hl 0 rfl) ?_
        obtain ⟨u2, hcu2, hf⟩ := bnd_t hf
        refine x_calli hW (x_runV C hW hl (wk9 (k_125)) rfl rfl (c_X11_words hcu2) (cw_X11_90) ci_X11_words cs_X11_words (rm_ok (by decide) (by decide)) ⟨Nat.le_refl _, Nat.le_refl _⟩ (As := []) rfl rfl (Nat.le_of_ble_eq_true rfl) dX11_count_59) (fun H locs hW => ?_)
        obtain rfl := Option.some.inj hf
        exact x_iret C hW dX11_count_62 rfl
      · rw [if_neg q2] at hf
        rcases Classical.em (p1 = 3) with q3 | q3
        · rw [if_pos q3] at hf
          refine x_swin (tgt := 63) C q3 dX11_count_6 (by decide) (by decide) rfl (by decide) ?_
          refine lv_aload_n C.1 C.2.1 dX11_count_63 rfl (lv_at hl 0 rfl) ?_
          refine xg_X11_84 C hW (k_125) dX11_count_64 ?_
          obtain rfl := Option.some.inj hf
          exact x_iret C hW dX11_count_67 rfl
        · rw [if_neg q3] at hf
          rcases Classical.em (p1 = 4) with q4 | q4
          · rw [if_pos q4] at hf
            refine x_swin (tgt := 68) C q4 dX11_count_6 (by decide) (by decide) rfl (by decide) ?_
            refine lv_aload_n C.1 C.2.1 dX11_count_68 rfl (lv_at hl 0 rfl) ?_
            refine xg_X11_13 C hW (k_125) dX11_count_69 ?_
            refine lv_iconst (v := 4) C.1 C.2.1 dX11_count_72 (by decide) ?_
            refine x_ialdM C hW a_126 hf dX11_count_73 (fun hf => ?_)
            obtain rfl := Option.some.inj hf
            exact x_iret C hW dX11_count_74 rfl
          · rw [if_neg q4] at hf
            rcases Classical.em (p1 = 5) with q5 | q5
            · rw [if_pos q5] at hf
              refine x_swin (tgt := 75) C q5 dX11_count_6 (by decide) (by decide) rfl (by decide) ?_
              refine lv_aload_n C.1 C.2.1 dX11_count_75 rfl (lv_at hl 0 rfl) ?_
              refine xg_X11_13 C hW (k_125) dX11_count_76 ?_
              refine lv_iconst (v := 1) C.1 C.2.1 dX11_count_79 (by decide) ?_
              refine x_ialdM C hW a_126 hf dX11_count_80 (fun hf => ?_)
              obtain rfl := Option.some.inj hf
              exact x_iret C hW dX11_count_81 rfl
            · rw [if_neg q5] at hf
              refine lv_tableOut (tgt := 82) C.1 C.2.1 dX11_count_6 (x_nN (n := 5) (fun k hk => by
                rcases (show k = 0 ∨ k = 1 ∨ k = 2 ∨ k = 3 ∨ k = 4 ∨ k = 5 by omega) with rfl | rfl | rfl | rfl | rfl | rfl
                · exact q0
                · exact q1
                · exact q2
                · exact q3
                · exact q4
                · exact q5
                ) (by decide)) (by decide) ?_
              refine lv_iconst (v := -1) C.1 C.2.1 dX11_count_82 (by decide) ?_
              obtain rfl := Option.some.inj hf
              exact x_iret C hW dX11_count_83 rfl
set_option maxRecDepth 20000 in
set_option maxHeartbeats 1000000 in
theorem c_X11_share {l : Launch} {Z : ZT} {h : Hp} {g : Hp} {p1 : Int32} {p2 : Int32} {out : Int32} (hf : f_X11_share g p1 p2 = some out) : Met l yX11_share (wY yX11_share cX11_share 3 (some .boolean)) (rmD 1) (va_Pc [.ref (Z.1 125), .int p1, .int p2] (Wd Z h g)) (va_Qi (fun r (_ : Unit) => r = out) (fun _ => Wd Z h g) (FR Z)) 0 0 (FR Z) := by
  refine metX RX11 rfl (by decide +kernel) (Nat.le_of_ble_eq_true rfl) ?_
  intro p e s m args below meth c C hW ls hl
  have hl : lv_has ls 3 [(0, .ref (Z.1 125)), (1, .int p1), (2, .int p2)] := hl
  unfold f_X11_share at hf
  refine lv_aload_n C.1 C.2.1 dX11_share_0 rfl (lv_at hl 0 rfl) ?_
  refine lv_iload_n C.1 C.2.1 dX11_share_1 rfl (lv_at hl 1 rfl) ?_
  refine lv_iconst (v := 2) C.1 C.2.1 dX11_share_2 (by decide) ?_
  obtain ⟨u1, hcu1, hf⟩ := bnd_t hf
  refine x_calli hW (x_runV C hW hl (wk9 (k_125)) rfl rfl (c_X11_of hcu1) (cw_X11_94) ci_X11_of cs_X11_of (rm_ok (by decide) (by decide)) ⟨Nat.le_refl _, Nat.le_refl _⟩ (As := [.int p1, .int (2 : Int32)]) rfl rfl (Nat.le_of_ble_eq_true rfl) dX11_share_3) (fun H locs hW => ?_)
  refine lv_aload_n C.1 C.2.1 dX11_share_6 rfl (lv_at hl 0 rfl) ?_
  refine lv_iload_n C.1 C.2.1 dX11_share_7 rfl (lv_at hl 2 rfl) ?_
  refine lv_iconst (v := 3) C.1 C.2.1 dX11_share_8 (by decide) ?_
  obtain ⟨u2, hcu2, hf⟩ := bnd_t hf
  refine x_calli hW (x_runV C hW hl (wk9 (k_125)) rfl rfl (c_X11_of hcu2) (cw_X11_94) ci_X11_of cs_X11_of (rm_ok (by decide) (by decide)) ⟨Nat.le_refl _, Nat.le_refl _⟩ (As := [.int p2, .int (3 : Int32)]) rfl rfl (Nat.le_of_ble_eq_true rfl) dX11_share_9) (fun H locs hW => ?_)
  refine x_cmpge (tgt := 34) C hf dX11_share_12 (by decide) (fun hf => ?_) (fun hf => ?_)
  · refine lv_iconst (v := 0) C.1 C.2.1 dX11_share_34 (by decide) ?_
    exact x_zret C hW (by decide) dX11_share_35 (Option.some.inj hf)
  · refine lv_aload_n C.1 C.2.1 dX11_share_15 rfl (lv_at hl 0 rfl) ?_
    refine lv_iload_n C.1 C.2.1 dX11_share_16 rfl (lv_at hl 2 rfl) ?_
    refine lv_iconst (v := 2) C.1 C.2.1 dX11_share_17 (by decide) ?_
    obtain ⟨u3, hcu3, hf⟩ := bnd_t hf
    refine x_calli hW (x_runV C hW hl (wk9 (k_125)) rfl rfl (c_X11_of hcu3) (cw_X11_94) ci_X11_of cs_X11_of (rm_ok (by decide) (by decide)) ⟨Nat.le_refl _, Nat.le_refl _⟩ (As := [.int p2, .int (2 : Int32)]) rfl rfl (Nat.le_of_ble_eq_true rfl) dX11_share_18) (fun H locs hW => ?_)
    refine lv_aload_n C.1 C.2.1 dX11_share_21 rfl (lv_at hl 0 rfl) ?_
    refine lv_iload_n C.1 C.2.1 dX11_share_22 rfl (lv_at hl 1 rfl) ?_
    refine lv_iconst (v := 3) C.1 C.2.1 dX11_share_23 (by decide) ?_
    obtain ⟨u4, hcu4, hf⟩ := bnd_t hf
    refine x_calli hW (x_runV C hW hl (wk9 (k_125)) rfl rfl (c_X11_of hcu4) (cw_X11_94) ci_X11_of cs_X11_of (rm_ok (by decide) (by decide)) ⟨Nat.le_refl _, Nat.le_refl _⟩ (As := [.int p1, .int (3 : Int32)]) rfl rfl (Nat.le_of_ble_eq_true rfl) dX11_share_24) (fun H locs hW => ?_)
    refine x_cmpge (tgt := 34) C hf dX11_share_27 (by decide) (fun hf => ?_) (fun hf => ?_)
    · refine lv_iconst (v := 0) C.1 C.2.1 dX11_share_34 (by decide) ?_
      exact x_zret C hW (by decide) dX11_share_35 (Option.some.inj hf)
    · refine lv_iconst (v := 1) C.1 C.2.1 dX11_share_30 (by decide) ?_
      refine lv_goto (tgt := 35) C.1 C.2.1 dX11_share_31 (by decide) ?_
      exact x_zret C hW (by decide) dX11_share_35 (Option.some.inj hf)
set_option maxRecDepth 20000 in
set_option maxHeartbeats 1000000 in
theorem l_X11_shotOf_2 {l : Launch} {Z : ZT} {h : Hp} {g : Hp} {p1 : Int32} {p : Program} {e : Env} {s : State} {m : MethodId} {args : Array Value} {below : List Frame} {meth : Method} {c : Code} (C : CX p s m args meth c cX11_shotOf RX11 3 (some .int) Z) {out : Int32} : ∀ (n : Nat) (x2 : Int32) (ls : Array Slot) (H : Heap) (locs : List Loc), XW Z h g s.heap H locs → lv_has ls 3 [(0, .ref (Z.1 125)), (1, .int p1), (2, .int x2)] → Lp (F_X11_shotOf_2 g p1) n x2 = some out → W p l e (rmD 0) s m args below meth c H locs 0 0 (MQ below (va_Qi (fun r (_ : Unit) => r = out) (fun _ => Wd Z h g) (FR Z)) args s 0 0 (FR Z)) (F0 m 2 ls []) := by
  intro n
  induction n with
  | zero => intro x2 ls H locs hW hl hf; cases hf
  | succ n ih =>
    intro x2 ls H locs hW hl hf
    rw [Lp_s] at hf
    refine lv_iload_n C.1 C.2.1 dX11_shotOf_2 rfl (lv_at hl 2 rfl) ?_
    refine lv_aload_n C.1 C.2.1 dX11_shotOf_3 rfl (lv_at hl 0 rfl) ?_
    refine xg_X11_38 C hW (k_125) dX11_shotOf_4 ?_
    refine lv_bipush (v := 40) C.1 C.2.1 dX11_shotOf_7 (by decide) ?_
    refine x_ialdM C hW a_134 hf dX11_shotOf_9 (fun hf => ?_)
    refine x_cmpge (tgt := 34) C hf dX11_shotOf_10 (by decide) (fun hf => ?_) (fun hf => ?_)
    · refine lv_iconst (v := -1) C.1 C.2.1 dX11_shotOf_34 (by decide) ?_
      exact x_iret C hW dX11_shotOf_35 (Option.some.inj hf)
    · refine lv_aload_n C.1 C.2.1 dX11_shotOf_13 rfl (lv_at hl 0 rfl) ?_
      refine xg_X11_38 C hW (k_125) dX11_shotOf_14 ?_
      refine lv_bipush (v := 41) C.1 C.2.1 dX11_shotOf_17 (by decide) ?_
      refine lv_iload_n C.1 C.2.1 dX11_shotOf_19 rfl (lv_at hl 2 rfl) ?_
      refine lv_iadd C.1 C.2.1 dX11_shotOf_20 ?_
      refine x_ialdM C hW a_134 hf dX11_shotOf_21 (fun hf => ?_)
      refine lv_iload_n C.1 C.2.1 dX11_shotOf_22 rfl (lv_at hl 1 rfl) ?_
      refine x_cmpne (tgt := 28) C hf dX11_shotOf_23 (by decide) (fun hf => ?_) (fun hf => ?_)
      · refine x_iinc (w := 1) C hf dX11_shotOf_28 hl (k := 2) rfl (by decide) (by decide) (fun v1 => [(2, .int v1), (0, .ref (Z.1 125)), (1, .int p1)]) (fun _ => rfl) (fun v1 ls hf hl => ?_)
        refine lv_goto (tgt := 2) C.1 C.2.1 dX11_shotOf_31 (by decide) ?_
        exact ih v1 ls _ _ hW (lv_sub hl [1, 2, 0] rfl) hf
      · refine lv_iload_n C.1 C.2.1 dX11_shotOf_26 rfl (lv_at hl 2 rfl) ?_
        exact x_iret C hW dX11_shotOf_27 (Option.some.inj hf)
set_option maxRecDepth 20000 in
set_option maxHeartbeats 1000000 in
theorem c_X11_shotOf {l : Launch} {Z : ZT} {h : Hp} {g : Hp} {p1 : Int32} {out : Int32} (hf : f_X11_shotOf g p1 = some out) : Met l yX11_shotOf (wY yX11_shotOf cX11_shotOf 3 (some .int)) (rmD 0) (va_Pc [.ref (Z.1 125), .int p1] (Wd Z h g)) (va_Qi (fun r (_ : Unit) => r = out) (fun _ => Wd Z h g) (FR Z)) 0 0 (FR Z) := by
  refine metX RX11 rfl (by decide +kernel) (Nat.le_of_ble_eq_true rfl) ?_
  intro p e s m args below meth c C hW ls hl
  have hl : lv_has ls 3 [(0, .ref (Z.1 125)), (1, .int p1)] := hl
  unfold f_X11_shotOf at hf
  refine lv_iconst (v := 0) C.1 C.2.1 dX11_shotOf_0 (by decide) ?_
  refine lv_istore_n (lv' := [(2, .int (0 : Int32)), (0, .ref (Z.1 125)), (1, .int p1)]) C.1 C.2.1 dX11_shotOf_1 rfl hl (by decide) rfl (fun ls hl => ?_)
  exact l_X11_shotOf_2 C FU (0 : Int32) ls _ _ hW (lv_sub hl [1, 2, 0] rfl) hf
set_option maxRecDepth 20000 in
set_option maxHeartbeats 1000000 in
theorem c_X11_stateOf {l : Launch} {Z : ZT} {h : Hp} {g : Hp} {p1 : Int32} {out : Int32} (hf : f_X11_stateOf g p1 = some out) : Met l yX11_stateOf (wY yX11_stateOf cX11_stateOf 2 (some .int)) (rmD 1) (va_Pc [.ref (Z.1 125), .int p1] (Wd Z h g)) (va_Qi (fun r (_ : Unit) => r = out) (fun _ => Wd Z h g) (FR Z)) 0 0 (FR Z) := by
  refine metX RX11 rfl (by decide +kernel) (Nat.le_of_ble_eq_true rfl) ?_
  intro p e s m args below meth c C hW ls hl
  have hl : lv_has ls 2 [(0, .ref (Z.1 125)), (1, .int p1)] := hl
  unfold f_X11_stateOf at hf
  refine lv_aload_n C.1 C.2.1 dX11_stateOf_0 rfl (lv_at hl 0 rfl) ?_
  refine lv_iload_n C.1 C.2.1 dX11_stateOf_1 rfl (lv_at hl 1 rfl) ?_
  obtain ⟨u1, hcu1, hf⟩ := bnd_t hf
  refine x_calli hW (x_runV C hW hl (wk9 (k_125)) rfl rfl (c_X11_isKept hcu1) (cw_X11_275) ci_X11_isKept cs_X11_isKept (rm_ok (by decide) (by decide)) ⟨Nat.le_refl _, Nat.le_refl _⟩ (As := [.int p1]) rfl rfl (Nat.le_of_ble_eq_true rfl) dX11_stateOf_2) (fun H locs hW => ?_)
  refine x_ifeq (tgt := 12) C hf dX11_stateOf_5 (by decide) (fun hf => ?_) (fun hf => ?_)
  · refine lv_aload_n C.1 C.2.1 dX11_stateOf_12 rfl (lv_at hl 0 rfl) ?_
    refine lv_aload_n C.1 C.2.1 dX11_stateOf_13 rfl (lv_at hl 0 rfl) ?_
    refine xg_X11_20 C hW (k_125) dX11_stateOf_14 ?_
    refine lv_iload_n C.1 C.2.1 dX11_stateOf_17 rfl (lv_at hl 1 rfl) ?_
    refine x_ialdM C hW a_128 hf dX11_stateOf_18 (fun hf => ?_)
    obtain ⟨u2, hcu2, hf⟩ := bnd_t hf
    refine x_calli hW (x_runV C hW hl (wk9 (k_125)) rfl rfl (c_X11_shotOf hcu2) (cw_X11_278) ci_X11_shotOf cs_X11_shotOf (rm_ok (by decide) (by decide)) ⟨Nat.le_refl _, Nat.le_refl _⟩ (As := [.int (g 128 (ix p1))]) rfl rfl (Nat.le_of_ble_eq_true rfl) dX11_stateOf_19) (fun H locs hW => ?_)
    refine lv_iconst (v := -1) C.1 C.2.1 dX11_stateOf_22 (by decide) ?_
    refine x_cmpne (tgt := 30) C hf dX11_stateOf_23 (by decide) (fun hf => ?_) (fun hf => ?_)
    · refine lv_iconst (v := 1) C.1 C.2.1 dX11_stateOf_30 (by decide) ?_
      exact x_iret C hW dX11_stateOf_31 (Option.some.inj hf)
    · refine lv_iconst (v := 2) C.1 C.2.1 dX11_stateOf_26 (by decide) ?_
      refine lv_goto (tgt := 31) C.1 C.2.1 dX11_stateOf_27 (by decide) ?_
      exact x_iret C hW dX11_stateOf_31 (Option.some.inj hf)
  · refine lv_iconst (v := 0) C.1 C.2.1 dX11_stateOf_8 (by decide) ?_
    refine lv_goto (tgt := 31) C.1 C.2.1 dX11_stateOf_9 (by decide) ?_
    exact x_iret C hW dX11_stateOf_31 (Option.some.inj hf)
set_option maxRecDepth 20000 in
set_option maxHeartbeats 1000000 in
theorem j_X11_overlaps_32 {l : Launch} {Z : ZT} {h : Hp} {g : Hp} {p1 : Int32} {r4 : Int32 × Int32 → Option (Int32)} {x3 : Int32} {s0 : Int32} {s1 : Int32} {p : Program} {e : Env} {s : State} {m : MethodId} {args : Array Value} {below : List Frame} {meth : Method} {c : Code} (C : CX p s m args meth c cX11_overlaps RX11 4 (some .int) Z) {out : Int32} (hr4 : ∀ (x2 : Int32) (x3 : Int32) (ls : Array Slot) (H : Heap) (locs : List Loc), XW Z h g s.heap H locs → lv_has ls 4 [(0, .ref (Z.1 125)), (1, .int p1), (2, .int x2), (3, .int x3)] → r4 (x2, x3) = some out → W p l e (rmD 2) s m args below meth c H locs 0 0 (MQ below (va_Qi (fun r (_ : Unit) => r = out) (fun _ => Wd Z h g) (FR Z)) args s 0 0 (FR Z)) (F0 m 4 ls [])) {ls : Array Slot} {H : Heap} {locs : List Loc} (hW : XW Z h g s.heap H locs) (hl : lv_has ls 4 [(0, .ref (Z.1 125)), (1, .int p1), (3, .int x3)]) (hf : J_X11_overlaps_32 g p1 r4 x3 s0 s1 = some out) : W p l e (rmD 2) s m args below meth c H locs 0 0 (MQ below (va_Qi (fun r (_ : Unit) => r = out) (fun _ => Wd Z h g) (FR Z)) args s 0 0 (FR Z)) (F0 m 32 ls [.int s1, .int s0]) := by
  rw [J_X11_overlaps_32] at hf
  refine lv_iadd C.1 C.2.1 dX11_overlaps_32 ?_
  refine x_istn C hf dX11_overlaps_33 rfl hl (by decide) (fun v1 => [(2, .int v1), (0, .ref (Z.1 125)), (1, .int p1), (3, .int x3)]) (fun _ => rfl) (fun v1 ls hf hl => ?_)
  refine x_iinc (w := 1) C hf dX11_overlaps_34 hl (k := 3) rfl (by decide) (by decide) (fun v2 => [(3, .int v2), (2, .int v1), (0, .ref (Z.1 125)), (1, .int p1)]) (fun _ => rfl) (fun v2 ls hf hl => ?_)
  refine lv_goto (tgt := 4) C.1 C.2.1 dX11_overlaps_37 (by decide) ?_
  exact hr4 v1 v2 ls _ _ hW (lv_sub hl [2, 3, 1, 0] rfl) hf
set_option maxRecDepth 20000 in
set_option maxHeartbeats 1000000 in
theorem j_X11_overlaps_31 {l : Launch} {Z : ZT} {h : Hp} {g : Hp} {p1 : Int32} {r4 : Int32 × Int32 → Option (Int32)} {x3 : Int32} {s0 : Int32} {p : Program} {e : Env} {s : State} {m : MethodId} {args : Array Value} {below : List Frame} {meth : Method} {c : Code} (C : CX p s m args meth c cX11_overlaps RX11 4 (some .int) Z) {out : Int32} (hr4 : ∀ (x2 : Int32) (x3 : Int32) (ls : Array Slot) (H : Heap) (locs : List Loc), XW Z h g s.heap H locs → lv_has ls 4 [(0, .ref (Z.1 125)), (1, .int p1), (2, .int x2), (3, .int x3)] → r4 (x2, x3) = some out → W p l e (rmD 2) s m args below meth c H locs 0 0 (MQ below (va_Qi (fun r (_ : Unit) => r = out) (fun _ => Wd Z h g) (FR Z)) args s 0 0 (FR Z)) (F0 m 4 ls [])) {ls : Array Slot} {H : Heap} {locs : List Loc} (hW : XW Z h g s.heap H locs) (hl : lv_has ls 4 [(0, .ref (Z.1 125)), (1, .int p1), (3, .int x3)]) (hf : J_X11_overlaps_31 g p1 r4 x3 s0 = some out) : W p l e (rmD 2) s m args below meth c H locs 0 0 (MQ below (va_Qi (fun r (_ : Unit) => r = out) (fun _ => Wd Z h g) (FR Z)) args s 0 0 (FR Z)) (F0 m 31 ls [.int s0]) := by
  refine lv_iconst (v := 0) C.1 C.2.1 dX11_overlaps_31 (by decide) ?_
  exact j_X11_overlaps_32 C hr4 hW (lv_sub hl [0, 1, 2] rfl) hf
set_option maxRecDepth 20000 in
set_option maxHeartbeats 1000000 in
theorem l_X11_overlaps_4 {l : Launch} {Z : ZT} {h : Hp} {g : Hp} {p1 : Int32} {p : Program} {e : Env} {s : State} {m : MethodId} {args : Array Value} {below : List Frame} {meth : Method} {c : Code} (C : CX p s m args meth c cX11_overlaps RX11 4 (some .int) Z) {out : Int32} : ∀ (n : Nat) (x2 : Int32) (x3 : Int32) (ls : Array Slot) (H : Heap) (locs : List Loc), XW Z h g s.heap H locs → lv_has ls 4 [(0, .ref (Z.1 125)), (1, .int p1), (2, .int x2), (3, .int x3)] → Lp (F_X11_overlaps_4 g p1) n (x2, x3) = some out → W p l e (rmD 2) s m args below meth c H locs 0 0 (MQ below (va_Qi (fun r (_ : Unit) => r = out) (fun _ => Wd Z h g) (FR Z)) args s 0 0 (FR Z)) (F0 m 4 ls []) := by
  intro n
  induction n with
  | zero => intro x2 x3 ls H locs hW hl hf; cases hf
  | succ n ih =>
    intro x2 x3 ls H locs hW hl hf
    rw [Lp_s] at hf
    rw [F_X11_overlaps_4] at hf
    try dsimp only at hf
    refine lv_iload_n C.1 C.2.1 dX11_overlaps_4 rfl (lv_at hl 3 rfl) ?_
    refine lv_aload_n C.1 C.2.1 dX11_overlaps_5 rfl (lv_at hl 0 rfl) ?_
    obtain ⟨u3, hcu3, hf⟩ := bnd_t hf
    refine x_calli hW (x_runV C hW hl (wk9 (k_125)) rfl rfl (c_X11_words hcu3) (cw_X11_90) ci_X11_words cs_X11_words (rm_ok (by decide) (by decide)) ⟨Nat.le_refl _, Nat.le_refl _⟩ (As := []) rfl rfl (Nat.le_of_ble_eq_true rfl) dX11_overlaps_6) (fun H locs hW => ?_)
    refine x_cmpge (tgt := 40) C hf dX11_overlaps_9 (by decide) (fun hf => ?_) (fun hf => ?_)
    · refine lv_iload_n C.1 C.2.1 dX11_overlaps_40 rfl (lv_at hl 2 rfl) ?_
      exact x_iret C hW dX11_overlaps_41 (Option.some.inj hf)
    · refine lv_iload_n C.1 C.2.1 dX11_overlaps_12 rfl (lv_at hl 2 rfl) ?_
      refine lv_iload_n C.1 C.2.1 dX11_overlaps_13 rfl (lv_at hl 3 rfl) ?_
      refine lv_iload_n C.1 C.2.1 dX11_overlaps_14 rfl (lv_at hl 1 rfl) ?_
      refine x_cmpeq (tgt := 31) C hf dX11_overlaps_15 (by decide) (fun hf => ?_) (fun hf => ?_)
      · exact j_X11_overlaps_31 C (fun z0 z1 => ih z0 z1) hW (lv_sub hl [0, 1, 3] rfl) hf
      · refine lv_aload_n C.1 C.2.1 dX11_overlaps_18 rfl (lv_at hl 0 rfl) ?_
        refine lv_iload_n C.1 C.2.1 dX11_overlaps_19 rfl (lv_at hl 1 rfl) ?_
        refine lv_iload_n C.1 C.2.1 dX11_overlaps_20 rfl (lv_at hl 3 rfl) ?_
        obtain ⟨u4, hcu4, hf⟩ := bnd_t hf
        refine x_calli hW (x_runV C hW hl (wk9 (k_125)) rfl rfl (c_X11_share hcu4) (cw_X11_281) ci_X11_share cs_X11_share (rm_ok (by decide) (by decide)) ⟨Nat.le_refl _, Nat.le_refl _⟩ (As := [.int p1, .int x3]) rfl rfl (Nat.le_of_ble_eq_true rfl) dX11_overlaps_21) (fun H locs hW => ?_)
        refine x_ifeq (tgt := 31) C hf dX11_overlaps_24 (by decide) (fun hf => ?_) (fun hf => ?_)
        · exact j_X11_overlaps_31 C (fun z0 z1 => ih z0 z1) hW (lv_sub hl [0, 1, 3] rfl) hf
        · refine lv_iconst (v := 1) C.1 C.2.1 dX11_overlaps_27 (by decide) ?_
          refine lv_goto (tgt := 32) C.1 C.2.1 dX11_overlaps_28 (by decide) ?_
          exact j_X11_overlaps_32 C (fun z0 z1 => ih z0 z1) hW (lv_sub hl [0, 1, 3] rfl) hf
set_option maxRecDepth 20000 in
set_option maxHeartbeats 1000000 in
theorem c_X11_overlaps {l : Launch} {Z : ZT} {h : Hp} {g : Hp} {p1 : Int32} {out : Int32} (hf : f_X11_overlaps g p1 = some out) : Met l yX11_overlaps (wY yX11_overlaps cX11_overlaps 4 (some .int)) (rmD 2) (va_Pc [.ref (Z.1 125), .int p1] (Wd Z h g)) (va_Qi (fun r (_ : Unit) => r = out) (fun _ => Wd Z h g) (FR Z)) 0 0 (FR Z) := by
  refine metX RX11 rfl (by decide +kernel) (Nat.le_of_ble_eq_true rfl) ?_
  intro p e s m args below meth c C hW ls hl
  have hl : lv_has ls 4 [(0, .ref (Z.1 125)), (1, .int p1)] := hl
  unfold f_X11_overlaps at hf
  refine lv_iconst (v := 0) C.1 C.2.1 dX11_overlaps_0 (by decide) ?_
  refine lv_istore_n (lv' := [(2, .int (0 : Int32)), (0, .ref (Z.1 125)), (1, .int p1)]) C.1 C.2.1 dX11_overlaps_1 rfl hl (by decide) rfl (fun ls hl => ?_)
  refine lv_iconst (v := 0) C.1 C.2.1 dX11_overlaps_2 (by decide) ?_
  refine lv_istore_n (lv' := [(3, .int (0 : Int32)), (2, .int (0 : Int32)), (0, .ref (Z.1 125)), (1, .int p1)]) C.1 C.2.1 dX11_overlaps_3 rfl hl (by decide) rfl (fun ls hl => ?_)
  exact l_X11_overlaps_4 C FU (0 : Int32) (0 : Int32) ls _ _ hW (lv_sub hl [2, 3, 1, 0] rfl) hf
set_option maxRecDepth 20000 in
set_option maxHeartbeats 1000000 in
theorem c_X11_wordField {l : Launch} {Z : ZT} {h : Hp} {g : Hp} {p1 : Int32} {p2 : Int32} {out : Int32 × Hp} (hf : f_X11_wordField g p1 p2 = some out) : Met l yX11_wordField (wY yX11_wordField cX11_wordField 3 (some .int)) (rmD 3) (va_Pc [.ref (Z.1 125), .int p1, .int p2] (Wd Z h g)) (va_Qi (fun r (_ : Unit) => r = out.1) (fun _ => Wd Z h out.2) (FR Z)) 0 0 (FR Z) := by
  refine metX RX11 rfl (by decide +kernel) (Nat.le_of_ble_eq_true rfl) ?_
  intro p e s m args below meth c C hW ls hl
  have hl : lv_has ls 3 [(0, .ref (Z.1 125)), (1, .int p1), (2, .int p2)] := hl
  unfold f_X11_wordField at hf
  refine lv_aload_n C.1 C.2.1 dX11_wordField_0 rfl (lv_at hl 0 rfl) ?_
  refine lv_iconst (v := 0) C.1 C.2.1 dX11_wordField_1 (by decide) ?_
  refine xp_X11_3 C hW (k_125) hf dX11_wordField_2 (fun g1 H locs hf hW => ?_)
  refine lv_aload_n C.1 C.2.1 dX11_wordField_5 rfl (lv_at hl 0 rfl) ?_
  refine lv_iload_n C.1 C.2.1 dX11_wordField_6 rfl (lv_at hl 1 rfl) ?_
  obtain ⟨u2, hcu2, hf⟩ := bnd_t hf
  refine x_calli hW (x_runV C hW hl (wk9 (k_125)) rfl rfl (c_X11_noWord hcu2) (cw_X11_284) ci_X11_noWord cs_X11_noWord (rm_ok (by decide) (by decide)) ⟨Nat.le_refl _, Nat.le_refl _⟩ (As := [.int p1]) rfl rfl (Nat.le_of_ble_eq_true rfl) dX11_wordField_7) (fun H locs hW => ?_)
  refine x_ifeq (tgt := 15) C hf dX11_wordField_10 (by decide) (fun hf => ?_) (fun hf => ?_)
  · refine lv_iload_n C.1 C.2.1 dX11_wordField_15 rfl (lv_at hl 2 rfl) ?_
    rcases Classical.em (p2 = 0) with q0 | q0
    · rw [if_pos q0] at hf
      refine x_swin (tgt := 56) C q0 dX11_wordField_16 (by decide) (by decide) rfl (by decide) ?_
      refine lv_aload_n C.1 C.2.1 dX11_wordField_56 rfl (lv_at hl 0 rfl) ?_
      refine lv_iload_n C.1 C.2.1 dX11_wordField_57 rfl (lv_at hl 1 rfl) ?_
      refine lv_iconst (v := 0) C.1 C.2.1 dX11_wordField_58 (by decide) ?_
      obtain ⟨u3, hcu3, hf⟩ := bnd_t hf
      refine x_calli hW (x_runV C hW hl (wk9 (k_125)) rfl rfl (c_X11_of hcu3) (cw_X11_94) ci_X11_of cs_X11_of (rm_ok (by decide) (by decide)) ⟨Nat.le_refl _, Nat.le_refl _⟩ (As := [.int p1, .int (0 : Int32)]) rfl rfl (Nat.le_of_ble_eq_true rfl) dX11_wordField_59) (fun H locs hW => ?_)
      obtain rfl := Option.some.inj hf
      exact x_iret C hW dX11_wordField_62 rfl
    · rw [if_neg q0] at hf
      rcases Classical.em (p2 = 1) with q1 | q1
      · rw [if_pos q1] at hf
        refine x_swin (tgt := 63) C q1 dX11_wordField_16 (by decide) (by decide) rfl (by decide) ?_
        refine lv_aload_n C.1 C.2.1 dX11_wordField_63 rfl (lv_at hl 0 rfl) ?_
        refine lv_iload_n C.1 C.2.1 dX11_wordField_64 rfl (lv_at hl 1 rfl) ?_
        refine lv_iconst (v := 2) C.1 C.2.1 dX11_wordField_65 (by decide) ?_
        obtain ⟨u4, hcu4, hf⟩ := bnd_t hf
        refine x_calli hW (x_runV C hW hl (wk9 (k_125)) rfl rfl (c_X11_of hcu4) (cw_X11_94) ci_X11_of cs_X11_of (rm_ok (by decide) (by decide)) ⟨Nat.le_refl _, Nat.le_refl _⟩ (As := [.int p1, .int (2 : Int32)]) rfl rfl (Nat.le_of_ble_eq_true rfl) dX11_wordField_66) (fun H locs hW => ?_)
        obtain rfl := Option.some.inj hf
        exact x_iret C hW dX11_wordField_69 rfl
      · rw [if_neg q1] at hf
        rcases Classical.em (p2 = 2) with q2 | q2
        · rw [if_pos q2] at hf
          refine x_swin (tgt := 70) C q2 dX11_wordField_16 (by decide) (by decide) rfl (by decide) ?_
          refine lv_aload_n C.1 C.2.1 dX11_wordField_70 rfl (lv_at hl 0 rfl) ?_
          refine lv_iload_n C.1 C.2.1 dX11_wordField_71 rfl (lv_at hl 1 rfl) ?_
          refine lv_iconst (v := 3) C.1 C.2.1 dX11_wordField_72 (by decide) ?_
          obtain ⟨u5, hcu5, hf⟩ := bnd_t hf
          refine x_calli hW (x_runV C hW hl (wk9 (k_125)) rfl rfl (c_X11_of hcu5) (cw_X11_94) ci_X11_of cs_X11_of (rm_ok (by decide) (by decide)) ⟨Nat.le_refl _, Nat.le_refl _⟩ (As := [.int p1, .int (3 : Int32)]) rfl rfl (Nat.le_of_ble_eq_true rfl) dX11_wordField_73) (fun H locs hW => ?_)
          obtain rfl := Option.some.inj hf
          exact x_iret C hW dX11_wordField_76 rfl
        · rw [if_neg q2] at hf
          rcases Classical.em (p2 = 3) with q3 | q3
          · rw [if_pos q3] at hf
            refine x_swin (tgt := 77) C q3 dX11_wordField_16 (by decide) (by decide) rfl (by decide) ?_
            refine lv_aload_n C.1 C.2.1 dX11_wordField_77 rfl (lv_at hl 0 rfl) ?_
            refine xg_X11_20 C hW (k_125) dX11_wordField_78 ?_
            refine lv_iload_n C.1 C.2.1 dX11_wordField_81 rfl (lv_at hl 1 rfl) ?_
            refine x_ialdM C hW a_128 hf dX11_wordField_82 (fun hf => ?_)
            obtain rfl := Option.some.inj hf
            exact x_iret C hW dX11_wordField_83 rfl
          · rw [if_neg q3] at hf
            rcases Classical.em (p2 = 4) with q4 | q4
            · rw [if_pos q4] at hf
              refine x_swin (tgt := 84) C q4 dX11_wordField_16 (by decide) (by decide) rfl (by decide) ?_
              refine lv_aload_n C.1 C.2.1 dX11_wordField_84 rfl (lv_at hl 0 rfl) ?_
              refine lv_iload_n C.1 C.2.1 dX11_wordField_85 rfl (lv_at hl 1 rfl) ?_
              obtain ⟨u6, hcu6, hf⟩ := bnd_t hf
              refine x_calli hW (x_runV C hW hl (wk9 (k_125)) rfl rfl (c_X11_stateOf hcu6) (cw_X11_287) ci_X11_stateOf cs_X11_stateOf (rm_ok (by decide) (by decide)) ⟨Nat.le_refl _, Nat.le_refl _⟩ (As := [.int p1]) rfl rfl (Nat.le_of_ble_eq_true rfl) dX11_wordField_86) (fun H locs hW => ?_)
              obtain rfl := Option.some.inj hf
              exact x_iret C hW dX11_wordField_89 rfl
            · rw [if_neg q4] at hf
              rcases Classical.em (p2 = 5) with q5 | q5
              · rw [if_pos q5] at hf
                refine x_swin (tgt := 90) C q5 dX11_wordField_16 (by decide) (by decide) rfl (by decide) ?_
                refine lv_aload_n C.1 C.2.1 dX11_wordField_90 rfl (lv_at hl 0 rfl) ?_
                refine lv_iload_n C.1 C.2.1 dX11_wordField_91 rfl (lv_at hl 1 rfl) ?_
                obtain ⟨u7, hcu7, hf⟩ := bnd_t hf
                refine x_calli hW (x_runV C hW hl (wk9 (k_125)) rfl rfl (c_X11_overlaps hcu7) (cw_X11_290) ci_X11_overlaps cs_X11_overlaps (rm_ok (by decide) (by decide)) ⟨Nat.le_refl _, Nat.le_refl _⟩ (As := [.int p1]) rfl rfl (Nat.le_of_ble_eq_true rfl) dX11_wordField_92) (fun H locs hW => ?_)
                obtain rfl := Option.some.inj hf
                exact x_iret C hW dX11_wordField_95 rfl
              · rw [if_neg q5] at hf
                refine lv_tableOut (tgt := 96) C.1 C.2.1 dX11_wordField_16 (x_nN (n := 5) (fun k hk => by
                  rcases (show k = 0 ∨ k = 1 ∨ k = 2 ∨ k = 3 ∨ k = 4 ∨ k = 5 by omega) with rfl | rfl | rfl | rfl | rfl | rfl
                  · exact q0
                  · exact q1
                  · exact q2
                  · exact q3
                  · exact q4
                  · exact q5
                  ) (by decide)) (by decide) ?_
                refine lv_iconst (v := -1) C.1 C.2.1 dX11_wordField_96 (by decide) ?_
                obtain rfl := Option.some.inj hf
                exact x_iret C hW dX11_wordField_97 rfl
  · refine lv_iconst (v := 0) C.1 C.2.1 dX11_wordField_13 (by decide) ?_
    obtain rfl := Option.some.inj hf
    exact x_iret C hW dX11_wordField_14 rfl
set_option maxRecDepth 20000 in
set_option maxHeartbeats 1000000 in
theorem c_X11_isSameText {l : Launch} {Z : ZT} {h : Hp} {g : Hp} {p1 : Int32} {p2 : Int32} {out : Int32 × Hp} (hf : f_X11_isSameText g p1 p2 = some out) : Met l yX11_isSameText (wY yX11_isSameText cX11_isSameText 3 (some .boolean)) (rmD 2) (va_Pc [.ref (Z.1 125), .int p1, .int p2] (Wd Z h g)) (va_Qi (fun r (_ : Unit) => r = out.1) (fun _ => Wd Z h out.2) (FR Z)) 0 0 (FR Z) := by
  refine metX RX11 rfl (by decide +kernel) (Nat.le_of_ble_eq_true rfl) ?_
  intro p e s m args below meth c C hW ls hl
  have hl : lv_has ls 3 [(0, .ref (Z.1 125)), (1, .int p1), (2, .int p2)] := hl
  unfold f_X11_isSameText at hf
  refine lv_aload_n C.1 C.2.1 dX11_isSameText_0 rfl (lv_at hl 0 rfl) ?_
  refine lv_iconst (v := 0) C.1 C.2.1 dX11_isSameText_1 (by decide) ?_
  refine xp_X11_3 C hW (k_125) hf dX11_isSameText_2 (fun g1 H locs hf hW => ?_)
  refine lv_aload_n C.1 C.2.1 dX11_isSameText_5 rfl (lv_at hl 0 rfl) ?_
  refine lv_iload_n C.1 C.2.1 dX11_isSameText_6 rfl (lv_at hl 1 rfl) ?_
  obtain ⟨u2, hcu2, hf⟩ := bnd_t hf
  refine x_calli hW (x_runV C hW hl (wk9 (k_125)) rfl rfl (c_X11_noWord hcu2) (cw_X11_284) ci_X11_noWord cs_X11_noWord (rm_ok (by decide) (by decide)) ⟨Nat.le_refl _, Nat.le_refl _⟩ (As := [.int p1]) rfl rfl (Nat.le_of_ble_eq_true rfl) dX11_isSameText_7) (fun H locs hW => ?_)
  refine x_ifne (tgt := 40) C hf dX11_isSameText_10 (by decide) (fun hf => ?_) (fun hf => ?_)
  · refine lv_iconst (v := 0) C.1 C.2.1 dX11_isSameText_40 (by decide) ?_
    obtain rfl := Option.some.inj hf
    exact x_zret C hW (by decide) dX11_isSameText_41 rfl
  · refine lv_aload_n C.1 C.2.1 dX11_isSameText_13 rfl (lv_at hl 0 rfl) ?_
    refine lv_iload_n C.1 C.2.1 dX11_isSameText_14 rfl (lv_at hl 2 rfl) ?_
    obtain ⟨u3, hcu3, hf⟩ := bnd_t hf
    refine x_calli hW (x_runV C hW hl (wk9 (k_125)) rfl rfl (c_X11_noWord hcu3) (cw_X11_284) ci_X11_noWord cs_X11_noWord (rm_ok (by decide) (by decide)) ⟨Nat.le_refl _, Nat.le_refl _⟩ (As := [.int p2]) rfl rfl (Nat.le_of_ble_eq_true rfl) dX11_isSameText_15) (fun H locs hW => ?_)
    refine x_ifne (tgt := 40) C hf dX11_isSameText_18 (by decide) (fun hf => ?_) (fun hf => ?_)
    · refine lv_iconst (v := 0) C.1 C.2.1 dX11_isSameText_40 (by decide) ?_
      obtain rfl := Option.some.inj hf
      exact x_zret C hW (by decide) dX11_isSameText_41 rfl
    · refine lv_aload_n C.1 C.2.1 dX11_isSameText_21 rfl (lv_at hl 0 rfl) ?_
      refine lv_iload_n C.1 C.2.1 dX11_isSameText_22 rfl (lv_at hl 1 rfl) ?_
      refine lv_iconst (v := 1) C.1 C.2.1 dX11_isSameText_23 (by decide) ?_
      obtain ⟨u4, hcu4, hf⟩ := bnd_t hf
      refine x_calli hW (x_runV C hW hl (wk9 (k_125)) rfl rfl (c_X11_of hcu4) (cw_X11_94) ci_X11_of cs_X11_of (rm_ok (by decide) (by decide)) ⟨Nat.le_refl _, Nat.le_refl _⟩ (As := [.int p1, .int (1 : Int32)]) rfl rfl (Nat.le_of_ble_eq_true rfl) dX11_isSameText_24) (fun H locs hW => ?_)
      refine lv_aload_n C.1 C.2.1 dX11_isSameText_27 rfl (lv_at hl 0 rfl) ?_
      refine lv_iload_n C.1 C.2.1 dX11_isSameText_28 rfl (lv_at hl 2 rfl) ?_
      refine lv_iconst (v := 1) C.1 C.2.1 dX11_isSameText_29 (by decide) ?_
      obtain ⟨u5, hcu5, hf⟩ := bnd_t hf
      refine x_calli hW (x_runV C hW hl (wk9 (k_125)) rfl rfl (c_X11_of hcu5) (cw_X11_94) ci_X11_of cs_X11_of (rm_ok (by decide) (by decide)) ⟨Nat.le_refl _, Nat.le_refl _⟩ (As := [.int p2, .int (1 : Int32)]) rfl rfl (Nat.le_of_ble_eq_true rfl) dX11_isSameText_30) (fun H locs hW => ?_)
      refine x_cmpne (tgt := 40) C hf dX11_isSameText_33 (by decide) (fun hf => ?_) (fun hf => ?_)
      · refine lv_iconst (v := 0) C.1 C.2.1 dX11_isSameText_40 (by decide) ?_
        obtain rfl := Option.some.inj hf
        exact x_zret C hW (by decide) dX11_isSameText_41 rfl
      · refine lv_iconst (v := 1) C.1 C.2.1 dX11_isSameText_36 (by decide) ?_
        refine lv_goto (tgt := 41) C.1 C.2.1 dX11_isSameText_37 (by decide) ?_
        obtain rfl := Option.some.inj hf
        exact x_zret C hW (by decide) dX11_isSameText_41 rfl
set_option maxRecDepth 20000 in
set_option maxHeartbeats 1000000 in
theorem c_X11_overlap {l : Launch} {Z : ZT} {h : Hp} {g : Hp} {p1 : Int32} {p2 : Int32} {out : Int32 × Hp} (hf : f_X11_overlap g p1 p2 = some out) : Met l yX11_overlap (wY yX11_overlap cX11_overlap 3 (some .boolean)) (rmD 2) (va_Pc [.ref (Z.1 125), .int p1, .int p2] (Wd Z h g)) (va_Qi (fun r (_ : Unit) => r = out.1) (fun _ => Wd Z h out.2) (FR Z)) 0 0 (FR Z) := by
  refine metX RX11 rfl (by decide +kernel) (Nat.le_of_ble_eq_true rfl) ?_
  intro p e s m args below meth c C hW ls hl
  have hl : lv_has ls 3 [(0, .ref (Z.1 125)), (1, .int p1), (2, .int p2)] := hl
  unfold f_X11_overlap at hf
  refine lv_aload_n C.1 C.2.1 dX11_overlap_0 rfl (lv_at hl 0 rfl) ?_
  refine lv_iconst (v := 0) C.1 C.2.1 dX11_overlap_1 (by decide) ?_
  refine xp_X11_3 C hW (k_125) hf dX11_overlap_2 (fun g1 H locs hf hW => ?_)
  refine lv_aload_n C.1 C.2.1 dX11_overlap_5 rfl (lv_at hl 0 rfl) ?_
  refine lv_iload_n C.1 C.2.1 dX11_overlap_6 rfl (lv_at hl 1 rfl) ?_
  obtain ⟨u2, hcu2, hf⟩ := bnd_t hf
  refine x_calli hW (x_runV C hW hl (wk9 (k_125)) rfl rfl (c_X11_noWord hcu2) (cw_X11_284) ci_X11_noWord cs_X11_noWord (rm_ok (by decide) (by decide)) ⟨Nat.le_refl _, Nat.le_refl _⟩ (As := [.int p1]) rfl rfl (Nat.le_of_ble_eq_true rfl) dX11_overlap_7) (fun H locs hW => ?_)
  refine x_ifne (tgt := 34) C hf dX11_overlap_10 (by decide) (fun hf => ?_) (fun hf => ?_)
  · refine lv_iconst (v := 0) C.1 C.2.1 dX11_overlap_34 (by decide) ?_
    obtain rfl := Option.some.inj hf
    exact x_zret C hW (by decide) dX11_overlap_35 rfl
  · refine lv_aload_n C.1 C.2.1 dX11_overlap_13 rfl (lv_at hl 0 rfl) ?_
    refine lv_iload_n C.1 C.2.1 dX11_overlap_14 rfl (lv_at hl 2 rfl) ?_
    obtain ⟨u3, hcu3, hf⟩ := bnd_t hf
    refine x_calli hW (x_runV C hW hl (wk9 (k_125)) rfl rfl (c_X11_noWord hcu3) (cw_X11_284) ci_X11_noWord cs_X11_noWord (rm_ok (by decide) (by decide)) ⟨Nat.le_refl _, Nat.le_refl _⟩ (As := [.int p2]) rfl rfl (Nat.le_of_ble_eq_true rfl) dX11_overlap_15) (fun H locs hW => ?_)
    refine x_ifne (tgt := 34) C hf dX11_overlap_18 (by decide) (fun hf => ?_) (fun hf => ?_)
    · refine lv_iconst (v := 0) C.1 C.2.1 dX11_overlap_34 (by decide) ?_
      obtain rfl := Option.some.inj hf
      exact x_zret C hW (by decide) dX11_overlap_35 rfl
    · refine lv_aload_n C.1 C.2.1 dX11_overlap_21 rfl (lv_at hl 0 rfl) ?_
      refine lv_iload_n C.1 C.2.1 dX11_overlap_22 rfl (lv_at hl 1 rfl) ?_
      refine lv_iload_n C.1 C.2.1 dX11_overlap_23 rfl (lv_at hl 2 rfl) ?_
      obtain ⟨u4, hcu4, hf⟩ := bnd_t hf
      refine x_calli hW (x_runV C hW hl (wk9 (k_125)) rfl rfl (c_X11_share hcu4) (cw_X11_281) ci_X11_share cs_X11_share (rm_ok (by decide) (by decide)) ⟨Nat.le_refl _, Nat.le_refl _⟩ (As := [.int p1, .int p2]) rfl rfl (Nat.le_of_ble_eq_true rfl) dX11_overlap_24) (fun H locs hW => ?_)
      refine x_ifeq (tgt := 34) C hf dX11_overlap_27 (by decide) (fun hf => ?_) (fun hf => ?_)
      · refine lv_iconst (v := 0) C.1 C.2.1 dX11_overlap_34 (by decide) ?_
        obtain rfl := Option.some.inj hf
        exact x_zret C hW (by decide) dX11_overlap_35 rfl
      · refine lv_iconst (v := 1) C.1 C.2.1 dX11_overlap_30 (by decide) ?_
        refine lv_goto (tgt := 35) C.1 C.2.1 dX11_overlap_31 (by decide) ?_
        obtain rfl := Option.some.inj hf
        exact x_zret C hW (by decide) dX11_overlap_35 rfl
set_option maxRecDepth 20000 in
set_option maxHeartbeats 1000000 in
theorem j_X11_differentTexts_70 {l : Launch} {Z : ZT} {h : Hp} {g : Hp} {r9 : Int32 × Int32 → Option (Int32 × Hp)} {x2 : Int32} {s0 : Int32} {s1 : Int32} {p : Program} {e : Env} {s : State} {m : MethodId} {args : Array Value} {below : List Frame} {meth : Method} {c : Code} (C : CX p s m args meth c cX11_differentTexts RX11 5 (some .int) Z) {out : Int32 × Hp} (hr9 : ∀ (x1 : Int32) (x2 : Int32) (ls : Array Slot) (H : Heap) (locs : List Loc), XW Z h g s.heap H locs → lv_has ls 5 [(0, .ref (Z.1 125)), (1, .int x1), (2, .int x2)] → r9 (x1, x2) = some out → W p l e (rmD 1) s m args below meth c H locs 0 0 (MQ below (va_Qi (fun r (_ : Unit) => r = out.1) (fun _ => Wd Z h out.2) (FR Z)) args s 0 0 (FR Z)) (F0 m 9 ls [])) {ls : Array Slot} {H : Heap} {locs : List Loc} (hW : XW Z h g s.heap H locs) (hl : lv_has ls 5 [(0, .ref (Z.1 125)), (2, .int x2)]) (hf : J_X11_differentTexts_70 g r9 x2 s0 s1 = some out) : W p l e (rmD 1) s m args below meth c H locs 0 0 (MQ below (va_Qi (fun r (_ : Unit) => r = out.1) (fun _ => Wd Z h out.2) (FR Z)) args s 0 0 (FR Z)) (F0 m 70 ls [.int s1, .int s0]) := by
  rw [J_X11_differentTexts_70] at hf
  refine lv_iadd C.1 C.2.1 dX11_differentTexts_70 ?_
  refine x_istn C hf dX11_differentTexts_71 rfl hl (by decide) (fun v1 => [(1, .int v1), (0, .ref (Z.1 125)), (2, .int x2)]) (fun _ => rfl) (fun v1 ls hf hl => ?_)
  refine x_iinc (w := 1) C hf dX11_differentTexts_72 hl (k := 2) rfl (by decide) (by decide) (fun v2 => [(2, .int v2), (1, .int v1), (0, .ref (Z.1 125))]) (fun _ => rfl) (fun v2 ls hf hl => ?_)
  refine lv_goto (tgt := 9) C.1 C.2.1 dX11_differentTexts_75 (by decide) ?_
  exact hr9 v1 v2 ls _ _ hW (lv_sub hl [2, 1, 0] rfl) hf
set_option maxRecDepth 20000 in
set_option maxHeartbeats 1000000 in
theorem j_X11_differentTexts_60 {l : Launch} {Z : ZT} {h : Hp} {g : Hp} {r9 : Int32 × Int32 → Option (Int32 × Hp)} {x1 : Int32} {x2 : Int32} {x3 : Int32} {p : Program} {e : Env} {s : State} {m : MethodId} {args : Array Value} {below : List Frame} {meth : Method} {c : Code} (C : CX p s m args meth c cX11_differentTexts RX11 5 (some .int) Z) {out : Int32 × Hp} (hr9 : ∀ (x1 : Int32) (x2 : Int32) (ls : Array Slot) (H : Heap) (locs : List Loc), XW Z h g s.heap H locs → lv_has ls 5 [(0, .ref (Z.1 125)), (1, .int x1), (2, .int x2)] → r9 (x1, x2) = some out → W p l e (rmD 1) s m args below meth c H locs 0 0 (MQ below (va_Qi (fun r (_ : Unit) => r = out.1) (fun _ => Wd Z h out.2) (FR Z)) args s 0 0 (FR Z)) (F0 m 9 ls [])) {ls : Array Slot} {H : Heap} {locs : List Loc} (hW : XW Z h g s.heap H locs) (hl : lv_has ls 5 [(0, .ref (Z.1 125)), (1, .int x1), (2, .int x2), (3, .int x3)]) (hf : J_X11_differentTexts_60 g r9 x1 x2 x3 = some out) : W p l e (rmD 1) s m args below meth c H locs 0 0 (MQ below (va_Qi (fun r (_ : Unit) => r = out.1) (fun _ => Wd Z h out.2) (FR Z)) args s 0 0 (FR Z)) (F0 m 60 ls []) := by
  refine lv_iload_n C.1 C.2.1 dX11_differentTexts_60 rfl (lv_at hl 1 rfl) ?_
  refine lv_iload_n C.1 C.2.1 dX11_differentTexts_61 rfl (lv_at hl 3 rfl) ?_
  refine x_ifeq (tgt := 69) C hf dX11_differentTexts_62 (by decide) (fun hf => ?_) (fun hf => ?_)
  · refine lv_iconst (v := 0) C.1 C.2.1 dX11_differentTexts_69 (by decide) ?_
    exact j_X11_differentTexts_70 C hr9 hW (lv_sub hl [0, 2] rfl) hf
  · refine lv_iconst (v := 1) C.1 C.2.1 dX11_differentTexts_65 (by decide) ?_
    refine lv_goto (tgt := 70) C.1 C.2.1 dX11_differentTexts_66 (by decide) ?_
    exact j_X11_differentTexts_70 C hr9 hW (lv_sub hl [0, 2] rfl) hf
set_option maxRecDepth 20000 in
set_option maxHeartbeats 1000000 in
theorem j_X11_differentTexts_53 {l : Launch} {Z : ZT} {h : Hp} {g : Hp} {r9 : Int32 × Int32 → Option (Int32 × Hp)} {r22 : Int32 × Int32 → Option (Int32 × Hp)} {x1 : Int32} {x2 : Int32} {x4 : Int32} {s0 : Int32} {p : Program} {e : Env} {s : State} {m : MethodId} {args : Array Value} {below : List Frame} {meth : Method} {c : Code} (C : CX p s m args meth c cX11_differentTexts RX11 5 (some .int) Z) {out : Int32 × Hp} (hr9 : ∀ (x1 : Int32) (x2 : Int32) (ls : Array Slot) (H : Heap) (locs : List Loc), XW Z h g s.heap H locs → lv_has ls 5 [(0, .ref (Z.1 125)), (1, .int x1), (2, .int x2)] → r9 (x1, x2) = some out → W p l e (rmD 1) s m args below meth c H locs 0 0 (MQ below (va_Qi (fun r (_ : Unit) => r = out.1) (fun _ => Wd Z h out.2) (FR Z)) args s 0 0 (FR Z)) (F0 m 9 ls [])) (hr22 : ∀ (x3 : Int32) (x4 : Int32) (ls : Array Slot) (H : Heap) (locs : List Loc), XW Z h g s.heap H locs → lv_has ls 5 [(0, .ref (Z.1 125)), (1, .int x1), (2, .int x2), (3, .int x3), (4, .int x4)] → r22 (x3, x4) = some out → W p l e (rmD 1) s m args below meth c H locs 0 0 (MQ below (va_Qi (fun r (_ : Unit) => r = out.1) (fun _ => Wd Z h out.2) (FR Z)) args s 0 0 (FR Z)) (F0 m 22 ls [])) {ls : Array Slot} {H : Heap} {locs : List Loc} (hW : XW Z h g s.heap H locs) (hl : lv_has ls 5 [(0, .ref (Z.1 125)), (1, .int x1), (2, .int x2), (4, .int x4)]) (hf : J_X11_differentTexts_53 g r9 r22 x1 x2 x4 s0 = some out) : W p l e (rmD 1) s m args below meth c H locs 0 0 (MQ below (va_Qi (fun r (_ : Unit) => r = out.1) (fun _ => Wd Z h out.2) (FR Z)) args s 0 0 (FR Z)) (F0 m 53 ls [.int s0]) := by
  rw [J_X11_differentTexts_53] at hf
  refine lv_istore_n (lv' := [(3, .int s0), (0, .ref (Z.1 125)), (1, .int x1), (2, .int x2), (4, .int x4)]) C.1 C.2.1 dX11_differentTexts_53 rfl hl (by decide) rfl (fun ls hl => ?_)
  refine x_iinc (w := 1) C hf dX11_differentTexts_54 hl (k := 4) rfl (by decide) (by decide) (fun v3 => [(4, .int v3), (3, .int s0), (0, .ref (Z.1 125)), (1, .int x1), (2, .int x2)]) (fun _ => rfl) (fun v3 ls hf hl => ?_)
  refine lv_goto (tgt := 22) C.1 C.2.1 dX11_differentTexts_57 (by decide) ?_
  exact hr22 s0 v3 ls _ _ hW (lv_sub hl [2, 3, 4, 1, 0] rfl) hf
set_option maxRecDepth 20000 in
set_option maxHeartbeats 1000000 in
theorem j_X11_differentTexts_52 {l : Launch} {Z : ZT} {h : Hp} {g : Hp} {r9 : Int32 × Int32 → Option (Int32 × Hp)} {r22 : Int32 × Int32 → Option (Int32 × Hp)} {x1 : Int32} {x2 : Int32} {x4 : Int32} {p : Program} {e : Env} {s : State} {m : MethodId} {args : Array Value} {below : List Frame} {meth : Method} {c : Code} (C : CX p s m args meth c cX11_differentTexts RX11 5 (some .int) Z) {out : Int32 × Hp} (hr9 : ∀ (x1 : Int32) (x2 : Int32) (ls : Array Slot) (H : Heap) (locs : List Loc), XW Z h g s.heap H locs → lv_has ls 5 [(0, .ref (Z.1 125)), (1, .int x1), (2, .int x2)] → r9 (x1, x2) = some out → W p l e (rmD 1) s m args below meth c H locs 0 0 (MQ below (va_Qi (fun r (_ : Unit) => r = out.1) (fun _ => Wd Z h out.2) (FR Z)) args s 0 0 (FR Z)) (F0 m 9 ls [])) (hr22 : ∀ (x3 : Int32) (x4 : Int32) (ls : Array Slot) (H : Heap) (locs : List Loc), XW Z h g s.heap H locs → lv_has ls 5 [(0, .ref (Z.1 125)), (1, .int x1), (2, .int x2), (3, .int x3), (4, .int x4)] → r22 (x3, x4) = some out → W p l e (rmD 1) s m args below meth c H locs 0 0 (MQ below (va_Qi (fun r (_ : Unit) => r = out.1) (fun _ => Wd Z h out.2) (FR Z)) args s 0 0 (FR Z)) (F0 m 22 ls [])) {ls : Array Slot} {H : Heap} {locs : List Loc} (hW : XW Z h g s.heap H locs) (hl : lv_has ls 5 [(0, .ref (Z.1 125)), (1, .int x1), (2, .int x2), (4, .int x4)]) (hf : J_X11_differentTexts_52 g r9 r22 x1 x2 x4 = some out) : W p l e (rmD 1) s m args below meth c H locs 0 0 (MQ below (va_Qi (fun r (_ : Unit) => r = out.1) (fun _ => Wd Z h out.2) (FR Z)) args s 0 0 (FR Z)) (F0 m 52 ls []) := by
  refine lv_iconst (v := 0) C.1 C.2.1 dX11_differentTexts_52 (by decide) ?_
  exact j_X11_differentTexts_53 C hr9 hr22 hW (lv_sub hl [0, 1, 2, 3] rfl) hf
set_option maxRecDepth 20000 in
set_option maxHeartbeats 1000000 in
theorem l_X11_differentTexts_22 {l : Launch} {Z : ZT} {h : Hp} {g : Hp} {r9 : Int32 × Int32 → Option (Int32 × Hp)} {x1 : Int32} {x2 : Int32} {p : Program} {e : Env} {s : State} {m : MethodId} {args : Array Value} {below : List Frame} {meth : Method} {c : Code} (C : CX p s m args meth c cX11_differentTexts RX11 5 (some .int) Z) {out : Int32 × Hp} (hr9 : ∀ (x1 : Int32) (x2 : Int32) (ls : Array Slot) (H : Heap) (locs : List Loc), XW Z h g s.heap H locs → lv_has ls 5 [(0, .ref (Z.1 125)), (1, .int x1), (2, .int x2)] → r9 (x1, x2) = some out → W p l e (rmD 1) s m args below meth c H locs 0 0 (MQ below (va_Qi (fun r (_ : Unit) => r = out.1) (fun _ => Wd Z h out.2) (FR Z)) args s 0 0 (FR Z)) (F0 m 9 ls [])) : ∀ (n : Nat) (x3 : Int32) (x4 : Int32) (ls : Array Slot) (H : Heap) (locs : List Loc), XW Z h g s.heap H locs → lv_has ls 5 [(0, .ref (Z.1 125)), (1, .int x1), (2, .int x2), (3, .int x3), (4, .int x4)] → Lp (F_X11_differentTexts_22 g r9 x1 x2) n (x3, x4) = some out → W p l e (rmD 1) s m args below meth c H locs 0 0 (MQ below (va_Qi (fun r (_ : Unit) => r = out.1) (fun _ => Wd Z h out.2) (FR Z)) args s 0 0 (FR Z)) (F0 m 22 ls []) := by
  intro n
  induction n with
  | zero => intro x3 x4 ls H locs hW hl hf; cases hf
  | succ n ih =>
    intro x3 x4 ls H locs hW hl hf
    rw [Lp_s] at hf
    refine lv_iload C.1 C.2.1 dX11_differentTexts_22 (lv_at hl 4 rfl) ?_
    refine lv_iload_n C.1 C.2.1 dX11_differentTexts_24 rfl (lv_at hl 2 rfl) ?_
    refine x_cmpge (tgt := 60) C hf dX11_differentTexts_25 (by decide) (fun hf => ?_) (fun hf => ?_)
    · exact j_X11_differentTexts_60 C hr9 hW (lv_sub hl [0, 1, 2, 3] rfl) hf
    · refine lv_iload_n C.1 C.2.1 dX11_differentTexts_28 rfl (lv_at hl 3 rfl) ?_
      refine x_ifeq (tgt := 52) C hf dX11_differentTexts_29 (by decide) (fun hf => ?_) (fun hf => ?_)
      · exact j_X11_differentTexts_52 C hr9 (fun z0 z1 => ih z0 z1) hW (lv_sub hl [0, 1, 2, 4] rfl) hf
      · refine lv_aload_n C.1 C.2.1 dX11_differentTexts_32 rfl (lv_at hl 0 rfl) ?_
        refine lv_iload C.1 C.2.1 dX11_differentTexts_33 (lv_at hl 4 rfl) ?_
        refine lv_iconst (v := 1) C.1 C.2.1 dX11_differentTexts_35 (by decide) ?_
        obtain ⟨u4, hcu4, hf⟩ := bnd_t hf
        refine x_calli hW (x_runV C hW hl (wk9 (k_125)) rfl rfl (c_X11_of hcu4) (cw_X11_94) ci_X11_of cs_X11_of (rm_ok (by decide) (by decide)) ⟨Nat.le_refl _, Nat.le_refl _⟩ (As := [.int x4, .int (1 : Int32)]) rfl rfl (Nat.le_of_ble_eq_true rfl) dX11_differentTexts_36) (fun H locs hW => ?_)
        refine lv_aload_n C.1 C.2.1 dX11_differentTexts_39 rfl (lv_at hl 0 rfl) ?_
        refine lv_iload_n C.1 C.2.1 dX11_differentTexts_40 rfl (lv_at hl 2 rfl) ?_
        refine lv_iconst (v := 1) C.1 C.2.1 dX11_differentTexts_41 (by decide) ?_
        obtain ⟨u5, hcu5, hf⟩ := bnd_t hf
        refine x_calli hW (x_runV C hW hl (wk9 (k_125)) rfl rfl (c_X11_of hcu5) (cw_X11_94) ci_X11_of cs_X11_of (rm_ok (by decide) (by decide)) ⟨Nat.le_refl _, Nat.le_refl _⟩ (As := [.int x2, .int (1 : Int32)]) rfl rfl (Nat.le_of_ble_eq_true rfl) dX11_differentTexts_42) (fun H locs hW => ?_)
        refine x_cmpeq (tgt := 52) C hf dX11_differentTexts_45 (by decide) (fun hf => ?_) (fun hf => ?_)
        · exact j_X11_differentTexts_52 C hr9 (fun z0 z1 => ih z0 z1) hW (lv_sub hl [0, 1, 2, 4] rfl) hf
        · refine lv_iconst (v := 1) C.1 C.2.1 dX11_differentTexts_48 (by decide) ?_
          refine lv_goto (tgt := 53) C.1 C.2.1 dX11_differentTexts_49 (by decide) ?_
          exact j_X11_differentTexts_53 C hr9 (fun z0 z1 => ih z0 z1) hW (lv_sub hl [0, 1, 2, 4] rfl) hf
set_option maxRecDepth 20000 in
set_option maxHeartbeats 1000000 in
theorem l_X11_differentTexts_9 {l : Launch} {Z : ZT} {h : Hp} {g : Hp} {p : Program} {e : Env} {s : State} {m : MethodId} {args : Array Value} {below : List Frame} {meth : Method} {c : Code} (C : CX p s m args meth c cX11_differentTexts RX11 5 (some .int) Z) {out : Int32 × Hp} : ∀ (n : Nat) (x1 : Int32) (x2 : Int32) (ls : Array Slot) (H : Heap) (locs : List Loc), XW Z h g s.heap H locs → lv_has ls 5 [(0, .ref (Z.1 125)), (1, .int x1), (2, .int x2)] → Lp (F_X11_differentTexts_9 g) n (x1, x2) = some out → W p l e (rmD 1) s m args below meth c H locs 0 0 (MQ below (va_Qi (fun r (_ : Unit) => r = out.1) (fun _ => Wd Z h out.2) (FR Z)) args s 0 0 (FR Z)) (F0 m 9 ls []) := by
  intro n
  induction n with
  | zero => intro x1 x2 ls H locs hW hl hf; cases hf
  | succ n ih =>
    intro x1 x2 ls H locs hW hl hf
    rw [Lp_s] at hf
    rw [F_X11_differentTexts_9] at hf
    try dsimp only at hf
    refine lv_iload_n C.1 C.2.1 dX11_differentTexts_9 rfl (lv_at hl 2 rfl) ?_
    refine lv_aload_n C.1 C.2.1 dX11_differentTexts_10 rfl (lv_at hl 0 rfl) ?_
    obtain ⟨u6, hcu6, hf⟩ := bnd_t hf
    refine x_calli hW (x_runV C hW hl (wk9 (k_125)) rfl rfl (c_X11_words hcu6) (cw_X11_90) ci_X11_words cs_X11_words (rm_ok (by decide) (by decide)) ⟨Nat.le_refl _, Nat.le_refl _⟩ (As := []) rfl rfl (Nat.le_of_ble_eq_true rfl) dX11_differentTexts_11) (fun H locs hW => ?_)
    refine x_cmpge (tgt := 78) C hf dX11_differentTexts_14 (by decide) (fun hf => ?_) (fun hf => ?_)
    · refine lv_iload_n C.1 C.2.1 dX11_differentTexts_78 rfl (lv_at hl 1 rfl) ?_
      obtain rfl := Option.some.inj hf
      exact x_iret C hW dX11_differentTexts_79 rfl
    · refine lv_iconst (v := 1) C.1 C.2.1 dX11_differentTexts_17 (by decide) ?_
      refine lv_istore_n (lv' := [(3, .int (1 : Int32)), (0, .ref (Z.1 125)), (1, .int x1), (2, .int x2)]) C.1 C.2.1 dX11_differentTexts_18 rfl hl (by decide) rfl (fun ls hl => ?_)
      refine lv_iconst (v := 0) C.1 C.2.1 dX11_differentTexts_19 (by decide) ?_
      refine lv_istore (lv' := [(4, .int (0 : Int32)), (3, .int (1 : Int32)), (0, .ref (Z.1 125)), (1, .int x1), (2, .int x2)]) C.1 C.2.1 dX11_differentTexts_20 hl (by decide) rfl (fun ls hl => ?_)
      exact l_X11_differentTexts_22 C (fun z0 z1 => ih z0 z1) FU (1 : Int32) (0 : Int32) ls _ _ hW (lv_sub hl [2, 3, 4, 1, 0] rfl) hf
set_option maxRecDepth 20000 in
set_option maxHeartbeats 1000000 in
theorem c_X11_differentTexts {l : Launch} {Z : ZT} {h : Hp} {g : Hp} {out : Int32 × Hp} (hf : f_X11_differentTexts g = some out) : Met l yX11_differentTexts (wY yX11_differentTexts cX11_differentTexts 5 (some .int)) (rmD 1) (va_Pc [.ref (Z.1 125)] (Wd Z h g)) (va_Qi (fun r (_ : Unit) => r = out.1) (fun _ => Wd Z h out.2) (FR Z)) 0 0 (FR Z) := by
  refine metX RX11 rfl (by decide +kernel) (Nat.le_of_ble_eq_true rfl) ?_
  intro p e s m args below meth c C hW ls hl
  have hl : lv_has ls 5 [(0, .ref (Z.1 125))] := hl
  unfold f_X11_differentTexts at hf
  refine lv_aload_n C.1 C.2.1 dX11_differentTexts_0 rfl (lv_at hl 0 rfl) ?_
  refine lv_iconst (v := 0) C.1 C.2.1 dX11_differentTexts_1 (by decide) ?_
  refine xp_X11_3 C hW (k_125) hf dX11_differentTexts_2 (fun g7 H locs hf hW => ?_)
  refine lv_iconst (v := 0) C.1 C.2.1 dX11_differentTexts_5 (by decide) ?_
  refine lv_istore_n (lv' := [(1, .int (0 : Int32)), (0, .ref (Z.1 125))]) C.1 C.2.1 dX11_differentTexts_6 rfl hl (by decide) rfl (fun ls hl => ?_)
  refine lv_iconst (v := 0) C.1 C.2.1 dX11_differentTexts_7 (by decide) ?_
  refine lv_istore_n (lv' := [(2, .int (0 : Int32)), (1, .int (0 : Int32)), (0, .ref (Z.1 125))]) C.1 C.2.1 dX11_differentTexts_8 rfl hl (by decide) rfl (fun ls hl => ?_)
  exact l_X11_differentTexts_9 C FU (0 : Int32) (0 : Int32) ls _ _ hW (lv_sub hl [2, 1, 0] rfl) hf
set_option maxRecDepth 20000 in
set_option maxHeartbeats 1000000 in
theorem j_X11_keptIn_35 {l : Launch} {Z : ZT} {h : Hp} {g : Hp} {p1 : Int32} {r9 : Int32 × Int32 → Option (Int32)} {x3 : Int32} {s0 : Int32} {s1 : Int32} {p : Program} {e : Env} {s : State} {m : MethodId} {args : Array Value} {below : List Frame} {meth : Method} {c : Code} (C : CX p s m args meth c cX11_keptIn RX11 4 (some .int) Z) {out : Int32} (hr9 : ∀ (x2 : Int32) (x3 : Int32) (ls : Array Slot) (H : Heap) (locs : List Loc), XW Z h g s.heap H locs → lv_has ls 4 [(0, .ref (Z.1 125)), (1, .int p1), (2, .int x2), (3, .int x3)] → r9 (x2, x3) = some out → W p l e (rmD 1) s m args below meth c H locs 0 0 (MQ below (va_Qi (fun r (_ : Unit) => r = out) (fun _ => Wd Z h g) (FR Z)) args s 0 0 (FR Z)) (F0 m 9 ls [])) {ls : Array Slot} {H : Heap} {locs : List Loc} (hW : XW Z h g s.heap H locs) (hl : lv_has ls 4 [(0, .ref (Z.1 125)), (1, .int p1), (3, .int x3)]) (hf : J_X11_keptIn_35 g p1 r9 x3 s0 s1 = some out) : W p l e (rmD 1) s m args below meth c H locs 0 0 (MQ below (va_Qi (fun r (_ : Unit) => r = out) (fun _ => Wd Z h g) (FR Z)) args s 0 0 (FR Z)) (F0 m 35 ls [.int s1, .int s0]) := by
  rw [J_X11_keptIn_35] at hf
  refine lv_iadd C.1 C.2.1 dX11_keptIn_35 ?_
  refine x_istn C hf dX11_keptIn_36 rfl hl (by decide) (fun v1 => [(2, .int v1), (0, .ref (Z.1 125)), (1, .int p1), (3, .int x3)]) (fun _ => rfl) (fun v1 ls hf hl => ?_)
  refine x_iinc (w := 1) C hf dX11_keptIn_37 hl (k := 3) rfl (by decide) (by decide) (fun v2 => [(3, .int v2), (2, .int v1), (0, .ref (Z.1 125)), (1, .int p1)]) (fun _ => rfl) (fun v2 ls hf hl => ?_)
  refine lv_goto (tgt := 9) C.1 C.2.1 dX11_keptIn_40 (by decide) ?_
  exact hr9 v1 v2 ls _ _ hW (lv_sub hl [2, 3, 1, 0] rfl) hf
set_option maxRecDepth 20000 in
set_option maxHeartbeats 1000000 in
theorem l_X11_keptIn_9 {l : Launch} {Z : ZT} {h : Hp} {g : Hp} {p1 : Int32} {p : Program} {e : Env} {s : State} {m : MethodId} {args : Array Value} {below : List Frame} {meth : Method} {c : Code} (C : CX p s m args meth c cX11_keptIn RX11 4 (some .int) Z) {out : Int32} : ∀ (n : Nat) (x2 : Int32) (x3 : Int32) (ls : Array Slot) (H : Heap) (locs : List Loc), XW Z h g s.heap H locs → lv_has ls 4 [(0, .ref (Z.1 125)), (1, .int p1), (2, .int x2), (3, .int x3)] → Lp (F_X11_keptIn_9 g p1) n (x2, x3) = some out → W p l e (rmD 1) s m args below meth c H locs 0 0 (MQ below (va_Qi (fun r (_ : Unit) => r = out) (fun _ => Wd Z h g) (FR Z)) args s 0 0 (FR Z)) (F0 m 9 ls []) := by
  intro n
  induction n with
  | zero => intro x2 x3 ls H locs hW hl hf; cases hf
  | succ n ih =>
    intro x2 x3 ls H locs hW hl hf
    rw [Lp_s] at hf
    refine lv_iload_n C.1 C.2.1 dX11_keptIn_9 rfl (lv_at hl 3 rfl) ?_
    refine lv_aload_n C.1 C.2.1 dX11_keptIn_10 rfl (lv_at hl 0 rfl) ?_
    refine xg_X11_29 C hW (k_125) dX11_keptIn_11 ?_
    refine lv_iload_n C.1 C.2.1 dX11_keptIn_14 rfl (lv_at hl 1 rfl) ?_
    refine lv_iconst (v := 1) C.1 C.2.1 dX11_keptIn_15 (by decide) ?_
    refine lv_iadd C.1 C.2.1 dX11_keptIn_16 ?_
    refine x_ialdM C hW a_131 hf dX11_keptIn_17 (fun hf => ?_)
    refine x_cmpge (tgt := 43) C hf dX11_keptIn_18 (by decide) (fun hf => ?_) (fun hf => ?_)
    · refine lv_iload_n C.1 C.2.1 dX11_keptIn_43 rfl (lv_at hl 2 rfl) ?_
      exact x_iret C hW dX11_keptIn_44 (Option.some.inj hf)
    · refine lv_iload_n C.1 C.2.1 dX11_keptIn_21 rfl (lv_at hl 2 rfl) ?_
      refine lv_aload_n C.1 C.2.1 dX11_keptIn_22 rfl (lv_at hl 0 rfl) ?_
      refine lv_iload_n C.1 C.2.1 dX11_keptIn_23 rfl (lv_at hl 3 rfl) ?_
      obtain ⟨u3, hcu3, hf⟩ := bnd_t hf
      refine x_calli hW (x_runV C hW hl (wk9 (k_125)) rfl rfl (c_X11_isKept hcu3) (cw_X11_275) ci_X11_isKept cs_X11_isKept (rm_ok (by decide) (by decide)) ⟨Nat.le_refl _, Nat.le_refl _⟩ (As := [.int x3]) rfl rfl (Nat.le_of_ble_eq_true rfl) dX11_keptIn_24) (fun H locs hW => ?_)
      refine x_ifeq (tgt := 34) C hf dX11_keptIn_27 (by decide) (fun hf => ?_) (fun hf => ?_)
      · refine lv_iconst (v := 0) C.1 C.2.1 dX11_keptIn_34 (by decide) ?_
        exact j_X11_keptIn_35 C (fun z0 z1 => ih z0 z1) hW (lv_sub hl [0, 1, 3] rfl) hf
      · refine lv_iconst (v := 1) C.1 C.2.1 dX11_keptIn_30 (by decide) ?_
        refine lv_goto (tgt := 35) C.1 C.2.1 dX11_keptIn_31 (by decide) ?_
        exact j_X11_keptIn_35 C (fun z0 z1 => ih z0 z1) hW (lv_sub hl [0, 1, 3] rfl) hf
set_option maxRecDepth 20000 in
set_option maxHeartbeats 1000000 in
theorem c_X11_keptIn {l : Launch} {Z : ZT} {h : Hp} {g : Hp} {p1 : Int32} {out : Int32} (hf : f_X11_keptIn g p1 = some out) : Met l yX11_keptIn (wY yX11_keptIn cX11_keptIn 4 (some .int)) (rmD 1) (va_Pc [.ref (Z.1 125), .int p1] (Wd Z h g)) (va_Qi (fun r (_ : Unit) => r = out) (fun _ => Wd Z h g) (FR Z)) 0 0 (FR Z) := by
  refine metX RX11 rfl (by decide +kernel) (Nat.le_of_ble_eq_true rfl) ?_
  intro p e s m args below meth c C hW ls hl
  have hl : lv_has ls 4 [(0, .ref (Z.1 125)), (1, .int p1)] := hl
  unfold f_X11_keptIn at hf
  refine lv_iconst (v := 0) C.1 C.2.1 dX11_keptIn_0 (by decide) ?_
  refine lv_istore_n (lv' := [(2, .int (0 : Int32)), (0, .ref (Z.1 125)), (1, .int p1)]) C.1 C.2.1 dX11_keptIn_1 rfl hl (by decide) rfl (fun ls hl => ?_)
  refine lv_aload_n C.1 C.2.1 dX11_keptIn_2 rfl (lv_at hl 1 rfl) ?_
  refine xg_X11_29 C hW (k_125) dX11_keptIn_3 ?_
  refine lv_iload_n C.1 C.2.1 dX11_keptIn_6 rfl (lv_at hl 2 rfl) ?_
  refine x_ialdM C hW a_131 hf dX11_keptIn_7 (fun hf => ?_)
  refine x_istn C hf dX11_keptIn_8 rfl hl (by decide) (fun v4 => [(3, .int v4), (2, .int (0 : Int32)), (0, .ref (Z.1 125)), (1, .int p1)]) (fun _ => rfl) (fun v4 ls hf hl => ?_)
  exact l_X11_keptIn_9 C FU (0 : Int32) v4 ls _ _ hW (lv_sub hl [2, 3, 1, 0] rfl) hf
set_option maxRecDepth 20000 in
set_option maxHeartbeats 1000000 in
theorem c_X11_blockField {l : Launch} {Z : ZT} {h : Hp} {g : Hp} {p1 : Int32} {p2 : Int32} {out : Int32 × Hp} (hf : f_X11_blockField g p1 p2 = some out) : Met l yX11_blockField (wY yX11_blockField cX11_blockField 3 (some .int)) (rmD 2) (va_Pc [.ref (Z.1 125), .int p1, .int p2] (Wd Z h g)) (va_Qi (fun r (_ : Unit) => r = out.1) (fun _ => Wd Z h out.2) (FR Z)) 0 0 (FR Z) := by
  refine metX RX11 rfl (by decide +kernel) (Nat.le_of_ble_eq_true rfl) ?_
  intro p e s m args below meth c C hW ls hl
  have hl : lv_has ls 3 [(0, .ref (Z.1 125)), (1, .int p1), (2, .int p2)] := hl
  unfold f_X11_blockField at hf
  refine lv_aload_n C.1 C.2.1 dX11_blockField_0 rfl (lv_at hl 0 rfl) ?_
  refine lv_iconst (v := 0) C.1 C.2.1 dX11_blockField_1 (by decide) ?_
  refine xp_X11_3 C hW (k_125) hf dX11_blockField_2 (fun g1 H locs hf hW => ?_)
  refine lv_aload_n C.1 C.2.1 dX11_blockField_5 rfl (lv_at hl 0 rfl) ?_
  refine lv_iload_n C.1 C.2.1 dX11_blockField_6 rfl (lv_at hl 1 rfl) ?_
  obtain ⟨u2, hcu2, hf⟩ := bnd_t hf
  refine x_calli hW (x_runV C hW hl (wk9 (k_125)) rfl rfl (c_X11_noBlock hcu2) (cw_X11_293) ci_X11_noBlock cs_X11_noBlock (rm_ok (by decide) (by decide)) ⟨Nat.le_refl _, Nat.le_refl _⟩ (As := [.int p1]) rfl rfl (Nat.le_of_ble_eq_true rfl) dX11_blockField_7) (fun H locs hW => ?_)
  refine x_ifeq (tgt := 15) C hf dX11_blockField_10 (by decide) (fun hf => ?_) (fun hf => ?_)
  · refine lv_iload_n C.1 C.2.1 dX11_blockField_15 rfl (lv_at hl 2 rfl) ?_
    rcases Classical.em (p2 = 0) with q0 | q0
    · rw [if_pos q0] at hf
      refine x_swin (tgt := 68) C q0 dX11_blockField_16 (by decide) (by decide) rfl (by decide) ?_
      refine lv_aload_n C.1 C.2.1 dX11_blockField_68 rfl (lv_at hl 0 rfl) ?_
      refine xg_X11_23 C hW (k_125) dX11_blockField_69 ?_
      refine lv_iload_n C.1 C.2.1 dX11_blockField_72 rfl (lv_at hl 1 rfl) ?_
      refine x_ialdM C hW a_129 hf dX11_blockField_73 (fun hf => ?_)
      obtain rfl := Option.some.inj hf
      exact x_iret C hW dX11_blockField_74 rfl
    · rw [if_neg q0] at hf
      rcases Classical.em (p2 = 1) with q1 | q1
      · rw [if_pos q1] at hf
        refine x_swin (tgt := 75) C q1 dX11_blockField_16 (by decide) (by decide) rfl (by decide) ?_
        refine lv_aload_n C.1 C.2.1 dX11_blockField_75 rfl (lv_at hl 0 rfl) ?_
        refine xg_X11_26 C hW (k_125) dX11_blockField_76 ?_
        refine lv_iload_n C.1 C.2.1 dX11_blockField_79 rfl (lv_at hl 1 rfl) ?_
        refine x_ialdM C hW a_130 hf dX11_blockField_80 (fun hf => ?_)
        obtain rfl := Option.some.inj hf
        exact x_iret C hW dX11_blockField_81 rfl
      · rw [if_neg q1] at hf
        rcases Classical.em (p2 = 2) with q2 | q2
        · rw [if_pos q2] at hf
          refine x_swin (tgt := 82) C q2 dX11_blockField_16 (by decide) (by decide) rfl (by decide) ?_
          refine lv_aload_n C.1 C.2.1 dX11_blockField_82 rfl (lv_at hl 0 rfl) ?_
          refine xg_X11_29 C hW (k_125) dX11_blockField_83 ?_
          refine lv_iload_n C.1 C.2.1 dX11_blockField_86 rfl (lv_at hl 1 rfl) ?_
          refine lv_iconst (v := 1) C.1 C.2.1 dX11_blockField_87 (by decide) ?_
          refine lv_iadd C.1 C.2.1 dX11_blockField_88 ?_
          refine x_ialdM C hW a_131 hf dX11_blockField_89 (fun hf => ?_)
          refine lv_aload_n C.1 C.2.1 dX11_blockField_90 rfl (lv_at hl 0 rfl) ?_
          refine xg_X11_29 C hW (k_125) dX11_blockField_91 ?_
          refine lv_iload_n C.1 C.2.1 dX11_blockField_94 rfl (lv_at hl 1 rfl) ?_
          refine x_ialdM C hW a_131 hf dX11_blockField_95 (fun hf => ?_)
          refine lv_isub C.1 C.2.1 dX11_blockField_96 ?_
          obtain rfl := Option.some.inj hf
          exact x_iret C hW dX11_blockField_97 rfl
        · rw [if_neg q2] at hf
          rcases Classical.em (p2 = 3) with q3 | q3
          · rw [if_pos q3] at hf
            refine x_swin (tgt := 98) C q3 dX11_blockField_16 (by decide) (by decide) rfl (by decide) ?_
            refine lv_aload_n C.1 C.2.1 dX11_blockField_98 rfl (lv_at hl 0 rfl) ?_
            refine lv_iload_n C.1 C.2.1 dX11_blockField_99 rfl (lv_at hl 1 rfl) ?_
            obtain ⟨u3, hcu3, hf⟩ := bnd_t hf
            refine x_calli hW (x_runV C hW hl (wk9 (k_125)) rfl rfl (c_X11_keptIn hcu3) (cw_X11_296) ci_X11_keptIn cs_X11_keptIn (rm_ok (by decide) (by decide)) ⟨Nat.le_refl _, Nat.le_refl _⟩ (As := [.int p1]) rfl rfl (Nat.le_of_ble_eq_true rfl) dX11_blockField_100) (fun H locs hW => ?_)
            obtain rfl := Option.some.inj hf
            exact x_iret C hW dX11_blockField_103 rfl
          · rw [if_neg q3] at hf
            rcases Classical.em (p2 = 4) with q4 | q4
            · rw [if_pos q4] at hf
              refine x_swin (tgt := 104) C q4 dX11_blockField_16 (by decide) (by decide) rfl (by decide) ?_
              refine lv_aload_n C.1 C.2.1 dX11_blockField_104 rfl (lv_at hl 0 rfl) ?_
              refine lv_iload_n C.1 C.2.1 dX11_blockField_105 rfl (lv_at hl 1 rfl) ?_
              obtain ⟨u4, hcu4, hf⟩ := bnd_t hf
              refine x_calli hW (x_runV C hW hl (wk9 (k_125)) rfl rfl (c_X11_rangeStart hcu4) (cw_X11_299) ci_X11_rangeStart cs_X11_rangeStart (rm_ok (by decide) (by decide)) ⟨Nat.le_refl _, Nat.le_refl _⟩ (As := [.int p1]) rfl rfl (Nat.le_of_ble_eq_true rfl) dX11_blockField_106) (fun H locs hW => ?_)
              obtain rfl := Option.some.inj hf
              exact x_iret C hW dX11_blockField_109 rfl
            · rw [if_neg q4] at hf
              rcases Classical.em (p2 = 5) with q5 | q5
              · rw [if_pos q5] at hf
                refine x_swin (tgt := 110) C q5 dX11_blockField_16 (by decide) (by decide) rfl (by decide) ?_
                refine lv_aload_n C.1 C.2.1 dX11_blockField_110 rfl (lv_at hl 0 rfl) ?_
                refine lv_iload_n C.1 C.2.1 dX11_blockField_111 rfl (lv_at hl 1 rfl) ?_
                obtain ⟨u5, hcu5, hf⟩ := bnd_t hf
                refine x_calli hW (x_runV C hW hl (wk9 (k_125)) rfl rfl (c_X11_rangeEnd hcu5) (cw_X11_302) ci_X11_rangeEnd cs_X11_rangeEnd (rm_ok (by decide) (by decide)) ⟨Nat.le_refl _, Nat.le_refl _⟩ (As := [.int p1]) rfl rfl (Nat.le_of_ble_eq_true rfl) dX11_blockField_112) (fun H locs hW => ?_)
                obtain rfl := Option.some.inj hf
                exact x_iret C hW dX11_blockField_115 rfl
              · rw [if_neg q5] at hf
                rcases Classical.em (p2 = 6) with q6 | q6
                · rw [if_pos q6] at hf
                  refine x_swin (tgt := 116) C q6 dX11_blockField_16 (by decide) (by decide) rfl (by decide) ?_
                  refine lv_aload_n C.1 C.2.1 dX11_blockField_116 rfl (lv_at hl 0 rfl) ?_
                  refine xg_X11_38 C hW (k_125) dX11_blockField_117 ?_
                  refine lv_bipush (v := 81) C.1 C.2.1 dX11_blockField_120 (by decide) ?_
                  refine lv_iload_n C.1 C.2.1 dX11_blockField_122 rfl (lv_at hl 1 rfl) ?_
                  refine lv_iadd C.1 C.2.1 dX11_blockField_123 ?_
                  refine x_ialdM C hW a_134 hf dX11_blockField_124 (fun hf => ?_)
                  obtain rfl := Option.some.inj hf
                  exact x_iret C hW dX11_blockField_125 rfl
                · rw [if_neg q6] at hf
                  rcases Classical.em (p2 = 7) with q7 | q7
                  · rw [if_pos q7] at hf
                    refine x_swin (tgt := 126) C q7 dX11_blockField_16 (by decide) (by decide) rfl (by decide) ?_
                    refine lv_aload_n C.1 C.2.1 dX11_blockField_126 rfl (lv_at hl 0 rfl) ?_
                    refine xg_X11_38 C hW (k_125) dX11_blockField_127 ?_
                    refine lv_bipush (v := 121) C.1 C.2.1 dX11_blockField_130 (by decide) ?_
                    refine lv_iload_n C.1 C.2.1 dX11_blockField_132 rfl (lv_at hl 1 rfl) ?_
                    refine lv_iadd C.1 C.2.1 dX11_blockField_133 ?_
                    refine x_ialdM C hW a_134 hf dX11_blockField_134 (fun hf => ?_)
                    obtain rfl := Option.some.inj hf
                    exact x_iret C hW dX11_blockField_135 rfl
                  · rw [if_neg q7] at hf
                    rcases Classical.em (p2 = 8) with q8 | q8
                    · rw [if_pos q8] at hf
                      refine x_swin (tgt := 136) C q8 dX11_blockField_16 (by decide) (by decide) rfl (by decide) ?_
                      refine lv_aload_n C.1 C.2.1 dX11_blockField_136 rfl (lv_at hl 0 rfl) ?_
                      refine lv_iload_n C.1 C.2.1 dX11_blockField_137 rfl (lv_at hl 1 rfl) ?_
                      obtain ⟨u6, hcu6, hf⟩ := bnd_t hf
                      refine x_calli hW (x_runV C hW hl (wk9 (k_125)) rfl rfl (c_X11_shotOf hcu6) (cw_X11_278) ci_X11_shotOf cs_X11_shotOf (rm_ok (by decide) (by decide)) ⟨Nat.le_refl _, Nat.le_refl _⟩ (As := [.int p1]) rfl rfl (Nat.le_of_ble_eq_true rfl) dX11_blockField_138) (fun H locs hW => ?_)
                      obtain rfl := Option.some.inj hf
                      exact x_iret C hW dX11_blockField_141 rfl
                    · rw [if_neg q8] at hf
                      refine lv_tableOut (tgt := 142) C.1 C.2.1 dX11_blockField_16 (x_nN (n := 8) (fun k hk => by
                        rcases (show k = 0 ∨ k = 1 ∨ k = 2 ∨ k = 3 ∨ k = 4 ∨ k = 5 ∨ k = 6 ∨ k = 7 ∨ k = 8 by omega) with rfl | rfl | rfl | rfl | rfl | rfl | rfl | rfl | rfl
                        · exact q0
                        · exact q1
                        · exact q2
                        · exact q3
                        · exact q4
                        · exact q5
                        · exact q6
                        · exact q7
                        · exact q8
                        ) (by decide)) (by decide) ?_
                      refine lv_iconst (v := -1) C.1 C.2.1 dX11_blockField_142 (by decide) ?_
                      obtain rfl := Option.some.inj hf
                      exact x_iret C hW dX11_blockField_143 rfl
  · refine lv_iconst (v := 0) C.1 C.2.1 dX11_blockField_13 (by decide) ?_
    obtain rfl := Option.some.inj hf
    exact x_iret C hW dX11_blockField_14 rfl
set_option maxRecDepth 20000 in
set_option maxHeartbeats 1000000 in
theorem l_X11_blockAt_7 {l : Launch} {Z : ZT} {h : Hp} {p1 : Int32} {g : Hp} {p : Program} {e : Env} {s : State} {m : MethodId} {args : Array Value} {below : List Frame} {meth : Method} {c : Code} (C : CX p s m args meth c cX11_blockAt RX11 3 (some .int) Z) {out : Int32 × Hp} : ∀ (n : Nat) (x2 : Int32) (ls : Array Slot) (H : Heap) (locs : List Loc), XW Z h g s.heap H locs → lv_has ls 3 [(0, .ref (Z.1 125)), (1, .int p1), (2, .int x2)] → Lp (F_X11_blockAt_7 p1 g) n x2 = some out → W p l e (rmD 1) s m args below meth c H locs 0 0 (MQ below (va_Qi (fun r (_ : Unit) => r = out.1) (fun _ => Wd Z h out.2) (FR Z)) args s 0 0 (FR Z)) (F0 m 7 ls []) := by
  intro n
  induction n with
  | zero => intro x2 ls H locs hW hl hf; cases hf
  | succ n ih =>
    intro x2 ls H locs hW hl hf
    rw [Lp_s] at hf
    refine lv_iload_n C.1 C.2.1 dX11_blockAt_7 rfl (lv_at hl 2 rfl) ?_
    refine lv_aload_n C.1 C.2.1 dX11_blockAt_8 rfl (lv_at hl 0 rfl) ?_
    refine xg_X11_84 C hW (k_125) dX11_blockAt_9 ?_
    refine x_cmpge (tgt := 42) C hf dX11_blockAt_12 (by decide) (fun hf => ?_) (fun hf => ?_)
    · refine lv_iconst (v := -1) C.1 C.2.1 dX11_blockAt_42 (by decide) ?_
      obtain rfl := Option.some.inj hf
      exact x_iret C hW dX11_blockAt_43 rfl
    · refine lv_iload_n C.1 C.2.1 dX11_blockAt_15 rfl (lv_at hl 1 rfl) ?_
      refine lv_aload_n C.1 C.2.1 dX11_blockAt_16 rfl (lv_at hl 0 rfl) ?_
      refine lv_iload_n C.1 C.2.1 dX11_blockAt_17 rfl (lv_at hl 2 rfl) ?_
      obtain ⟨u1, hcu1, hf⟩ := bnd_t hf
      refine x_calli hW (x_runV C hW hl (wk9 (k_125)) rfl rfl (c_X11_rangeStart hcu1) (cw_X11_299) ci_X11_rangeStart cs_X11_rangeStart (rm_ok (by decide) (by decide)) ⟨Nat.le_refl _, Nat.le_refl _⟩ (As := [.int x2]) rfl rfl (Nat.le_of_ble_eq_true rfl) dX11_blockAt_18) (fun H locs hW => ?_)
      refine lv_aload_n C.1 C.2.1 dX11_blockAt_21 rfl (lv_at hl 0 rfl) ?_
      refine lv_iload_n C.1 C.2.1 dX11_blockAt_22 rfl (lv_at hl 2 rfl) ?_
      obtain ⟨u2, hcu2, hf⟩ := bnd_t hf
      refine x_calli hW (x_runV C hW hl (wk9 (k_125)) rfl rfl (c_X11_rangeEnd hcu2) (cw_X11_302) ci_X11_rangeEnd cs_X11_rangeEnd (rm_ok (by decide) (by decide)) ⟨Nat.le_refl _, Nat.le_refl _⟩ (As := [.int x2]) rfl rfl (Nat.le_of_ble_eq_true rfl) dX11_blockAt_23) (fun H locs hW => ?_)
      refine lv_iconst (v := 1) C.1 C.2.1 dX11_blockAt_26 (by decide) ?_
      refine lv_isub C.1 C.2.1 dX11_blockAt_27 ?_
      obtain ⟨u3, hcu3, hf⟩ := bnd_t hf
      refine x_calli hW (x_runS C hW hl (c_X11_in hcu3) (cw_X11_166) ct_X11_in (rm_ok (by decide) (by decide)) ⟨Nat.le_refl _, Nat.le_refl _⟩ (As := [.int p1, .int u1, .int (u2 - (1 : Int32))]) rfl rfl (Nat.le_of_ble_eq_true rfl) dX11_blockAt_28) (fun H locs hW => ?_)
      refine x_ifeq (tgt := 36) C hf dX11_blockAt_31 (by decide) (fun hf => ?_) (fun hf => ?_)
      · refine x_iinc (w := 1) C hf dX11_blockAt_36 hl (k := 2) rfl (by decide) (by decide) (fun v4 => [(2, .int v4), (0, .ref (Z.1 125)), (1, .int p1)]) (fun _ => rfl) (fun v4 ls hf hl => ?_)
        refine lv_goto (tgt := 7) C.1 C.2.1 dX11_blockAt_39 (by decide) ?_
        exact ih v4 ls _ _ hW (lv_sub hl [1, 2, 0] rfl) hf
      · refine lv_iload_n C.1 C.2.1 dX11_blockAt_34 rfl (lv_at hl 2 rfl) ?_
        obtain rfl := Option.some.inj hf
        exact x_iret C hW dX11_blockAt_35 rfl
set_option maxRecDepth 20000 in
set_option maxHeartbeats 1000000 in
theorem c_X11_blockAt {l : Launch} {Z : ZT} {h : Hp} {g : Hp} {p1 : Int32} {out : Int32 × Hp} (hf : f_X11_blockAt g p1 = some out) : Met l yX11_blockAt (wY yX11_blockAt cX11_blockAt 3 (some .int)) (rmD 1) (va_Pc [.ref (Z.1 125), .int p1] (Wd Z h g)) (va_Qi (fun r (_ : Unit) => r = out.1) (fun _ => Wd Z h out.2) (FR Z)) 0 0 (FR Z) := by
  refine metX RX11 rfl (by decide +kernel) (Nat.le_of_ble_eq_true rfl) ?_
  intro p e s m args below meth c C hW ls hl
  have hl : lv_has ls 3 [(0, .ref (Z.1 125)), (1, .int p1)] := hl
  unfold f_X11_blockAt at hf
  refine lv_aload_n C.1 C.2.1 dX11_blockAt_0 rfl (lv_at hl 0 rfl) ?_
  refine lv_iconst (v := 0) C.1 C.2.1 dX11_blockAt_1 (by decide) ?_
  refine xp_X11_3 C hW (k_125) hf dX11_blockAt_2 (fun g5 H locs hf hW => ?_)
  refine lv_iconst (v := 0) C.1 C.2.1 dX11_blockAt_5 (by decide) ?_
  refine lv_istore_n (lv' := [(2, .int (0 : Int32)), (0, .ref (Z.1 125)), (1, .int p1)]) C.1 C.2.1 dX11_blockAt_6 rfl hl (by decide) rfl (fun ls hl => ?_)
  exact l_X11_blockAt_7 C FU (0 : Int32) ls _ _ hW (lv_sub hl [1, 2, 0] rfl) hf
set_option maxRecDepth 20000 in
set_option maxHeartbeats 1000000 in
theorem c_X11_isSnapped {l : Launch} {Z : ZT} {h : Hp} {g : Hp} {p1 : Int32} {out : Int32 × Hp} (hf : f_X11_isSnapped g p1 = some out) : Met l yX11_isSnapped (wY yX11_isSnapped cX11_isSnapped 2 (some .boolean)) (rmD 2) (va_Pc [.ref (Z.1 125), .int p1] (Wd Z h g)) (va_Qi (fun r (_ : Unit) => r = out.1) (fun _ => Wd Z h out.2) (FR Z)) 0 0 (FR Z) := by
  refine metX RX11 rfl (by decide +kernel) (Nat.le_of_ble_eq_true rfl) ?_
  intro p e s m args below meth c C hW ls hl
  have hl : lv_has ls 2 [(0, .ref (Z.1 125)), (1, .int p1)] := hl
  unfold f_X11_isSnapped at hf
  refine lv_aload_n C.1 C.2.1 dX11_isSnapped_0 rfl (lv_at hl 0 rfl) ?_
  refine lv_iconst (v := 0) C.1 C.2.1 dX11_isSnapped_1 (by decide) ?_
  refine xp_X11_3 C hW (k_125) hf dX11_isSnapped_2 (fun g1 H locs hf hW => ?_)
  refine lv_aload_n C.1 C.2.1 dX11_isSnapped_5 rfl (lv_at hl 0 rfl) ?_
  refine lv_iload_n C.1 C.2.1 dX11_isSnapped_6 rfl (lv_at hl 1 rfl) ?_
  obtain ⟨u2, hcu2, hf⟩ := bnd_t hf
  refine x_calli hW (x_runV C hW hl (wk9 (k_125)) rfl rfl (c_X11_noBlock hcu2) (cw_X11_293) ci_X11_noBlock cs_X11_noBlock (rm_ok (by decide) (by decide)) ⟨Nat.le_refl _, Nat.le_refl _⟩ (As := [.int p1]) rfl rfl (Nat.le_of_ble_eq_true rfl) dX11_isSnapped_7) (fun H locs hW => ?_)
  refine x_ifne (tgt := 27) C hf dX11_isSnapped_10 (by decide) (fun hf => ?_) (fun hf => ?_)
  · refine lv_iconst (v := 0) C.1 C.2.1 dX11_isSnapped_27 (by decide) ?_
    obtain rfl := Option.some.inj hf
    exact x_zret C hW (by decide) dX11_isSnapped_28 rfl
  · refine lv_aload_n C.1 C.2.1 dX11_isSnapped_13 rfl (lv_at hl 0 rfl) ?_
    refine xg_X11_35 C hW (k_125) dX11_isSnapped_14 ?_
    refine lv_iload_n C.1 C.2.1 dX11_isSnapped_17 rfl (lv_at hl 1 rfl) ?_
    refine x_ialdM C hW a_133 hf dX11_isSnapped_18 (fun hf => ?_)
    refine lv_iconst (v := 1) C.1 C.2.1 dX11_isSnapped_19 (by decide) ?_
    refine x_cmpne (tgt := 27) C hf dX11_isSnapped_20 (by decide) (fun hf => ?_) (fun hf => ?_)
    · refine lv_iconst (v := 0) C.1 C.2.1 dX11_isSnapped_27 (by decide) ?_
      obtain rfl := Option.some.inj hf
      exact x_zret C hW (by decide) dX11_isSnapped_28 rfl
    · refine lv_iconst (v := 1) C.1 C.2.1 dX11_isSnapped_23 (by decide) ?_
      refine lv_goto (tgt := 28) C.1 C.2.1 dX11_isSnapped_24 (by decide) ?_
      obtain rfl := Option.some.inj hf
      exact x_zret C hW (by decide) dX11_isSnapped_28 rfl
set_option maxRecDepth 20000 in
set_option maxHeartbeats 1000000 in
theorem j_X11_speakersAt_51 {l : Launch} {Z : ZT} {h : Hp} {p1 : Int32} {g : Hp} {r9 : Int32 × Int32 → Option (Int32 × Hp)} {x3 : Int32} {s0 : Int32} {s1 : Int32} {p : Program} {e : Env} {s : State} {m : MethodId} {args : Array Value} {below : List Frame} {meth : Method} {c : Code} (C : CX p s m args meth c cX11_speakersAt RX11 4 (some .int) Z) {out : Int32 × Hp} (hr9 : ∀ (x2 : Int32) (x3 : Int32) (ls : Array Slot) (H : Heap) (locs : List Loc), XW Z h g s.heap H locs → lv_has ls 4 [(0, .ref (Z.1 125)), (1, .int p1), (2, .int x2), (3, .int x3)] → r9 (x2, x3) = some out → W p l e (rmD 1) s m args below meth c H locs 0 0 (MQ below (va_Qi (fun r (_ : Unit) => r = out.1) (fun _ => Wd Z h out.2) (FR Z)) args s 0 0 (FR Z)) (F0 m 9 ls [])) {ls : Array Slot} {H : Heap} {locs : List Loc} (hW : XW Z h g s.heap H locs) (hl : lv_has ls 4 [(0, .ref (Z.1 125)), (1, .int p1), (3, .int x3)]) (hf : J_X11_speakersAt_51 p1 g r9 x3 s0 s1 = some out) : W p l e (rmD 1) s m args below meth c H locs 0 0 (MQ below (va_Qi (fun r (_ : Unit) => r = out.1) (fun _ => Wd Z h out.2) (FR Z)) args s 0 0 (FR Z)) (F0 m 51 ls [.int s1, .int s0]) := by
  rw [J_X11_speakersAt_51] at hf
  refine lv_ior C.1 C.2.1 dX11_speakersAt_51 ?_
  refine x_istn C hf dX11_speakersAt_52 rfl hl (by decide) (fun v1 => [(2, .int v1), (0, .ref (Z.1 125)), (1, .int p1), (3, .int x3)]) (fun _ => rfl) (fun v1 ls hf hl => ?_)
  refine x_iinc (w := 1) C hf dX11_speakersAt_53 hl (k := 3) rfl (by decide) (by decide) (fun v2 => [(3, .int v2), (2, .int v1), (0, .ref (Z.1 125)), (1, .int p1)]) (fun _ => rfl) (fun v2 ls hf hl => ?_)
  refine lv_goto (tgt := 9) C.1 C.2.1 dX11_speakersAt_56 (by decide) ?_
  exact hr9 v1 v2 ls _ _ hW (lv_sub hl [2, 3, 1, 0] rfl) hf
set_option maxRecDepth 20000 in
set_option maxHeartbeats 1000000 in
theorem l_X11_speakersAt_9 {l : Launch} {Z : ZT} {h : Hp} {p1 : Int32} {g : Hp} {p : Program} {e : Env} {s : State} {m : MethodId} {args : Array Value} {below : List Frame} {meth : Method} {c : Code} (C : CX p s m args meth c cX11_speakersAt RX11 4 (some .int) Z) {out : Int32 × Hp} : ∀ (n : Nat) (x2 : Int32) (x3 : Int32) (ls : Array Slot) (H : Heap) (locs : List Loc), XW Z h g s.heap H locs → lv_has ls 4 [(0, .ref (Z.1 125)), (1, .int p1), (2, .int x2), (3, .int x3)] → Lp (F_X11_speakersAt_9 p1 g) n (x2, x3) = some out → W p l e (rmD 1) s m args below meth c H locs 0 0 (MQ below (va_Qi (fun r (_ : Unit) => r = out.1) (fun _ => Wd Z h out.2) (FR Z)) args s 0 0 (FR Z)) (F0 m 9 ls []) := by
  intro n
  induction n with
  | zero => intro x2 x3 ls H locs hW hl hf; cases hf
  | succ n ih =>
    intro x2 x3 ls H locs hW hl hf
    rw [Lp_s] at hf
    rw [F_X11_speakersAt_9] at hf
    try dsimp only at hf
    refine lv_iload_n C.1 C.2.1 dX11_speakersAt_9 rfl (lv_at hl 3 rfl) ?_
    refine lv_aload_n C.1 C.2.1 dX11_speakersAt_10 rfl (lv_at hl 0 rfl) ?_
    obtain ⟨u3, hcu3, hf⟩ := bnd_t hf
    refine x_calli hW (x_runV C hW hl (wk9 (k_125)) rfl rfl (c_X11_words hcu3) (cw_X11_90) ci_X11_words cs_X11_words (rm_ok (by decide) (by decide)) ⟨Nat.le_refl _, Nat.le_refl _⟩ (As := []) rfl rfl (Nat.le_of_ble_eq_true rfl) dX11_speakersAt_11) (fun H locs hW => ?_)
    refine x_cmpge (tgt := 59) C hf dX11_speakersAt_14 (by decide) (fun hf => ?_) (fun hf => ?_)
    · refine lv_iload_n C.1 C.2.1 dX11_speakersAt_59 rfl (lv_at hl 2 rfl) ?_
      obtain rfl := Option.some.inj hf
      exact x_iret C hW dX11_speakersAt_60 rfl
    · refine lv_iload_n C.1 C.2.1 dX11_speakersAt_17 rfl (lv_at hl 2 rfl) ?_
      refine lv_iload_n C.1 C.2.1 dX11_speakersAt_18 rfl (lv_at hl 1 rfl) ?_
      refine lv_aload_n C.1 C.2.1 dX11_speakersAt_19 rfl (lv_at hl 0 rfl) ?_
      refine lv_iload_n C.1 C.2.1 dX11_speakersAt_20 rfl (lv_at hl 3 rfl) ?_
      refine lv_iconst (v := 2) C.1 C.2.1 dX11_speakersAt_21 (by decide) ?_
      obtain ⟨u4, hcu4, hf⟩ := bnd_t hf
      refine x_calli hW (x_runV C hW hl (wk9 (k_125)) rfl rfl (c_X11_of hcu4) (cw_X11_94) ci_X11_of cs_X11_of (rm_ok (by decide) (by decide)) ⟨Nat.le_refl _, Nat.le_refl _⟩ (As := [.int x3, .int (2 : Int32)]) rfl rfl (Nat.le_of_ble_eq_true rfl) dX11_speakersAt_22) (fun H locs hW => ?_)
      refine lv_aload_n C.1 C.2.1 dX11_speakersAt_25 rfl (lv_at hl 0 rfl) ?_
      refine lv_iload_n C.1 C.2.1 dX11_speakersAt_26 rfl (lv_at hl 3 rfl) ?_
      refine lv_iconst (v := 3) C.1 C.2.1 dX11_speakersAt_27 (by decide) ?_
      obtain ⟨u5, hcu5, hf⟩ := bnd_t hf
      refine x_calli hW (x_runV C hW hl (wk9 (k_125)) rfl rfl (c_X11_of hcu5) (cw_X11_94) ci_X11_of cs_X11_of (rm_ok (by decide) (by decide)) ⟨Nat.le_refl _, Nat.le_refl _⟩ (As := [.int x3, .int (3 : Int32)]) rfl rfl (Nat.le_of_ble_eq_true rfl) dX11_speakersAt_28) (fun H locs hW => ?_)
      refine lv_iconst (v := 1) C.1 C.2.1 dX11_speakersAt_31 (by decide) ?_
      refine lv_isub C.1 C.2.1 dX11_speakersAt_32 ?_
      obtain ⟨u6, hcu6, hf⟩ := bnd_t hf
      refine x_calli hW (x_runS C hW hl (c_X11_in hcu6) (cw_X11_166) ct_X11_in (rm_ok (by decide) (by decide)) ⟨Nat.le_refl _, Nat.le_refl _⟩ (As := [.int p1, .int u4, .int (u5 - (1 : Int32))]) rfl rfl (Nat.le_of_ble_eq_true rfl) dX11_speakersAt_33) (fun H locs hW => ?_)
      refine x_ifeq (tgt := 50) C hf dX11_speakersAt_36 (by decide) (fun hf => ?_) (fun hf => ?_)
      · refine lv_iconst (v := 0) C.1 C.2.1 dX11_speakersAt_50 (by decide) ?_
        exact j_X11_speakersAt_51 C (fun z0 z1 => ih z0 z1) hW (lv_sub hl [0, 1, 3] rfl) hf
      · refine lv_iconst (v := 1) C.1 C.2.1 dX11_speakersAt_39 (by decide) ?_
        refine lv_aload_n C.1 C.2.1 dX11_speakersAt_40 rfl (lv_at hl 0 rfl) ?_
        refine lv_iload_n C.1 C.2.1 dX11_speakersAt_41 rfl (lv_at hl 3 rfl) ?_
        refine lv_iconst (v := 0) C.1 C.2.1 dX11_speakersAt_42 (by decide) ?_
        obtain ⟨u7, hcu7, hf⟩ := bnd_t hf
        refine x_calli hW (x_runV C hW hl (wk9 (k_125)) rfl rfl (c_X11_of hcu7) (cw_X11_94) ci_X11_of cs_X11_of (rm_ok (by decide) (by decide)) ⟨Nat.le_refl _, Nat.le_refl _⟩ (As := [.int x3, .int (0 : Int32)]) rfl rfl (Nat.le_of_ble_eq_true rfl) dX11_speakersAt_43) (fun H locs hW => ?_)
        refine lv_ishl C.1 C.2.1 dX11_speakersAt_46 ?_
        refine lv_goto (tgt := 51) C.1 C.2.1 dX11_speakersAt_47 (by decide) ?_
        exact j_X11_speakersAt_51 C (fun z0 z1 => ih z0 z1) hW (lv_sub hl [0, 1, 3] rfl) hf
set_option maxRecDepth 20000 in
set_option maxHeartbeats 1000000 in
theorem c_X11_speakersAt {l : Launch} {Z : ZT} {h : Hp} {g : Hp} {p1 : Int32} {out : Int32 × Hp} (hf : f_X11_speakersAt g p1 = some out) : Met l yX11_speakersAt (wY yX11_speakersAt cX11_speakersAt 4 (some .int)) (rmD 1) (va_Pc [.ref (Z.1 125), .int p1] (Wd Z h g)) (va_Qi (fun r (_ : Unit) => r = out.1) (fun _ => Wd Z h out.2) (FR Z)) 0 0 (FR Z) := by
  refine metX RX11 rfl (by decide +kernel) (Nat.le_of_ble_eq_true rfl) ?_
  intro p e s m args below meth c C hW ls hl
  have hl : lv_has ls 4 [(0, .ref (Z.1 125)), (1, .int p1)] := hl
  unfold f_X11_speakersAt at hf
  refine lv_aload_n C.1 C.2.1 dX11_speakersAt_0 rfl (lv_at hl 0 rfl) ?_
  refine lv_iconst (v := 0) C.1 C.2.1 dX11_speakersAt_1 (by decide) ?_
  refine xp_X11_3 C hW (k_125) hf dX11_speakersAt_2 (fun g8 H locs hf hW => ?_)
  refine lv_iconst (v := 0) C.1 C.2.1 dX11_speakersAt_5 (by decide) ?_
  refine lv_istore_n (lv' := [(2, .int (0 : Int32)), (0, .ref (Z.1 125)), (1, .int p1)]) C.1 C.2.1 dX11_speakersAt_6 rfl hl (by decide) rfl (fun ls hl => ?_)
  refine lv_iconst (v := 0) C.1 C.2.1 dX11_speakersAt_7 (by decide) ?_
  refine lv_istore_n (lv' := [(3, .int (0 : Int32)), (2, .int (0 : Int32)), (0, .ref (Z.1 125)), (1, .int p1)]) C.1 C.2.1 dX11_speakersAt_8 rfl hl (by decide) rfl (fun ls hl => ?_)
  exact l_X11_speakersAt_9 C FU (0 : Int32) (0 : Int32) ls _ _ hW (lv_sub hl [2, 3, 1, 0] rfl) hf
set_option maxRecDepth 20000 in
set_option maxHeartbeats 1000000 in
theorem c_X11_shotBlock {l : Launch} {Z : ZT} {h : Hp} {g : Hp} {p1 : Int32} {out : Int32} (hf : f_X11_shotBlock g p1 = some out) : Met l yX11_shotBlock (wY yX11_shotBlock cX11_shotBlock 2 (some .int)) (rmD 0) (va_Pc [.ref (Z.1 125), .int p1] (Wd Z h g)) (va_Qi (fun r (_ : Unit) => r = out) (fun _ => Wd Z h g) (FR Z)) 0 0 (FR Z) := by
  refine metX RX11 rfl (by decide +kernel) (Nat.le_of_ble_eq_true rfl) ?_
  intro p e s m args below meth c C hW ls hl
  have hl : lv_has ls 2 [(0, .ref (Z.1 125)), (1, .int p1)] := hl
  unfold f_X11_shotBlock at hf
  refine lv_aload_n C.1 C.2.1 dX11_shotBlock_0 rfl (lv_at hl 0 rfl) ?_
  refine xg_X11_38 C hW (k_125) dX11_shotBlock_1 ?_
  refine lv_bipush (v := 41) C.1 C.2.1 dX11_shotBlock_4 (by decide) ?_
  refine lv_iload_n C.1 C.2.1 dX11_shotBlock_6 rfl (lv_at hl 1 rfl) ?_
  refine lv_iadd C.1 C.2.1 dX11_shotBlock_7 ?_
  refine x_ialdM C hW a_134 hf dX11_shotBlock_8 (fun hf => ?_)
  exact x_iret C hW dX11_shotBlock_9 (Option.some.inj hf)
set_option maxRecDepth 20000 in
set_option maxHeartbeats 1000000 in
theorem j_X11_playsFrom_31 {l : Launch} {Z : ZT} {h : Hp} {g : Hp} {p1 : Int32} {s0 : Int32} {s1 : Int32} {p : Program} {e : Env} {s : State} {m : MethodId} {args : Array Value} {below : List Frame} {meth : Method} {c : Code} (C : CX p s m args meth c cX11_playsFrom RX11 2 (some .int) Z) {out : Int32} {ls : Array Slot} {H : Heap} {locs : List Loc} (hW : XW Z h g s.heap H locs) (hl : lv_has ls 2 [(0, .ref (Z.1 125)), (1, .int p1)]) (hf : J_X11_playsFrom_31 g p1 s0 s1 = some out) : W p l e (rmD 1) s m args below meth c H locs 0 0 (MQ below (va_Qi (fun r (_ : Unit) => r = out) (fun _ => Wd Z h g) (FR Z)) args s 0 0 (FR Z)) (F0 m 31 ls [.int s1, .int s0]) := by
  refine x_max C hl (ml_X11_98) (by decide) ⟨Nat.le_refl _, Nat.le_refl _⟩ (Nat.le_of_ble_eq_true rfl) dX11_playsFrom_31 ?_
  exact x_iret C hW dX11_playsFrom_34 (Option.some.inj hf)
set_option maxRecDepth 20000 in
set_option maxHeartbeats 1000000 in
theorem c_X11_playsFrom {l : Launch} {Z : ZT} {h : Hp} {g : Hp} {p1 : Int32} {out : Int32} (hf : f_X11_playsFrom g p1 = some out) : Met l yX11_playsFrom (wY yX11_playsFrom cX11_playsFrom 2 (some .int)) (rmD 1) (va_Pc [.ref (Z.1 125), .int p1] (Wd Z h g)) (va_Qi (fun r (_ : Unit) => r = out) (fun _ => Wd Z h g) (FR Z)) 0 0 (FR Z) := by
  refine metX RX11 rfl (by decide +kernel) (Nat.le_of_ble_eq_true rfl) ?_
  intro p e s m args below meth c C hW ls hl
  have hl : lv_has ls 2 [(0, .ref (Z.1 125)), (1, .int p1)] := hl
  unfold f_X11_playsFrom at hf
  refine lv_aload_n C.1 C.2.1 dX11_playsFrom_0 rfl (lv_at hl 0 rfl) ?_
  refine lv_iload_n C.1 C.2.1 dX11_playsFrom_1 rfl (lv_at hl 1 rfl) ?_
  obtain ⟨u1, hcu1, hf⟩ := bnd_t hf
  refine x_calli hW (x_runV C hW hl (wk9 (k_125)) rfl rfl (c_X11_rangeStart hcu1) (cw_X11_299) ci_X11_rangeStart cs_X11_rangeStart (rm_ok (by decide) (by decide)) ⟨Nat.le_refl _, Nat.le_refl _⟩ (As := [.int p1]) rfl rfl (Nat.le_of_ble_eq_true rfl) dX11_playsFrom_2) (fun H locs hW => ?_)
  refine lv_aload_n C.1 C.2.1 dX11_playsFrom_5 rfl (lv_at hl 0 rfl) ?_
  refine xg_X11_38 C hW (k_125) dX11_playsFrom_6 ?_
  refine lv_bipush (v := 81) C.1 C.2.1 dX11_playsFrom_9 (by decide) ?_
  refine lv_iload_n C.1 C.2.1 dX11_playsFrom_11 rfl (lv_at hl 1 rfl) ?_
  refine lv_iadd C.1 C.2.1 dX11_playsFrom_12 ?_
  refine x_ialdM C hW a_134 hf dX11_playsFrom_13 (fun hf => ?_)
  refine lv_isub C.1 C.2.1 dX11_playsFrom_14 ?_
  refine lv_iload_n C.1 C.2.1 dX11_playsFrom_15 rfl (lv_at hl 1 rfl) ?_
  refine x_ifne (tgt := 23) C hf dX11_playsFrom_16 (by decide) (fun hf => ?_) (fun hf => ?_)
  · refine lv_aload_n C.1 C.2.1 dX11_playsFrom_23 rfl (lv_at hl 0 rfl) ?_
    refine xg_X11_26 C hW (k_125) dX11_playsFrom_24 ?_
    refine lv_iload_n C.1 C.2.1 dX11_playsFrom_27 rfl (lv_at hl 1 rfl) ?_
    refine lv_iconst (v := 1) C.1 C.2.1 dX11_playsFrom_28 (by decide) ?_
    refine lv_isub C.1 C.2.1 dX11_playsFrom_29 ?_
    refine x_ialdM C hW a_130 hf dX11_playsFrom_30 (fun hf => ?_)
    exact j_X11_playsFrom_31 C hW (lv_sub hl [0, 1] rfl) hf
  · refine lv_iconst (v := 0) C.1 C.2.1 dX11_playsFrom_19 (by decide) ?_
    refine lv_goto (tgt := 31) C.1 C.2.1 dX11_playsFrom_20 (by decide) ?_
    exact j_X11_playsFrom_31 C hW (lv_sub hl [0, 1] rfl) hf
set_option maxRecDepth 20000 in
set_option maxHeartbeats 1000000 in
theorem j_X11_playsTo_42 {l : Launch} {Z : ZT} {h : Hp} {g : Hp} {p1 : Int32} {s0 : Int32} {s1 : Int32} {p : Program} {e : Env} {s : State} {m : MethodId} {args : Array Value} {below : List Frame} {meth : Method} {c : Code} (C : CX p s m args meth c cX11_playsTo RX11 2 (some .int) Z) {out : Int32} {ls : Array Slot} {H : Heap} {locs : List Loc} (hW : XW Z h g s.heap H locs) (hl : lv_has ls 2 [(0, .ref (Z.1 125)), (1, .int p1)]) (hf : J_X11_playsTo_42 g p1 s0 s1 = some out) : W p l e (rmD 1) s m args below meth c H locs 0 0 (MQ below (va_Qi (fun r (_ : Unit) => r = out) (fun _ => Wd Z h g) (FR Z)) args s 0 0 (FR Z)) (F0 m 42 ls [.int s1, .int s0]) := by
  refine x_min C hl (ml_X11_107) (by decide) ⟨Nat.le_refl _, Nat.le_refl _⟩ (Nat.le_of_ble_eq_true rfl) dX11_playsTo_42 ?_
  exact x_iret C hW dX11_playsTo_45 (Option.some.inj hf)
set_option maxRecDepth 20000 in
set_option maxHeartbeats 1000000 in
theorem c_X11_playsTo {l : Launch} {Z : ZT} {h : Hp} {g : Hp} {p1 : Int32} {out : Int32} (hf : f_X11_playsTo g p1 = some out) : Met l yX11_playsTo (wY yX11_playsTo cX11_playsTo 2 (some .int)) (rmD 1) (va_Pc [.ref (Z.1 125), .int p1] (Wd Z h g)) (va_Qi (fun r (_ : Unit) => r = out) (fun _ => Wd Z h g) (FR Z)) 0 0 (FR Z) := by
  refine metX RX11 rfl (by decide +kernel) (Nat.le_of_ble_eq_true rfl) ?_
  intro p e s m args below meth c C hW ls hl
  have hl : lv_has ls 2 [(0, .ref (Z.1 125)), (1, .int p1)] := hl
  unfold f_X11_playsTo at hf
  refine lv_aload_n C.1 C.2.1 dX11_playsTo_0 rfl (lv_at hl 0 rfl) ?_
  refine lv_iload_n C.1 C.2.1 dX11_playsTo_1 rfl (lv_at hl 1 rfl) ?_
  obtain ⟨u1, hcu1, hf⟩ := bnd_t hf
  refine x_calli hW (x_runV C hW hl (wk9 (k_125)) rfl rfl (c_X11_rangeEnd hcu1) (cw_X11_302) ci_X11_rangeEnd cs_X11_rangeEnd (rm_ok (by decide) (by decide)) ⟨Nat.le_refl _, Nat.le_refl _⟩ (As := [.int p1]) rfl rfl (Nat.le_of_ble_eq_true rfl) dX11_playsTo_2) (fun H locs hW => ?_)
  refine lv_aload_n C.1 C.2.1 dX11_playsTo_5 rfl (lv_at hl 0 rfl) ?_
  refine xg_X11_38 C hW (k_125) dX11_playsTo_6 ?_
  refine lv_bipush (v := 121) C.1 C.2.1 dX11_playsTo_9 (by decide) ?_
  refine lv_iload_n C.1 C.2.1 dX11_playsTo_11 rfl (lv_at hl 1 rfl) ?_
  refine lv_iadd C.1 C.2.1 dX11_playsTo_12 ?_
  refine x_ialdM C hW a_134 hf dX11_playsTo_13 (fun hf => ?_)
  refine lv_iadd C.1 C.2.1 dX11_playsTo_14 ?_
  refine lv_iload_n C.1 C.2.1 dX11_playsTo_15 rfl (lv_at hl 1 rfl) ?_
  refine lv_aload_n C.1 C.2.1 dX11_playsTo_16 rfl (lv_at hl 0 rfl) ?_
  refine xg_X11_84 C hW (k_125) dX11_playsTo_17 ?_
  refine lv_iconst (v := 1) C.1 C.2.1 dX11_playsTo_20 (by decide) ?_
  refine lv_isub C.1 C.2.1 dX11_playsTo_21 ?_
  refine x_cmpne (tgt := 34) C hf dX11_playsTo_22 (by decide) (fun hf => ?_) (fun hf => ?_)
  · refine lv_aload_n C.1 C.2.1 dX11_playsTo_34 rfl (lv_at hl 0 rfl) ?_
    refine xg_X11_23 C hW (k_125) dX11_playsTo_35 ?_
    refine lv_iload_n C.1 C.2.1 dX11_playsTo_38 rfl (lv_at hl 1 rfl) ?_
    refine lv_iconst (v := 1) C.1 C.2.1 dX11_playsTo_39 (by decide) ?_
    refine lv_iadd C.1 C.2.1 dX11_playsTo_40 ?_
    refine x_ialdM C hW a_129 hf dX11_playsTo_41 (fun hf => ?_)
    exact j_X11_playsTo_42 C hW (lv_sub hl [0, 1] rfl) hf
  · refine lv_aload_n C.1 C.2.1 dX11_playsTo_25 rfl (lv_at hl 0 rfl) ?_
    refine xg_X11_13 C hW (k_125) dX11_playsTo_26 ?_
    refine lv_iconst (v := 0) C.1 C.2.1 dX11_playsTo_29 (by decide) ?_
    refine x_ialdM C hW a_126 hf dX11_playsTo_30 (fun hf => ?_)
    refine lv_goto (tgt := 42) C.1 C.2.1 dX11_playsTo_31 (by decide) ?_
    exact j_X11_playsTo_42 C hW (lv_sub hl [0, 1] rfl) hf
set_option maxRecDepth 20000 in
set_option maxHeartbeats 1000000 in
theorem c_X11_plays {l : Launch} {Z : ZT} {h : Hp} {g : Hp} {p1 : Int32} {out : Int32} (hf : f_X11_plays g p1 = some out) : Met l yX11_plays (wY yX11_plays cX11_plays 2 (some .int)) (rmD 2) (va_Pc [.ref (Z.1 125), .int p1] (Wd Z h g)) (va_Qi (fun r (_ : Unit) => r = out) (fun _ => Wd Z h g) (FR Z)) 0 0 (FR Z) := by
  refine metX RX11 rfl (by decide +kernel) (Nat.le_of_ble_eq_true rfl) ?_
  intro p e s m args below meth c C hW ls hl
  have hl : lv_has ls 2 [(0, .ref (Z.1 125)), (1, .int p1)] := hl
  unfold f_X11_plays at hf
  refine lv_aload_n C.1 C.2.1 dX11_plays_0 rfl (lv_at hl 0 rfl) ?_
  refine lv_iload_n C.1 C.2.1 dX11_plays_1 rfl (lv_at hl 1 rfl) ?_
  obtain ⟨u1, hcu1, hf⟩ := bnd_t hf
  refine x_calli hW (x_runV C hW hl (wk9 (k_125)) rfl rfl (c_X11_playsTo hcu1) (cw_X11_305) ci_X11_playsTo cs_X11_playsTo (rm_ok (by decide) (by decide)) ⟨Nat.le_refl _, Nat.le_refl _⟩ (As := [.int p1]) rfl rfl (Nat.le_of_ble_eq_true rfl) dX11_plays_2) (fun H locs hW => ?_)
  refine lv_aload_n C.1 C.2.1 dX11_plays_5 rfl (lv_at hl 0 rfl) ?_
  refine lv_iload_n C.1 C.2.1 dX11_plays_6 rfl (lv_at hl 1 rfl) ?_
  obtain ⟨u2, hcu2, hf⟩ := bnd_t hf
  refine x_calli hW (x_runV C hW hl (wk9 (k_125)) rfl rfl (c_X11_playsFrom hcu2) (cw_X11_308) ci_X11_playsFrom cs_X11_playsFrom (rm_ok (by decide) (by decide)) ⟨Nat.le_refl _, Nat.le_refl _⟩ (As := [.int p1]) rfl rfl (Nat.le_of_ble_eq_true rfl) dX11_plays_7) (fun H locs hW => ?_)
  refine lv_isub C.1 C.2.1 dX11_plays_10 ?_
  exact x_iret C hW dX11_plays_11 (Option.some.inj hf)
set_option maxRecDepth 20000 in
set_option maxHeartbeats 1000000 in
theorem l_X11_filmStart_4 {l : Launch} {Z : ZT} {h : Hp} {g : Hp} {p1 : Int32} {p : Program} {e : Env} {s : State} {m : MethodId} {args : Array Value} {below : List Frame} {meth : Method} {c : Code} (C : CX p s m args meth c cX11_filmStart RX11 4 (some .int) Z) {out : Int32} : ∀ (n : Nat) (x2 : Int32) (x3 : Int32) (ls : Array Slot) (H : Heap) (locs : List Loc), XW Z h g s.heap H locs → lv_has ls 4 [(0, .ref (Z.1 125)), (1, .int p1), (2, .int x2), (3, .int x3)] → Lp (F_X11_filmStart_4 g p1) n (x2, x3) = some out → W p l e (rmD 3) s m args below meth c H locs 0 0 (MQ below (va_Qi (fun r (_ : Unit) => r = out) (fun _ => Wd Z h g) (FR Z)) args s 0 0 (FR Z)) (F0 m 4 ls []) := by
  intro n
  induction n with
  | zero => intro x2 x3 ls H locs hW hl hf; cases hf
  | succ n ih =>
    intro x2 x3 ls H locs hW hl hf
    rw [Lp_s] at hf
    refine lv_iload_n C.1 C.2.1 dX11_filmStart_4 rfl (lv_at hl 3 rfl) ?_
    refine lv_iload_n C.1 C.2.1 dX11_filmStart_5 rfl (lv_at hl 1 rfl) ?_
    refine x_cmpge (tgt := 27) C hf dX11_filmStart_6 (by decide) (fun hf => ?_) (fun hf => ?_)
    · refine lv_iload_n C.1 C.2.1 dX11_filmStart_27 rfl (lv_at hl 2 rfl) ?_
      exact x_iret C hW dX11_filmStart_28 (Option.some.inj hf)
    · refine lv_iload_n C.1 C.2.1 dX11_filmStart_9 rfl (lv_at hl 2 rfl) ?_
      refine lv_aload_n C.1 C.2.1 dX11_filmStart_10 rfl (lv_at hl 0 rfl) ?_
      refine lv_aload_n C.1 C.2.1 dX11_filmStart_11 rfl (lv_at hl 0 rfl) ?_
      refine lv_iload_n C.1 C.2.1 dX11_filmStart_12 rfl (lv_at hl 3 rfl) ?_
      obtain ⟨u1, hcu1, hf⟩ := bnd_t hf
      refine x_calli hW (x_runV C hW hl (wk9 (k_125)) rfl rfl (c_X11_shotBlock hcu1) (cw_X11_311) ci_X11_shotBlock cs_X11_shotBlock (rm_ok (by decide) (by decide)) ⟨Nat.le_refl _, Nat.le_refl _⟩ (As := [.int x3]) rfl rfl (Nat.le_of_ble_eq_true rfl) dX11_filmStart_13) (fun H locs hW => ?_)
      obtain ⟨u2, hcu2, hf⟩ := bnd_t hf
      refine x_calli hW (x_runV C hW hl (wk9 (k_125)) rfl rfl (c_X11_plays hcu2) (cw_X11_314) ci_X11_plays cs_X11_plays (rm_ok (by decide) (by decide)) ⟨Nat.le_refl _, Nat.le_refl _⟩ (As := [.int u1]) rfl rfl (Nat.le_of_ble_eq_true rfl) dX11_filmStart_16) (fun H locs hW => ?_)
      refine lv_iadd C.1 C.2.1 dX11_filmStart_19 ?_
      refine x_istn C hf dX11_filmStart_20 rfl hl (by decide) (fun v3 => [(2, .int v3), (0, .ref (Z.1 125)), (1, .int p1), (3, .int x3)]) (fun _ => rfl) (fun v3 ls hf hl => ?_)
      refine x_iinc (w := 1) C hf dX11_filmStart_21 hl (k := 3) rfl (by decide) (by decide) (fun v4 => [(3, .int v4), (2, .int v3), (0, .ref (Z.1 125)), (1, .int p1)]) (fun _ => rfl) (fun v4 ls hf hl => ?_)
      refine lv_goto (tgt := 4) C.1 C.2.1 dX11_filmStart_24 (by decide) ?_
      exact ih v3 v4 ls _ _ hW (lv_sub hl [2, 3, 1, 0] rfl) hf
set_option maxRecDepth 20000 in
set_option maxHeartbeats 1000000 in
theorem c_X11_filmStart {l : Launch} {Z : ZT} {h : Hp} {g : Hp} {p1 : Int32} {out : Int32} (hf : f_X11_filmStart g p1 = some out) : Met l yX11_filmStart (wY yX11_filmStart cX11_filmStart 4 (some .int)) (rmD 3) (va_Pc [.ref (Z.1 125), .int p1] (Wd Z h g)) (va_Qi (fun r (_ : Unit) => r = out) (fun _ => Wd Z h g) (FR Z)) 0 0 (FR Z) := by
  refine metX RX11 rfl (by decide +kernel) (Nat.le_of_ble_eq_true rfl) ?_
  intro p e s m args below meth c C hW ls hl
  have hl : lv_has ls 4 [(0, .ref (Z.1 125)), (1, .int p1)] := hl
  unfold f_X11_filmStart at hf
  refine lv_iconst (v := 0) C.1 C.2.1 dX11_filmStart_0 (by decide) ?_
  refine lv_istore_n (lv' := [(2, .int (0 : Int32)), (0, .ref (Z.1 125)), (1, .int p1)]) C.1 C.2.1 dX11_filmStart_1 rfl hl (by decide) rfl (fun ls hl => ?_)
  refine lv_iconst (v := 0) C.1 C.2.1 dX11_filmStart_2 (by decide) ?_
  refine lv_istore_n (lv' := [(3, .int (0 : Int32)), (2, .int (0 : Int32)), (0, .ref (Z.1 125)), (1, .int p1)]) C.1 C.2.1 dX11_filmStart_3 rfl hl (by decide) rfl (fun ls hl => ?_)
  exact l_X11_filmStart_4 C FU (0 : Int32) (0 : Int32) ls _ _ hW (lv_sub hl [2, 3, 1, 0] rfl) hf
set_option maxRecDepth 20000 in
set_option maxHeartbeats 1000000 in
theorem c_X11_film {l : Launch} {Z : ZT} {h : Hp} {g : Hp} {out : Int32} (hf : f_X11_film g = some out) : Met l yX11_film (wY yX11_film cX11_film 1 (some .int)) (rmD 4) (va_Pc [.ref (Z.1 125)] (Wd Z h g)) (va_Qi (fun r (_ : Unit) => r = out) (fun _ => Wd Z h g) (FR Z)) 0 0 (FR Z) := by
  refine metX RX11 rfl (by decide +kernel) (Nat.le_of_ble_eq_true rfl) ?_
  intro p e s m args below meth c C hW ls hl
  have hl : lv_has ls 1 [(0, .ref (Z.1 125))] := hl
  unfold f_X11_film at hf
  refine lv_aload_n C.1 C.2.1 dX11_film_0 rfl (lv_at hl 0 rfl) ?_
  refine lv_aload_n C.1 C.2.1 dX11_film_1 rfl (lv_at hl 0 rfl) ?_
  refine xg_X11_38 C hW (k_125) dX11_film_2 ?_
  refine lv_bipush (v := 40) C.1 C.2.1 dX11_film_5 (by decide) ?_
  refine x_ialdM C hW a_134 hf dX11_film_7 (fun hf => ?_)
  obtain ⟨u1, hcu1, hf⟩ := bnd_t hf
  refine x_calli hW (x_runV C hW hl (wk9 (k_125)) rfl rfl (c_X11_filmStart hcu1) (cw_X11_317) ci_X11_filmStart cs_X11_filmStart (rm_ok (by decide) (by decide)) ⟨Nat.le_refl _, Nat.le_refl _⟩ (As := [.int (g 134 (ix (40 : Int32)))]) rfl rfl (Nat.le_of_ble_eq_true rfl) dX11_film_8) (fun H locs hW => ?_)
  exact x_iret C hW dX11_film_11 (Option.some.inj hf)
set_option maxRecDepth 20000 in
set_option maxHeartbeats 1000000 in
theorem c_X11_shots {l : Launch} {Z : ZT} {h : Hp} {g : Hp} {out : Int32 × Hp} (hf : f_X11_shots g = some out) : Met l yX11_shots (wY yX11_shots cX11_shots 1 (some .int)) (rmD 0) (va_Pc [.ref (Z.1 125)] (Wd Z h g)) (va_Qi (fun r (_ : Unit) => r = out.1) (fun _ => Wd Z h out.2) (FR Z)) 0 0 (FR Z) := by
  refine metX RX11 rfl (by decide +kernel) (Nat.le_of_ble_eq_true rfl) ?_
  intro p e s m args below meth c C hW ls hl
  have hl : lv_has ls 1 [(0, .ref (Z.1 125))] := hl
  unfold f_X11_shots at hf
  refine lv_aload_n C.1 C.2.1 dX11_shots_0 rfl (lv_at hl 0 rfl) ?_
  refine lv_iconst (v := 0) C.1 C.2.1 dX11_shots_1 (by decide) ?_
  refine xp_X11_3 C hW (k_125) hf dX11_shots_2 (fun g1 H locs hf hW => ?_)
  refine lv_aload_n C.1 C.2.1 dX11_shots_5 rfl (lv_at hl 0 rfl) ?_
  refine xg_X11_38 C hW (k_125) dX11_shots_6 ?_
  refine lv_bipush (v := 40) C.1 C.2.1 dX11_shots_9 (by decide) ?_
  refine x_ialdM C hW a_134 hf dX11_shots_11 (fun hf => ?_)
  obtain rfl := Option.some.inj hf
  exact x_iret C hW dX11_shots_12 rfl
set_option maxRecDepth 20000 in
set_option maxHeartbeats 1000000 in
theorem c_X11_blockOf {l : Launch} {Z : ZT} {h : Hp} {g : Hp} {p1 : Int32} {out : Int32 × Hp} (hf : f_X11_blockOf g p1 = some out) : Met l yX11_blockOf (wY yX11_blockOf cX11_blockOf 2 (some .int)) (rmD 2) (va_Pc [.ref (Z.1 125), .int p1] (Wd Z h g)) (va_Qi (fun r (_ : Unit) => r = out.1) (fun _ => Wd Z h out.2) (FR Z)) 0 0 (FR Z) := by
  refine metX RX11 rfl (by decide +kernel) (Nat.le_of_ble_eq_true rfl) ?_
  intro p e s m args below meth c C hW ls hl
  have hl : lv_has ls 2 [(0, .ref (Z.1 125)), (1, .int p1)] := hl
  unfold f_X11_blockOf at hf
  refine lv_aload_n C.1 C.2.1 dX11_blockOf_0 rfl (lv_at hl 0 rfl) ?_
  refine lv_iconst (v := 0) C.1 C.2.1 dX11_blockOf_1 (by decide) ?_
  refine xp_X11_3 C hW (k_125) hf dX11_blockOf_2 (fun g1 H locs hf hW => ?_)
  refine lv_aload_n C.1 C.2.1 dX11_blockOf_5 rfl (lv_at hl 0 rfl) ?_
  refine lv_iload_n C.1 C.2.1 dX11_blockOf_6 rfl (lv_at hl 1 rfl) ?_
  obtain ⟨u2, hcu2, hf⟩ := bnd_t hf
  refine x_calli hW (x_runV C hW hl (wk9 (k_125)) rfl rfl (c_X11_noShot hcu2) (cw_X11_320) ci_X11_noShot cs_X11_noShot (rm_ok (by decide) (by decide)) ⟨Nat.le_refl _, Nat.le_refl _⟩ (As := [.int p1]) rfl rfl (Nat.le_of_ble_eq_true rfl) dX11_blockOf_7) (fun H locs hW => ?_)
  refine x_ifeq (tgt := 17) C hf dX11_blockOf_10 (by decide) (fun hf => ?_) (fun hf => ?_)
  · refine lv_aload_n C.1 C.2.1 dX11_blockOf_17 rfl (lv_at hl 0 rfl) ?_
    refine lv_iload_n C.1 C.2.1 dX11_blockOf_18 rfl (lv_at hl 1 rfl) ?_
    obtain ⟨u3, hcu3, hf⟩ := bnd_t hf
    refine x_calli hW (x_runV C hW hl (wk9 (k_125)) rfl rfl (c_X11_shotBlock hcu3) (cw_X11_311) ci_X11_shotBlock cs_X11_shotBlock (rm_ok (by decide) (by decide)) ⟨Nat.le_refl _, Nat.le_refl _⟩ (As := [.int p1]) rfl rfl (Nat.le_of_ble_eq_true rfl) dX11_blockOf_19) (fun H locs hW => ?_)
    obtain rfl := Option.some.inj hf
    exact x_iret C hW dX11_blockOf_22 rfl
  · refine lv_iconst (v := 0) C.1 C.2.1 dX11_blockOf_13 (by decide) ?_
    refine lv_goto (tgt := 22) C.1 C.2.1 dX11_blockOf_14 (by decide) ?_
    obtain rfl := Option.some.inj hf
    exact x_iret C hW dX11_blockOf_22 rfl
set_option maxRecDepth 20000 in
set_option maxHeartbeats 1000000 in
theorem c_X11_shotField {l : Launch} {Z : ZT} {h : Hp} {g : Hp} {p1 : Int32} {p2 : Int32} {out : Int32 × Hp} (hf : f_X11_shotField g p1 p2 = some out) : Met l yX11_shotField (wY yX11_shotField cX11_shotField 4 (some .int)) (rmD 4) (va_Pc [.ref (Z.1 125), .int p1, .int p2] (Wd Z h g)) (va_Qi (fun r (_ : Unit) => r = out.1) (fun _ => Wd Z h out.2) (FR Z)) 0 0 (FR Z) := by
  refine metX RX11 rfl (by decide +kernel) (Nat.le_of_ble_eq_true rfl) ?_
  intro p e s m args below meth c C hW ls hl
  have hl : lv_has ls 4 [(0, .ref (Z.1 125)), (1, .int p1), (2, .int p2)] := hl
  unfold f_X11_shotField at hf
  refine lv_aload_n C.1 C.2.1 dX11_shotField_0 rfl (lv_at hl 0 rfl) ?_
  refine lv_iconst (v := 0) C.1 C.2.1 dX11_shotField_1 (by decide) ?_
  refine xp_X11_3 C hW (k_125) hf dX11_shotField_2 (fun g1 H locs hf hW => ?_)
  refine lv_aload_n C.1 C.2.1 dX11_shotField_5 rfl (lv_at hl 0 rfl) ?_
  refine lv_iload_n C.1 C.2.1 dX11_shotField_6 rfl (lv_at hl 1 rfl) ?_
  obtain ⟨u2, hcu2, hf⟩ := bnd_t hf
  refine x_calli hW (x_runV C hW hl (wk9 (k_125)) rfl rfl (c_X11_noShot hcu2) (cw_X11_320) ci_X11_noShot cs_X11_noShot (rm_ok (by decide) (by decide)) ⟨Nat.le_refl _, Nat.le_refl _⟩ (As := [.int p1]) rfl rfl (Nat.le_of_ble_eq_true rfl) dX11_shotField_7) (fun H locs hW => ?_)
  refine x_ifeq (tgt := 15) C hf dX11_shotField_10 (by decide) (fun hf => ?_) (fun hf => ?_)
  · refine lv_aload_n C.1 C.2.1 dX11_shotField_15 rfl (lv_at hl 0 rfl) ?_
    refine lv_iload_n C.1 C.2.1 dX11_shotField_16 rfl (lv_at hl 1 rfl) ?_
    obtain ⟨u3, hcu3, hf⟩ := bnd_t hf
    refine x_calli hW (x_runV C hW hl (wk9 (k_125)) rfl rfl (c_X11_shotBlock hcu3) (cw_X11_311) ci_X11_shotBlock cs_X11_shotBlock (rm_ok (by decide) (by decide)) ⟨Nat.le_refl _, Nat.le_refl _⟩ (As := [.int p1]) rfl rfl (Nat.le_of_ble_eq_true rfl) dX11_shotField_17) (fun H locs hW => ?_)
    refine lv_istore_n (lv' := [(3, .int u3), (0, .ref (Z.1 125)), (1, .int p1), (2, .int p2)]) C.1 C.2.1 dX11_shotField_20 rfl hl (by decide) rfl (fun ls hl => ?_)
    refine lv_iload_n C.1 C.2.1 dX11_shotField_21 rfl (lv_at hl 3 rfl) ?_
    refine x_ifne (tgt := 33) C hf dX11_shotField_22 (by decide) (fun hf => ?_) (fun hf => ?_)
    · refine lv_iload_n C.1 C.2.1 dX11_shotField_33 rfl (lv_at hl 3 rfl) ?_
      refine lv_iconst (v := 1) C.1 C.2.1 dX11_shotField_34 (by decide) ?_
      refine x_cmpne (tgt := 46) C hf dX11_shotField_35 (by decide) (fun hf => ?_) (fun hf => ?_)
      · refine lv_iload_n C.1 C.2.1 dX11_shotField_46 rfl (lv_at hl 3 rfl) ?_
        refine lv_iconst (v := 2) C.1 C.2.1 dX11_shotField_47 (by decide) ?_
        refine x_cmpne (tgt := 59) C hf dX11_shotField_48 (by decide) (fun hf => ?_) (fun hf => ?_)
        · refine lv_iconst (v := -1) C.1 C.2.1 dX11_shotField_59 (by decide) ?_
          obtain rfl := Option.some.inj hf
          exact x_iret C hW dX11_shotField_60 rfl
        · refine lv_aload_n C.1 C.2.1 dX11_shotField_51 rfl (lv_at hl 1 rfl) ?_
          refine lv_iload_n C.1 C.2.1 dX11_shotField_52 rfl (lv_at hl 2 rfl) ?_
          obtain ⟨u4, hcu4, hf⟩ := bnd_t hf
          refine x_calli hW (x_runV C hW hl (wk9 (k_125)) rfl rfl (c_X11_filmStart hcu4) (cw_X11_317) ci_X11_filmStart cs_X11_filmStart (rm_ok (by decide) (by decide)) ⟨Nat.le_refl _, Nat.le_refl _⟩ (As := [.int p1]) rfl rfl (Nat.le_of_ble_eq_true rfl) dX11_shotField_53) (fun H locs hW => ?_)
          refine lv_goto (tgt := 60) C.1 C.2.1 dX11_shotField_56 (by decide) ?_
          obtain rfl := Option.some.inj hf
          exact x_iret C hW dX11_shotField_60 rfl
      · refine lv_aload_n C.1 C.2.1 dX11_shotField_38 rfl (lv_at hl 1 rfl) ?_
        refine lv_iload_n C.1 C.2.1 dX11_shotField_39 rfl (lv_at hl 0 rfl) ?_
        obtain ⟨u5, hcu5, hf⟩ := bnd_t hf
        refine x_calli hW (x_runV C hW hl (wk9 (k_125)) rfl rfl (c_X11_playsTo hcu5) (cw_X11_305) ci_X11_playsTo cs_X11_playsTo (rm_ok (by decide) (by decide)) ⟨Nat.le_refl _, Nat.le_refl _⟩ (As := [.int u3]) rfl rfl (Nat.le_of_ble_eq_true rfl) dX11_shotField_40) (fun H locs hW => ?_)
        refine lv_goto (tgt := 60) C.1 C.2.1 dX11_shotField_43 (by decide) ?_
        obtain rfl := Option.some.inj hf
        exact x_iret C hW dX11_shotField_60 rfl
    · refine lv_aload_n C.1 C.2.1 dX11_shotField_25 rfl (lv_at hl 1 rfl) ?_
      refine lv_iload_n C.1 C.2.1 dX11_shotField_26 rfl (lv_at hl 0 rfl) ?_
      obtain ⟨u6, hcu6, hf⟩ := bnd_t hf
      refine x_calli hW (x_runV C hW hl (wk9 (k_125)) rfl rfl (c_X11_playsFrom hcu6) (cw_X11_308) ci_X11_playsFrom cs_X11_playsFrom (rm_ok (by decide) (by decide)) ⟨Nat.le_refl _, Nat.le_refl _⟩ (As := [.int u3]) rfl rfl (Nat.le_of_ble_eq_true rfl) dX11_shotField_27) (fun H locs hW => ?_)
      refine lv_goto (tgt := 60) C.1 C.2.1 dX11_shotField_30 (by decide) ?_
      obtain rfl := Option.some.inj hf
      exact x_iret C hW dX11_shotField_60 rfl
  · refine lv_iconst (v := 0) C.1 C.2.1 dX11_shotField_13 (by decide) ?_
    obtain rfl := Option.some.inj hf
    exact x_iret C hW dX11_shotField_14 rfl
set_option maxRecDepth 20000 in
set_option maxHeartbeats 1000000 in
theorem c_X11_filmLength {l : Launch} {Z : ZT} {h : Hp} {g : Hp} {out : Int32 × Hp} (hf : f_X11_filmLength g = some out) : Met l yX11_filmLength (wY yX11_filmLength cX11_filmLength 1 (some .int)) (rmD 5) (va_Pc [.ref (Z.1 125)] (Wd Z h g)) (va_Qi (fun r (_ : Unit) => r = out.1) (fun _ => Wd Z h out.2) (FR Z)) 0 0 (FR Z) := by
  refine metX RX11 rfl (by decide +kernel) (Nat.le_of_ble_eq_true rfl) ?_
  intro p e s m args below meth c C hW ls hl
  have hl : lv_has ls 1 [(0, .ref (Z.1 125))] := hl
  unfold f_X11_filmLength at hf
  refine lv_aload_n C.1 C.2.1 dX11_filmLength_0 rfl (lv_at hl 0 rfl) ?_
  refine lv_iconst (v := 0) C.1 C.2.1 dX11_filmLength_1 (by decide) ?_
  refine xp_X11_3 C hW (k_125) hf dX11_filmLength_2 (fun g1 H locs hf hW => ?_)
  refine lv_aload_n C.1 C.2.1 dX11_filmLength_5 rfl (lv_at hl 0 rfl) ?_
  obtain ⟨u2, hcu2, hf⟩ := bnd_t hf
  refine x_calli hW (x_runV C hW hl (wk9 (k_125)) rfl rfl (c_X11_film hcu2) (cw_X11_323) ci_X11_film cs_X11_film (rm_ok (by decide) (by decide)) ⟨Nat.le_refl _, Nat.le_refl _⟩ (As := []) rfl rfl (Nat.le_of_ble_eq_true rfl) dX11_filmLength_6) (fun H locs hW => ?_)
  obtain rfl := Option.some.inj hf
  exact x_iret C hW dX11_filmLength_9 rfl
set_option maxRecDepth 20000 in
set_option maxHeartbeats 1000000 in
theorem c_X11_beginsClip {l : Launch} {Z : ZT} {h : Hp} {g : Hp} {p1 : Int32} {out : Int32} (hf : f_X11_beginsClip g p1 = some out) : Met l yX11_beginsClip (wY yX11_beginsClip cX11_beginsClip 2 (some .boolean)) (rmD 2) (va_Pc [.ref (Z.1 125), .int p1] (Wd Z h g)) (va_Qi (fun r (_ : Unit) => r = out) (fun _ => Wd Z h g) (FR Z)) 0 0 (FR Z) := by
  refine metX RX11 rfl (by decide +kernel) (Nat.le_of_ble_eq_true rfl) ?_
  intro p e s m args below meth c C hW ls hl
  have hl : lv_has ls 2 [(0, .ref (Z.1 125)), (1, .int p1)] := hl
  unfold f_X11_beginsClip at hf
  refine lv_iload_n C.1 C.2.1 dX11_beginsClip_0 rfl (lv_at hl 1 rfl) ?_
  refine x_ifeq (tgt := 27) C hf dX11_beginsClip_1 (by decide) (fun hf => ?_) (fun hf => ?_)
  · refine lv_iconst (v := 1) C.1 C.2.1 dX11_beginsClip_27 (by decide) ?_
    refine lv_goto (tgt := 32) C.1 C.2.1 dX11_beginsClip_28 (by decide) ?_
    exact x_zret C hW (by decide) dX11_beginsClip_32 (Option.some.inj hf)
  · refine lv_aload_n C.1 C.2.1 dX11_beginsClip_4 rfl (lv_at hl 0 rfl) ?_
    refine lv_aload_n C.1 C.2.1 dX11_beginsClip_5 rfl (lv_at hl 0 rfl) ?_
    refine lv_iload_n C.1 C.2.1 dX11_beginsClip_6 rfl (lv_at hl 1 rfl) ?_
    obtain ⟨u1, hcu1, hf⟩ := bnd_t hf
    refine x_calli hW (x_runV C hW hl (wk9 (k_125)) rfl rfl (c_X11_shotBlock hcu1) (cw_X11_311) ci_X11_shotBlock cs_X11_shotBlock (rm_ok (by decide) (by decide)) ⟨Nat.le_refl _, Nat.le_refl _⟩ (As := [.int p1]) rfl rfl (Nat.le_of_ble_eq_true rfl) dX11_beginsClip_7) (fun H locs hW => ?_)
    obtain ⟨u2, hcu2, hf⟩ := bnd_t hf
    refine x_calli hW (x_runV C hW hl (wk9 (k_125)) rfl rfl (c_X11_playsFrom hcu2) (cw_X11_308) ci_X11_playsFrom cs_X11_playsFrom (rm_ok (by decide) (by decide)) ⟨Nat.le_refl _, Nat.le_refl _⟩ (As := [.int u1]) rfl rfl (Nat.le_of_ble_eq_true rfl) dX11_beginsClip_10) (fun H locs hW => ?_)
    refine lv_aload_n C.1 C.2.1 dX11_beginsClip_13 rfl (lv_at hl 0 rfl) ?_
    refine lv_aload_n C.1 C.2.1 dX11_beginsClip_14 rfl (lv_at hl 0 rfl) ?_
    refine lv_iload_n C.1 C.2.1 dX11_beginsClip_15 rfl (lv_at hl 1 rfl) ?_
    refine lv_iconst (v := 1) C.1 C.2.1 dX11_beginsClip_16 (by decide) ?_
    refine lv_isub C.1 C.2.1 dX11_beginsClip_17 ?_
    obtain ⟨u3, hcu3, hf⟩ := bnd_t hf
    refine x_calli hW (x_runV C hW hl (wk9 (k_125)) rfl rfl (c_X11_shotBlock hcu3) (cw_X11_311) ci_X11_shotBlock cs_X11_shotBlock (rm_ok (by decide) (by decide)) ⟨Nat.le_refl _, Nat.le_refl _⟩ (As := [.int (p1 - (1 : Int32))]) rfl rfl (Nat.le_of_ble_eq_true rfl) dX11_beginsClip_18) (fun H locs hW => ?_)
    obtain ⟨u4, hcu4, hf⟩ := bnd_t hf
    refine x_calli hW (x_runV C hW hl (wk9 (k_125)) rfl rfl (c_X11_playsTo hcu4) (cw_X11_305) ci_X11_playsTo cs_X11_playsTo (rm_ok (by decide) (by decide)) ⟨Nat.le_refl _, Nat.le_refl _⟩ (As := [.int u3]) rfl rfl (Nat.le_of_ble_eq_true rfl) dX11_beginsClip_21) (fun H locs hW => ?_)
    refine x_cmpeq (tgt := 31) C hf dX11_beginsClip_24 (by decide) (fun hf => ?_) (fun hf => ?_)
    · refine lv_iconst (v := 0) C.1 C.2.1 dX11_beginsClip_31 (by decide) ?_
      exact x_zret C hW (by decide) dX11_beginsClip_32 (Option.some.inj hf)
    · refine lv_iconst (v := 1) C.1 C.2.1 dX11_beginsClip_27 (by decide) ?_
      refine lv_goto (tgt := 32) C.1 C.2.1 dX11_beginsClip_28 (by decide) ?_
      exact x_zret C hW (by decide) dX11_beginsClip_32 (Option.some.inj hf)
set_option maxRecDepth 20000 in
set_option maxHeartbeats 1000000 in
theorem j_X11_clips_34 {l : Launch} {Z : ZT} {h : Hp} {g : Hp} {r9 : Int32 × Int32 → Option (Int32 × Hp)} {x2 : Int32} {s0 : Int32} {s1 : Int32} {p : Program} {e : Env} {s : State} {m : MethodId} {args : Array Value} {below : List Frame} {meth : Method} {c : Code} (C : CX p s m args meth c cX11_clips RX11 3 (some .int) Z) {out : Int32 × Hp} (hr9 : ∀ (x1 : Int32) (x2 : Int32) (ls : Array Slot) (H : Heap) (locs : List Loc), XW Z h g s.heap H locs → lv_has ls 3 [(0, .ref (Z.1 125)), (1, .int x1), (2, .int x2)] → r9 (x1, x2) = some out → W p l e (rmD 3) s m args below meth c H locs 0 0 (MQ below (va_Qi (fun r (_ : Unit) => r = out.1) (fun _ => Wd Z h out.2) (FR Z)) args s 0 0 (FR Z)) (F0 m 9 ls [])) {ls : Array Slot} {H : Heap} {locs : List Loc} (hW : XW Z h g s.heap H locs) (hl : lv_has ls 3 [(0, .ref (Z.1 125)), (2, .int x2)]) (hf : J_X11_clips_34 g r9 x2 s0 s1 = some out) : W p l e (rmD 3) s m args below meth c H locs 0 0 (MQ below (va_Qi (fun r (_ : Unit) => r = out.1) (fun _ => Wd Z h out.2) (FR Z)) args s 0 0 (FR Z)) (F0 m 34 ls [.int s1, .int s0]) := by
  rw [J_X11_clips_34] at hf
  refine lv_iadd C.1 C.2.1 dX11_clips_34 ?_
  refine x_istn C hf dX11_clips_35 rfl hl (by decide) (fun v1 => [(1, .int v1), (0, .ref (Z.1 125)), (2, .int x2)]) (fun _ => rfl) (fun v1 ls hf hl => ?_)
  refine x_iinc (w := 1) C hf dX11_clips_36 hl (k := 2) rfl (by decide) (by decide) (fun v2 => [(2, .int v2), (1, .int v1), (0, .ref (Z.1 125))]) (fun _ => rfl) (fun v2 ls hf hl => ?_)
  refine lv_goto (tgt := 9) C.1 C.2.1 dX11_clips_39 (by decide) ?_
  exact hr9 v1 v2 ls _ _ hW (lv_sub hl [2, 1, 0] rfl) hf
set_option maxRecDepth 20000 in
set_option maxHeartbeats 1000000 in
theorem l_X11_clips_9 {l : Launch} {Z : ZT} {h : Hp} {g : Hp} {p : Program} {e : Env} {s : State} {m : MethodId} {args : Array Value} {below : List Frame} {meth : Method} {c : Code} (C : CX p s m args meth c cX11_clips RX11 3 (some .int) Z) {out : Int32 × Hp} : ∀ (n : Nat) (x1 : Int32) (x2 : Int32) (ls : Array Slot) (H : Heap) (locs : List Loc), XW Z h g s.heap H locs → lv_has ls 3 [(0, .ref (Z.1 125)), (1, .int x1), (2, .int x2)] → Lp (F_X11_clips_9 g) n (x1, x2) = some out → W p l e (rmD 3) s m args below meth c H locs 0 0 (MQ below (va_Qi (fun r (_ : Unit) => r = out.1) (fun _ => Wd Z h out.2) (FR Z)) args s 0 0 (FR Z)) (F0 m 9 ls []) := by
  intro n
  induction n with
  | zero => intro x1 x2 ls H locs hW hl hf; cases hf
  | succ n ih =>
    intro x1 x2 ls H locs hW hl hf
    rw [Lp_s] at hf
    refine lv_iload_n C.1 C.2.1 dX11_clips_9 rfl (lv_at hl 2 rfl) ?_
    refine lv_aload_n C.1 C.2.1 dX11_clips_10 rfl (lv_at hl 0 rfl) ?_
    refine xg_X11_38 C hW (k_125) dX11_clips_11 ?_
    refine lv_bipush (v := 40) C.1 C.2.1 dX11_clips_14 (by decide) ?_
    refine x_ialdM C hW a_134 hf dX11_clips_16 (fun hf => ?_)
    refine x_cmpge (tgt := 42) C hf dX11_clips_17 (by decide) (fun hf => ?_) (fun hf => ?_)
    · refine lv_iload_n C.1 C.2.1 dX11_clips_42 rfl (lv_at hl 1 rfl) ?_
      obtain rfl := Option.some.inj hf
      exact x_iret C hW dX11_clips_43 rfl
    · refine lv_iload_n C.1 C.2.1 dX11_clips_20 rfl (lv_at hl 1 rfl) ?_
      refine lv_aload_n C.1 C.2.1 dX11_clips_21 rfl (lv_at hl 0 rfl) ?_
      refine lv_iload_n C.1 C.2.1 dX11_clips_22 rfl (lv_at hl 2 rfl) ?_
      obtain ⟨u3, hcu3, hf⟩ := bnd_t hf
      refine x_calli hW (x_runV C hW hl (wk9 (k_125)) rfl rfl (c_X11_beginsClip hcu3) (cw_X11_326) ci_X11_beginsClip cs_X11_beginsClip (rm_ok (by decide) (by decide)) ⟨Nat.le_refl _, Nat.le_refl _⟩ (As := [.int x2]) rfl rfl (Nat.le_of_ble_eq_true rfl) dX11_clips_23) (fun H locs hW => ?_)
      refine x_ifeq (tgt := 33) C hf dX11_clips_26 (by decide) (fun hf => ?_) (fun hf => ?_)
      · refine lv_iconst (v := 0) C.1 C.2.1 dX11_clips_33 (by decide) ?_
        exact j_X11_clips_34 C (fun z0 z1 => ih z0 z1) hW (lv_sub hl [0, 2] rfl) hf
      · refine lv_iconst (v := 1) C.1 C.2.1 dX11_clips_29 (by decide) ?_
        refine lv_goto (tgt := 34) C.1 C.2.1 dX11_clips_30 (by decide) ?_
        exact j_X11_clips_34 C (fun z0 z1 => ih z0 z1) hW (lv_sub hl [0, 2] rfl) hf
set_option maxRecDepth 20000 in
set_option maxHeartbeats 1000000 in
theorem c_X11_clips {l : Launch} {Z : ZT} {h : Hp} {g : Hp} {out : Int32 × Hp} (hf : f_X11_clips g = some out) : Met l yX11_clips (wY yX11_clips cX11_clips 3 (some .int)) (rmD 3) (va_Pc [.ref (Z.1 125)] (Wd Z h g)) (va_Qi (fun r (_ : Unit) => r = out.1) (fun _ => Wd Z h out.2) (FR Z)) 0 0 (FR Z) := by
  refine metX RX11 rfl (by decide +kernel) (Nat.le_of_ble_eq_true rfl) ?_
  intro p e s m args below meth c C hW ls hl
  have hl : lv_has ls 3 [(0, .ref (Z.1 125))] := hl
  unfold f_X11_clips at hf
  refine lv_aload_n C.1 C.2.1 dX11_clips_0 rfl (lv_at hl 0 rfl) ?_
  refine lv_iconst (v := 0) C.1 C.2.1 dX11_clips_1 (by decide) ?_
  refine xp_X11_3 C hW (k_125) hf dX11_clips_2 (fun g4 H locs hf hW => ?_)
  refine lv_iconst (v := 0) C.1 C.2.1 dX11_clips_5 (by decide) ?_
  refine lv_istore_n (lv' := [(1, .int (0 : Int32)), (0, .ref (Z.1 125))]) C.1 C.2.1 dX11_clips_6 rfl hl (by decide) rfl (fun ls hl => ?_)
  refine lv_iconst (v := 0) C.1 C.2.1 dX11_clips_7 (by decide) ?_
  refine lv_istore_n (lv' := [(2, .int (0 : Int32)), (1, .int (0 : Int32)), (0, .ref (Z.1 125))]) C.1 C.2.1 dX11_clips_8 rfl hl (by decide) rfl (fun ls hl => ?_)
  exact l_X11_clips_9 C FU (0 : Int32) (0 : Int32) ls _ _ hW (lv_sub hl [2, 1, 0] rfl) hf
set_option maxRecDepth 20000 in
set_option maxHeartbeats 1000000 in
theorem j_X11_clipAt_36 {l : Launch} {Z : ZT} {h : Hp} {g : Hp} {p1 : Int32} {r4 : Int32 × Int32 → Option (Int32)} {x2 : Int32} {x3 : Int32} {p : Program} {e : Env} {s : State} {m : MethodId} {args : Array Value} {below : List Frame} {meth : Method} {c : Code} (C : CX p s m args meth c cX11_clipAt RX11 4 (some .int) Z) {out : Int32} (hr4 : ∀ (x2 : Int32) (x3 : Int32) (ls : Array Slot) (H : Heap) (locs : List Loc), XW Z h g s.heap H locs → lv_has ls 4 [(0, .ref (Z.1 125)), (1, .int p1), (2, .int x2), (3, .int x3)] → r4 (x2, x3) = some out → W p l e (rmD 3) s m args below meth c H locs 0 0 (MQ below (va_Qi (fun r (_ : Unit) => r = out) (fun _ => Wd Z h g) (FR Z)) args s 0 0 (FR Z)) (F0 m 4 ls [])) {ls : Array Slot} {H : Heap} {locs : List Loc} (hW : XW Z h g s.heap H locs) (hl : lv_has ls 4 [(0, .ref (Z.1 125)), (1, .int p1), (2, .int x2), (3, .int x3)]) (hf : J_X11_clipAt_36 g p1 r4 x2 x3 = some out) : W p l e (rmD 3) s m args below meth c H locs 0 0 (MQ below (va_Qi (fun r (_ : Unit) => r = out) (fun _ => Wd Z h g) (FR Z)) args s 0 0 (FR Z)) (F0 m 36 ls []) := by
  rw [J_X11_clipAt_36] at hf
  refine x_iinc (w := 1) C hf dX11_clipAt_36 hl (k := 3) rfl (by decide) (by decide) (fun v1 => [(3, .int v1), (0, .ref (Z.1 125)), (1, .int p1), (2, .int x2)]) (fun _ => rfl) (fun v1 ls hf hl => ?_)
  refine lv_goto (tgt := 4) C.1 C.2.1 dX11_clipAt_39 (by decide) ?_
  exact hr4 x2 v1 ls _ _ hW (lv_sub hl [1, 2, 3, 0] rfl) hf
set_option maxRecDepth 20000 in
set_option maxHeartbeats 1000000 in
theorem l_X11_clipAt_4 {l : Launch} {Z : ZT} {h : Hp} {g : Hp} {p1 : Int32} {p : Program} {e : Env} {s : State} {m : MethodId} {args : Array Value} {below : List Frame} {meth : Method} {c : Code} (C : CX p s m args meth c cX11_clipAt RX11 4 (some .int) Z) {out : Int32} : ∀ (n : Nat) (x2 : Int32) (x3 : Int32) (ls : Array Slot) (H : Heap) (locs : List Loc), XW Z h g s.heap H locs → lv_has ls 4 [(0, .ref (Z.1 125)), (1, .int p1), (2, .int x2), (3, .int x3)] → Lp (F_X11_clipAt_4 g p1) n (x2, x3) = some out → W p l e (rmD 3) s m args below meth c H locs 0 0 (MQ below (va_Qi (fun r (_ : Unit) => r = out) (fun _ => Wd Z h g) (FR Z)) args s 0 0 (FR Z)) (F0 m 4 ls []) := by
  intro n
  induction n with
  | zero => intro x2 x3 ls H locs hW hl hf; cases hf
  | succ n ih =>
    intro x2 x3 ls H locs hW hl hf
    rw [Lp_s] at hf
    refine lv_iload_n C.1 C.2.1 dX11_clipAt_4 rfl (lv_at hl 3 rfl) ?_
    refine lv_aload_n C.1 C.2.1 dX11_clipAt_5 rfl (lv_at hl 0 rfl) ?_
    refine xg_X11_38 C hW (k_125) dX11_clipAt_6 ?_
    refine lv_bipush (v := 40) C.1 C.2.1 dX11_clipAt_9 (by decide) ?_
    refine x_ialdM C hW a_134 hf dX11_clipAt_11 (fun hf => ?_)
    refine x_cmpge (tgt := 42) C hf dX11_clipAt_12 (by decide) (fun hf => ?_) (fun hf => ?_)
    · refine lv_iconst (v := -1) C.1 C.2.1 dX11_clipAt_42 (by decide) ?_
      exact x_iret C hW dX11_clipAt_43 (Option.some.inj hf)
    · refine lv_aload_n C.1 C.2.1 dX11_clipAt_15 rfl (lv_at hl 0 rfl) ?_
      refine lv_iload_n C.1 C.2.1 dX11_clipAt_16 rfl (lv_at hl 3 rfl) ?_
      obtain ⟨u2, hcu2, hf⟩ := bnd_t hf
      refine x_calli hW (x_runV C hW hl (wk9 (k_125)) rfl rfl (c_X11_beginsClip hcu2) (cw_X11_326) ci_X11_beginsClip cs_X11_beginsClip (rm_ok (by decide) (by decide)) ⟨Nat.le_refl _, Nat.le_refl _⟩ (As := [.int x3]) rfl rfl (Nat.le_of_ble_eq_true rfl) dX11_clipAt_17) (fun H locs hW => ?_)
      refine x_ifne (tgt := 26) C hf dX11_clipAt_20 (by decide) (fun hf => ?_) (fun hf => ?_)
      · refine lv_iload_n C.1 C.2.1 dX11_clipAt_26 rfl (lv_at hl 2 rfl) ?_
        refine lv_iload_n C.1 C.2.1 dX11_clipAt_27 rfl (lv_at hl 1 rfl) ?_
        refine x_cmpne (tgt := 33) C hf dX11_clipAt_28 (by decide) (fun hf => ?_) (fun hf => ?_)
        · refine x_iinc (w := 1) C hf dX11_clipAt_33 hl (k := 2) rfl (by decide) (by decide) (fun v3 => [(2, .int v3), (0, .ref (Z.1 125)), (1, .int p1), (3, .int x3)]) (fun _ => rfl) (fun v3 ls hf hl => ?_)
          exact j_X11_clipAt_36 C (fun z0 z1 => ih z0 z1) hW (lv_sub hl [1, 2, 0, 3] rfl) hf
        · refine lv_iload_n C.1 C.2.1 dX11_clipAt_31 rfl (lv_at hl 3 rfl) ?_
          exact x_iret C hW dX11_clipAt_32 (Option.some.inj hf)
      · refine lv_goto (tgt := 36) C.1 C.2.1 dX11_clipAt_23 (by decide) ?_
        exact j_X11_clipAt_36 C (fun z0 z1 => ih z0 z1) hW (lv_sub hl [0, 1, 2, 3] rfl) hf
set_option maxRecDepth 20000 in
set_option maxHeartbeats 1000000 in
theorem c_X11_clipAt {l : Launch} {Z : ZT} {h : Hp} {g : Hp} {p1 : Int32} {out : Int32} (hf : f_X11_clipAt g p1 = some out) : Met l yX11_clipAt (wY yX11_clipAt cX11_clipAt 4 (some .int)) (rmD 3) (va_Pc [.ref (Z.1 125), .int p1] (Wd Z h g)) (va_Qi (fun r (_ : Unit) => r = out) (fun _ => Wd Z h g) (FR Z)) 0 0 (FR Z) := by
  refine metX RX11 rfl (by decide +kernel) (Nat.le_of_ble_eq_true rfl) ?_
  intro p e s m args below meth c C hW ls hl
  have hl : lv_has ls 4 [(0, .ref (Z.1 125)), (1, .int p1)] := hl
  unfold f_X11_clipAt at hf
  refine lv_iconst (v := 0) C.1 C.2.1 dX11_clipAt_0 (by decide) ?_
  refine lv_istore_n (lv' := [(2, .int (0 : Int32)), (0, .ref (Z.1 125)), (1, .int p1)]) C.1 C.2.1 dX11_clipAt_1 rfl hl (by decide) rfl (fun ls hl => ?_)
  refine lv_iconst (v := 0) C.1 C.2.1 dX11_clipAt_2 (by decide) ?_
  refine lv_istore_n (lv' := [(3, .int (0 : Int32)), (2, .int (0 : Int32)), (0, .ref (Z.1 125)), (1, .int p1)]) C.1 C.2.1 dX11_clipAt_3 rfl hl (by decide) rfl (fun ls hl => ?_)
  exact l_X11_clipAt_4 C FU (0 : Int32) (0 : Int32) ls _ _ hW (lv_sub hl [2, 3, 1, 0] rfl) hf
set_option maxRecDepth 20000 in
set_option maxHeartbeats 1000000 in
theorem j_X11_clipField_52 {l : Launch} {Z : ZT} {h : Hp} {p1 : Int32} {p2 : Int32} {g : Hp} {x3 : Int32} {x4 : Int32} {p : Program} {e : Env} {s : State} {m : MethodId} {args : Array Value} {below : List Frame} {meth : Method} {c : Code} (C : CX p s m args meth c cX11_clipField RX11 5 (some .int) Z) {out : Int32 × Hp} {ls : Array Slot} {H : Heap} {locs : List Loc} (hW : XW Z h g s.heap H locs) (hl : lv_has ls 5 [(0, .ref (Z.1 125)), (1, .int p1), (2, .int p2), (3, .int x3), (4, .int x4)]) (hf : J_X11_clipField_52 p1 p2 g x3 x4 = some out) : W p l e (rmD 4) s m args below meth c H locs 0 0 (MQ below (va_Qi (fun r (_ : Unit) => r = out.1) (fun _ => Wd Z h out.2) (FR Z)) args s 0 0 (FR Z)) (F0 m 52 ls []) := by
  rw [J_X11_clipField_52] at hf
  refine lv_iload_n C.1 C.2.1 dX11_clipField_52 rfl (lv_at hl 2 rfl) ?_
  rcases Classical.em (p2 = 0) with q0 | q0
  · rw [if_pos q0] at hf
    refine x_swin (tgt := 84) C q0 dX11_clipField_53 (by decide) (by decide) rfl (by decide) ?_
    refine lv_aload_n C.1 C.2.1 dX11_clipField_84 rfl (lv_at hl 0 rfl) ?_
    refine lv_aload_n C.1 C.2.1 dX11_clipField_85 rfl (lv_at hl 0 rfl) ?_
    refine lv_iload_n C.1 C.2.1 dX11_clipField_86 rfl (lv_at hl 3 rfl) ?_
    obtain ⟨u1, hcu1, hf⟩ := bnd_t hf
    refine x_calli hW (x_runV C hW hl (wk9 (k_125)) rfl rfl (c_X11_shotBlock hcu1) (cw_X11_311) ci_X11_shotBlock cs_X11_shotBlock (rm_ok (by decide) (by decide)) ⟨Nat.le_refl _, Nat.le_refl _⟩ (As := [.int x3]) rfl rfl (Nat.le_of_ble_eq_true rfl) dX11_clipField_87) (fun H locs hW => ?_)
    obtain ⟨u2, hcu2, hf⟩ := bnd_t hf
    refine x_calli hW (x_runV C hW hl (wk9 (k_125)) rfl rfl (c_X11_playsFrom hcu2) (cw_X11_308) ci_X11_playsFrom cs_X11_playsFrom (rm_ok (by decide) (by decide)) ⟨Nat.le_refl _, Nat.le_refl _⟩ (As := [.int u1]) rfl rfl (Nat.le_of_ble_eq_true rfl) dX11_clipField_90) (fun H locs hW => ?_)
    obtain rfl := Option.some.inj hf
    exact x_iret C hW dX11_clipField_93 rfl
  · rw [if_neg q0] at hf
    rcases Classical.em (p2 = 1) with q1 | q1
    · rw [if_pos q1] at hf
      refine x_swin (tgt := 94) C q1 dX11_clipField_53 (by decide) (by decide) rfl (by decide) ?_
      refine lv_aload_n C.1 C.2.1 dX11_clipField_94 rfl (lv_at hl 0 rfl) ?_
      refine lv_aload_n C.1 C.2.1 dX11_clipField_95 rfl (lv_at hl 0 rfl) ?_
      refine lv_iload C.1 C.2.1 dX11_clipField_96 (lv_at hl 4 rfl) ?_
      obtain ⟨u3, hcu3, hf⟩ := bnd_t hf
      refine x_calli hW (x_runV C hW hl (wk9 (k_125)) rfl rfl (c_X11_shotBlock hcu3) (cw_X11_311) ci_X11_shotBlock cs_X11_shotBlock (rm_ok (by decide) (by decide)) ⟨Nat.le_refl _, Nat.le_refl _⟩ (As := [.int x4]) rfl rfl (Nat.le_of_ble_eq_true rfl) dX11_clipField_98) (fun H locs hW => ?_)
      obtain ⟨u4, hcu4, hf⟩ := bnd_t hf
      refine x_calli hW (x_runV C hW hl (wk9 (k_125)) rfl rfl (c_X11_playsTo hcu4) (cw_X11_305) ci_X11_playsTo cs_X11_playsTo (rm_ok (by decide) (by decide)) ⟨Nat.le_refl _, Nat.le_refl _⟩ (As := [.int u3]) rfl rfl (Nat.le_of_ble_eq_true rfl) dX11_clipField_101) (fun H locs hW => ?_)
      obtain rfl := Option.some.inj hf
      exact x_iret C hW dX11_clipField_104 rfl
    · rw [if_neg q1] at hf
      rcases Classical.em (p2 = 2) with q2 | q2
      · rw [if_pos q2] at hf
        refine x_swin (tgt := 105) C q2 dX11_clipField_53 (by decide) (by decide) rfl (by decide) ?_
        refine lv_aload_n C.1 C.2.1 dX11_clipField_105 rfl (lv_at hl 0 rfl) ?_
        refine lv_iload_n C.1 C.2.1 dX11_clipField_106 rfl (lv_at hl 3 rfl) ?_
        obtain ⟨u5, hcu5, hf⟩ := bnd_t hf
        refine x_calli hW (x_runV C hW hl (wk9 (k_125)) rfl rfl (c_X11_filmStart hcu5) (cw_X11_317) ci_X11_filmStart cs_X11_filmStart (rm_ok (by decide) (by decide)) ⟨Nat.le_refl _, Nat.le_refl _⟩ (As := [.int x3]) rfl rfl (Nat.le_of_ble_eq_true rfl) dX11_clipField_107) (fun H locs hW => ?_)
        obtain rfl := Option.some.inj hf
        exact x_iret C hW dX11_clipField_110 rfl
      · rw [if_neg q2] at hf
        rcases Classical.em (p2 = 3) with q3 | q3
        · rw [if_pos q3] at hf
          refine x_swin (tgt := 111) C q3 dX11_clipField_53 (by decide) (by decide) rfl (by decide) ?_
          refine lv_iload C.1 C.2.1 dX11_clipField_111 (lv_at hl 4 rfl) ?_
          refine lv_iload_n C.1 C.2.1 dX11_clipField_113 rfl (lv_at hl 3 rfl) ?_
          refine lv_isub C.1 C.2.1 dX11_clipField_114 ?_
          refine lv_iconst (v := 1) C.1 C.2.1 dX11_clipField_115 (by decide) ?_
          refine lv_iadd C.1 C.2.1 dX11_clipField_116 ?_
          obtain rfl := Option.some.inj hf
          exact x_iret C hW dX11_clipField_117 rfl
        · rw [if_neg q3] at hf
          refine lv_tableOut (tgt := 118) C.1 C.2.1 dX11_clipField_53 (x_nN (n := 3) (fun k hk => by
            rcases (show k = 0 ∨ k = 1 ∨ k = 2 ∨ k = 3 by omega) with rfl | rfl | rfl | rfl
            · exact q0
            · exact q1
            · exact q2
            · exact q3
            ) (by decide)) (by decide) ?_
          refine lv_iconst (v := -1) C.1 C.2.1 dX11_clipField_118 (by decide) ?_
          obtain rfl := Option.some.inj hf
          exact x_iret C hW dX11_clipField_119 rfl
set_option maxRecDepth 20000 in
set_option maxHeartbeats 1000000 in
theorem l_X11_clipField_21 {l : Launch} {Z : ZT} {h : Hp} {p1 : Int32} {p2 : Int32} {g : Hp} {x3 : Int32} {p : Program} {e : Env} {s : State} {m : MethodId} {args : Array Value} {below : List Frame} {meth : Method} {c : Code} (C : CX p s m args meth c cX11_clipField RX11 5 (some .int) Z) {out : Int32 × Hp} : ∀ (n : Nat) (x4 : Int32) (ls : Array Slot) (H : Heap) (locs : List Loc), XW Z h g s.heap H locs → lv_has ls 5 [(0, .ref (Z.1 125)), (1, .int p1), (2, .int p2), (3, .int x3), (4, .int x4)] → Lp (F_X11_clipField_21 p1 p2 g x3) n x4 = some out → W p l e (rmD 4) s m args below meth c H locs 0 0 (MQ below (va_Qi (fun r (_ : Unit) => r = out.1) (fun _ => Wd Z h out.2) (FR Z)) args s 0 0 (FR Z)) (F0 m 21 ls []) := by
  intro n
  induction n with
  | zero => intro x4 ls H locs hW hl hf; cases hf
  | succ n ih =>
    intro x4 ls H locs hW hl hf
    rw [Lp_s] at hf
    refine lv_iload C.1 C.2.1 dX11_clipField_21 (lv_at hl 4 rfl) ?_
    refine lv_iconst (v := 1) C.1 C.2.1 dX11_clipField_23 (by decide) ?_
    refine lv_iadd C.1 C.2.1 dX11_clipField_24 ?_
    refine lv_aload_n C.1 C.2.1 dX11_clipField_25 rfl (lv_at hl 0 rfl) ?_
    refine xg_X11_38 C hW (k_125) dX11_clipField_26 ?_
    refine lv_bipush (v := 40) C.1 C.2.1 dX11_clipField_29 (by decide) ?_
    refine x_ialdM C hW a_134 hf dX11_clipField_31 (fun hf => ?_)
    refine x_cmpge (tgt := 52) C hf dX11_clipField_32 (by decide) (fun hf => ?_) (fun hf => ?_)
    · exact j_X11_clipField_52 C hW (lv_sub hl [0, 1, 2, 3, 4] rfl) hf
    · refine lv_aload_n C.1 C.2.1 dX11_clipField_35 rfl (lv_at hl 0 rfl) ?_
      refine lv_iload C.1 C.2.1 dX11_clipField_36 (lv_at hl 4 rfl) ?_
      refine lv_iconst (v := 1) C.1 C.2.1 dX11_clipField_38 (by decide) ?_
      refine lv_iadd C.1 C.2.1 dX11_clipField_39 ?_
      obtain ⟨u6, hcu6, hf⟩ := bnd_t hf
      refine x_calli hW (x_runV C hW hl (wk9 (k_125)) rfl rfl (c_X11_beginsClip hcu6) (cw_X11_326) ci_X11_beginsClip cs_X11_beginsClip (rm_ok (by decide) (by decide)) ⟨Nat.le_refl _, Nat.le_refl _⟩ (As := [.int (x4 + (1 : Int32))]) rfl rfl (Nat.le_of_ble_eq_true rfl) dX11_clipField_40) (fun H locs hW => ?_)
      refine x_ifne (tgt := 52) C hf dX11_clipField_43 (by decide) (fun hf => ?_) (fun hf => ?_)
      · exact j_X11_clipField_52 C hW (lv_sub hl [0, 1, 2, 3, 4] rfl) hf
      · refine x_iinc (w := 1) C hf dX11_clipField_46 hl (k := 4) rfl (by decide) (by decide) (fun v7 => [(4, .int v7), (0, .ref (Z.1 125)), (1, .int p1), (2, .int p2), (3, .int x3)]) (fun _ => rfl) (fun v7 ls hf hl => ?_)
        refine lv_goto (tgt := 21) C.1 C.2.1 dX11_clipField_49 (by decide) ?_
        exact ih v7 ls _ _ hW (lv_sub hl [1, 2, 3, 4, 0] rfl) hf
set_option maxRecDepth 20000 in
set_option maxHeartbeats 1000000 in
theorem c_X11_clipField {l : Launch} {Z : ZT} {h : Hp} {g : Hp} {p1 : Int32} {p2 : Int32} {out : Int32 × Hp} (hf : f_X11_clipField g p1 p2 = some out) : Met l yX11_clipField (wY yX11_clipField cX11_clipField 5 (some .int)) (rmD 4) (va_Pc [.ref (Z.1 125), .int p1, .int p2] (Wd Z h g)) (va_Qi (fun r (_ : Unit) => r = out.1) (fun _ => Wd Z h out.2) (FR Z)) 0 0 (FR Z) := by
  refine metX RX11 rfl (by decide +kernel) (Nat.le_of_ble_eq_true rfl) ?_
  intro p e s m args below meth c C hW ls hl
  have hl : lv_has ls 5 [(0, .ref (Z.1 125)), (1, .int p1), (2, .int p2)] := hl
  unfold f_X11_clipField at hf
  refine lv_aload_n C.1 C.2.1 dX11_clipField_0 rfl (lv_at hl 0 rfl) ?_
  refine lv_iconst (v := 0) C.1 C.2.1 dX11_clipField_1 (by decide) ?_
  refine xp_X11_3 C hW (k_125) hf dX11_clipField_2 (fun g8 H locs hf hW => ?_)
  refine lv_aload_n C.1 C.2.1 dX11_clipField_5 rfl (lv_at hl 0 rfl) ?_
  refine lv_iload_n C.1 C.2.1 dX11_clipField_6 rfl (lv_at hl 1 rfl) ?_
  obtain ⟨u9, hcu9, hf⟩ := bnd_t hf
  refine x_calli hW (x_runV C hW hl (wk9 (k_125)) rfl rfl (c_X11_clipAt hcu9) (cw_X11_329) ci_X11_clipAt cs_X11_clipAt (rm_ok (by decide) (by decide)) ⟨Nat.le_refl _, Nat.le_refl _⟩ (As := [.int p1]) rfl rfl (Nat.le_of_ble_eq_true rfl) dX11_clipField_7) (fun H locs hW => ?_)
  refine lv_istore_n (lv' := [(3, .int u9), (0, .ref (Z.1 125)), (1, .int p1), (2, .int p2)]) C.1 C.2.1 dX11_clipField_10 rfl hl (by decide) rfl (fun ls hl => ?_)
  refine lv_iload_n C.1 C.2.1 dX11_clipField_11 rfl (lv_at hl 0 rfl) ?_
  refine lv_iconst (v := -1) C.1 C.2.1 dX11_clipField_12 (by decide) ?_
  refine x_cmpne (tgt := 18) C hf dX11_clipField_13 (by decide) (fun hf => ?_) (fun hf => ?_)
  · refine lv_iload_n C.1 C.2.1 dX11_clipField_18 rfl (lv_at hl 0 rfl) ?_
    refine lv_istore (lv' := [(4, .int u9), (3, .int u9), (0, .ref (Z.1 125)), (1, .int p1), (2, .int p2)]) C.1 C.2.1 dX11_clipField_19 hl (by decide) rfl (fun ls hl => ?_)
    exact l_X11_clipField_21 C FU u9 ls _ _ hW (lv_sub hl [2, 3, 4, 1, 0] rfl) hf
  · refine lv_iconst (v := -1) C.1 C.2.1 dX11_clipField_16 (by decide) ?_
    obtain rfl := Option.some.inj hf
    exact x_iret C hW dX11_clipField_17 rfl
