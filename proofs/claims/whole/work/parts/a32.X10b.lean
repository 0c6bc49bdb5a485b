abbrev cX10_append : ByteArray := prog_1_method_2_code
def yX10_append : MethodName := ⟨RX10, "append", "(IIIII)I"⟩
theorem dX10_append_0 : decode cX10_append 0 = .ok (.aload_n 0, 1) := by decide +kernel
theorem dX10_append_1 : decode cX10_append 1 = .ok (.getfield 10, 3) := by decide +kernel
theorem dX10_append_4 : decode cX10_append 4 = .ok (.getfield 58, 3) := by decide +kernel
theorem dX10_append_7 : decode cX10_append 7 = .ok (.bipush 20, 2) := by decide +kernel
theorem dX10_append_9 : decode cX10_append 9 = .ok (.iadd, 1) := by decide +kernel
theorem dX10_append_10 : decode cX10_append 10 = .ok (.sipush 900, 3) := by decide +kernel
theorem dX10_append_13 : decode cX10_append 13 = .ok (.if_icmp .le 5, 3) := by decide +kernel
theorem dX10_append_16 : decode cX10_append 16 = .ok (.iconst (-1), 1) := by decide +kernel
theorem dX10_append_17 : decode cX10_append 17 = .ok (.ireturn, 1) := by decide +kernel
theorem dX10_append_18 : decode cX10_append 18 = .ok (.aload_n 0, 1) := by decide +kernel
theorem dX10_append_19 : decode cX10_append 19 = .ok (.getfield 10, 3) := by decide +kernel
theorem dX10_append_22 : decode cX10_append 22 = .ok (.iload_n 1, 1) := by decide +kernel
theorem dX10_append_23 : decode cX10_append 23 = .ok (.invokevirtual 62, 3) := by decide +kernel
theorem dX10_append_26 : decode cX10_append 26 = .ok (.aload_n 0, 1) := by decide +kernel
theorem dX10_append_27 : decode cX10_append 27 = .ok (.getfield 10, 3) := by decide +kernel
theorem dX10_append_30 : decode cX10_append 30 = .ok (.iload_n 2, 1) := by decide +kernel
theorem dX10_append_31 : decode cX10_append 31 = .ok (.invokevirtual 62, 3) := by decide +kernel
theorem dX10_append_34 : decode cX10_append 34 = .ok (.aload_n 0, 1) := by decide +kernel
theorem dX10_append_35 : decode cX10_append 35 = .ok (.getfield 10, 3) := by decide +kernel
theorem dX10_append_38 : decode cX10_append 38 = .ok (.iload_n 3, 1) := by decide +kernel
theorem dX10_append_39 : decode cX10_append 39 = .ok (.invokevirtual 62, 3) := by decide +kernel
theorem dX10_append_42 : decode cX10_append 42 = .ok (.aload_n 0, 1) := by decide +kernel
theorem dX10_append_43 : decode cX10_append 43 = .ok (.getfield 10, 3) := by decide +kernel
theorem dX10_append_46 : decode cX10_append 46 = .ok (.iload 4, 2) := by decide +kernel
theorem dX10_append_48 : decode cX10_append 48 = .ok (.invokevirtual 62, 3) := by decide +kernel
theorem dX10_append_51 : decode cX10_append 51 = .ok (.aload_n 0, 1) := by decide +kernel
theorem dX10_append_52 : decode cX10_append 52 = .ok (.getfield 10, 3) := by decide +kernel
theorem dX10_append_55 : decode cX10_append 55 = .ok (.iload 5, 2) := by decide +kernel
theorem dX10_append_57 : decode cX10_append 57 = .ok (.invokevirtual 62, 3) := by decide +kernel
theorem dX10_append_60 : decode cX10_append 60 = .ok (.aload_n 0, 1) := by decide +kernel
theorem dX10_append_61 : decode cX10_append 61 = .ok (.getfield 10, 3) := by decide +kernel
theorem dX10_append_64 : decode cX10_append 64 = .ok (.getfield 58, 3) := by decide +kernel
theorem dX10_append_67 : decode cX10_append 67 = .ok (.ireturn, 1) := by decide +kernel
theorem ci_X10_append : Cond.instanceMethod yX10_append ∈ TW := TW_of 502 (by decide +kernel) (by decide +kernel)
theorem cs_X10_append : Cond.selects yX10_append.cls yX10_append yX10_append ∈ TW := TW_of 503 (by decide +kernel) (by decide +kernel)
abbrev cX10_truncate : ByteArray := prog_1_method_3_code
def yX10_truncate : MethodName := ⟨RX10, "truncate", "(I)Z"⟩
theorem dX10_truncate_0 : decode cX10_truncate 0 = .ok (.iload_n 1, 1) := by decide +kernel
theorem dX10_truncate_1 : decode cX10_truncate 1 = .ok (.ifCond .lt 14, 3) := by decide +kernel
theorem dX10_truncate_4 : decode cX10_truncate 4 = .ok (.iload_n 1, 1) := by decide +kernel
theorem dX10_truncate_5 : decode cX10_truncate 5 = .ok (.aload_n 0, 1) := by decide +kernel
theorem dX10_truncate_6 : decode cX10_truncate 6 = .ok (.getfield 10, 3) := by decide +kernel
theorem dX10_truncate_9 : decode cX10_truncate 9 = .ok (.getfield 58, 3) := by decide +kernel
theorem dX10_truncate_12 : decode cX10_truncate 12 = .ok (.if_icmp .le 5, 3) := by decide +kernel
theorem dX10_truncate_15 : decode cX10_truncate 15 = .ok (.iconst 0, 1) := by decide +kernel
theorem dX10_truncate_16 : decode cX10_truncate 16 = .ok (.ireturn, 1) := by decide +kernel
theorem dX10_truncate_17 : decode cX10_truncate 17 = .ok (.aload_n 0, 1) := by decide +kernel
theorem dX10_truncate_18 : decode cX10_truncate 18 = .ok (.getfield 10, 3) := by decide +kernel
theorem dX10_truncate_21 : decode cX10_truncate 21 = .ok (.iload_n 1, 1) := by decide +kernel
theorem dX10_truncate_22 : decode cX10_truncate 22 = .ok (.putfield 58, 3) := by decide +kernel
theorem dX10_truncate_25 : decode cX10_truncate 25 = .ok (.iconst 1, 1) := by decide +kernel
theorem dX10_truncate_26 : decode cX10_truncate 26 = .ok (.ireturn, 1) := by decide +kernel
theorem ci_X10_truncate : Cond.instanceMethod yX10_truncate ∈ TW := TW_of 510 (by decide +kernel) (by decide +kernel)
theorem cs_X10_truncate : Cond.selects yX10_truncate.cls yX10_truncate yX10_truncate ∈ TW := TW_of 511 (by decide +kernel) (by decide +kernel)
abbrev cX10_errorOffset : ByteArray := prog_1_method_6_code
def yX10_errorOffset : MethodName := ⟨RX10, "errorOffset", "()I"⟩
theorem dX10_errorOffset_0 : decode cX10_errorOffset 0 = .ok (.aload_n 0, 1) := by decide +kernel
theorem dX10_errorOffset_1 : decode cX10_errorOffset 1 = .ok (.getfield 10, 3) := by decide +kernel
theorem dX10_errorOffset_4 : decode cX10_errorOffset 4 = .ok (.getfield 109, 3) := by decide +kernel
theorem dX10_errorOffset_7 : decode cX10_errorOffset 7 = .ok (.ireturn, 1) := by decide +kernel
theorem ci_X10_errorOffset : Cond.instanceMethod yX10_errorOffset ∈ TW := TW_of 514 (by decide +kernel) (by decide +kernel)
theorem cs_X10_errorOffset : Cond.selects yX10_errorOffset.cls yX10_errorOffset yX10_errorOffset ∈ TW := TW_of 515 (by decide +kernel) (by decide +kernel)
abbrev cX10_errorKind : ByteArray := prog_1_method_7_code
def yX10_errorKind : MethodName := ⟨RX10, "errorKind", "()I"⟩
theorem dX10_errorKind_0 : decode cX10_errorKind 0 = .ok (.aload_n 0, 1) := by decide +kernel
theorem dX10_errorKind_1 : decode cX10_errorKind 1 = .ok (.getfield 10, 3) := by decide +kernel
theorem dX10_errorKind_4 : decode cX10_errorKind 4 = .ok (.getfield 112, 3) := by decide +kernel
theorem dX10_errorKind_7 : decode cX10_errorKind 7 = .ok (.ireturn, 1) := by decide +kernel
theorem ci_X10_errorKind : Cond.instanceMethod yX10_errorKind ∈ TW := TW_of 518 (by decide +kernel) (by decide +kernel)
theorem cs_X10_errorKind : Cond.selects yX10_errorKind.cls yX10_errorKind yX10_errorKind ∈ TW := TW_of 519 (by decide +kernel) (by decide +kernel)
abbrev cX10_count : ByteArray := prog_1_method_8_code
def yX10_count : MethodName := ⟨RX10, "count", "(I)I"⟩
theorem dX10_count_0 : decode cX10_count 0 = .ok (.aload_n 0, 1) := by decide +kernel
theorem dX10_count_1 : decode cX10_count 1 = .ok (.getfield 19, 3) := by decide +kernel
theorem dX10_count_4 : decode cX10_count 4 = .ok (.getfield 86, 3) := by decide +kernel
theorem dX10_count_7 : decode cX10_count 7 = .ok (.astore_n 2, 1) := by decide +kernel
theorem dX10_count_8 : decode cX10_count 8 = .ok (.iload_n 1, 1) := by decide +kernel
theorem dX10_count_9 : decode cX10_count 9 = .ok (.tableswitch 69 0 5 #[39, 44, 49, 54, 59, 64], 39) := by decide +kernel
theorem dX10_count_48 : decode cX10_count 48 = .ok (.aload_n 2, 1) := by decide +kernel
theorem dX10_count_49 : decode cX10_count 49 = .ok (.getfield 115, 3) := by decide +kernel
theorem dX10_count_52 : decode cX10_count 52 = .ok (.ireturn, 1) := by decide +kernel
theorem dX10_count_53 : decode cX10_count 53 = .ok (.aload_n 2, 1) := by decide +kernel
theorem dX10_count_54 : decode cX10_count 54 = .ok (.getfield 116, 3) := by decide +kernel
theorem dX10_count_57 : decode cX10_count 57 = .ok (.ireturn, 1) := by decide +kernel
theorem dX10_count_58 : decode cX10_count 58 = .ok (.aload_n 2, 1) := by decide +kernel
theorem dX10_count_59 : decode cX10_count 59 = .ok (.getfield 89, 3) := by decide +kernel
theorem dX10_count_62 : decode cX10_count 62 = .ok (.ireturn, 1) := by decide +kernel
theorem dX10_count_63 : decode cX10_count 63 = .ok (.aload_n 2, 1) := by decide +kernel
theorem dX10_count_64 : decode cX10_count 64 = .ok (.getfield 119, 3) := by decide +kernel
theorem dX10_count_67 : decode cX10_count 67 = .ok (.ireturn, 1) := by decide +kernel
theorem dX10_count_68 : decode cX10_count 68 = .ok (.aload_n 2, 1) := by decide +kernel
theorem dX10_count_69 : decode cX10_count 69 = .ok (.getfield 122, 3) := by decide +kernel
theorem dX10_count_72 : decode cX10_count 72 = .ok (.ireturn, 1) := by decide +kernel
theorem dX10_count_73 : decode cX10_count 73 = .ok (.aload_n 2, 1) := by decide +kernel
theorem dX10_count_74 : decode cX10_count 74 = .ok (.getfield 125, 3) := by decide +kernel
theorem dX10_count_77 : decode cX10_count 77 = .ok (.ireturn, 1) := by decide +kernel
theorem dX10_count_78 : decode cX10_count 78 = .ok (.iconst (-1), 1) := by decide +kernel
theorem dX10_count_79 : decode cX10_count 79 = .ok (.ireturn, 1) := by decide +kernel
theorem ci_X10_count : Cond.instanceMethod yX10_count ∈ TW := TW_of 522 (by decide +kernel) (by decide +kernel)
theorem cs_X10_count : Cond.selects yX10_count.cls yX10_count yX10_count ∈ TW := TW_of 523 (by decide +kernel) (by decide +kernel)
abbrev cX10_differentTexts : ByteArray := prog_1_method_12_code
def yX10_differentTexts : MethodName := ⟨RX10, "differentTexts", "()I"⟩
theorem dX10_differentTexts_0 : decode cX10_differentTexts 0 = .ok (.aload_n 0, 1) := by decide +kernel
theorem dX10_differentTexts_1 : decode cX10_differentTexts 1 = .ok (.getfield 19, 3) := by decide +kernel
theorem dX10_differentTexts_4 : decode cX10_differentTexts 4 = .ok (.getfield 86, 3) := by decide +kernel
theorem dX10_differentTexts_7 : decode cX10_differentTexts 7 = .ok (.invokevirtual 158, 3) := by decide +kernel
theorem dX10_differentTexts_10 : decode cX10_differentTexts 10 = .ok (.ireturn, 1) := by decide +kernel
theorem ci_X10_differentTexts : Cond.instanceMethod yX10_differentTexts ∈ TW := TW_of 526 (by decide +kernel) (by decide +kernel)
theorem cs_X10_differentTexts : Cond.selects yX10_differentTexts.cls yX10_differentTexts yX10_differentTexts ∈ TW := TW_of 527 (by decide +kernel) (by decide +kernel)
abbrev cX10_blockAt : ByteArray := prog_1_method_14_code
def yX10_blockAt : MethodName := ⟨RX10, "blockAt", "(I)I"⟩
theorem dX10_blockAt_0 : decode cX10_blockAt 0 = .ok (.aload_n 0, 1) := by decide +kernel
theorem dX10_blockAt_1 : decode cX10_blockAt 1 = .ok (.getfield 19, 3) := by decide +kernel
theorem dX10_blockAt_4 : decode cX10_blockAt 4 = .ok (.getfield 86, 3) := by decide +kernel
theorem dX10_blockAt_7 : decode cX10_blockAt 7 = .ok (.iload_n 1, 1) := by decide +kernel
theorem dX10_blockAt_8 : decode cX10_blockAt 8 = .ok (.invokevirtual 198, 3) := by decide +kernel
theorem dX10_blockAt_11 : decode cX10_blockAt 11 = .ok (.ireturn, 1) := by decide +kernel
theorem ci_X10_blockAt : Cond.instanceMethod yX10_blockAt ∈ TW := TW_of 538 (by decide +kernel) (by decide +kernel)
theorem cs_X10_blockAt : Cond.selects yX10_blockAt.cls yX10_blockAt yX10_blockAt ∈ TW := TW_of 539 (by decide +kernel) (by decide +kernel)
abbrev cX10_speakersAt : ByteArray := prog_1_method_16_code
def yX10_speakersAt : MethodName := ⟨RX10, "speakersAt", "(I)I"⟩
theorem dX10_speakersAt_0 : decode cX10_speakersAt 0 = .ok (.aload_n 0, 1) := by decide +kernel
theorem dX10_speakersAt_1 : decode cX10_speakersAt 1 = .ok (.getfield 19, 3) := by decide +kernel
theorem dX10_speakersAt_4 : decode cX10_speakersAt 4 = .ok (.getfield 86, 3) := by decide +kernel
theorem dX10_speakersAt_7 : decode cX10_speakersAt 7 = .ok (.iload_n 1, 1) := by decide +kernel
theorem dX10_speakersAt_8 : decode cX10_speakersAt 8 = .ok (.invokevirtual 205, 3) := by decide +kernel
theorem dX10_speakersAt_11 : decode cX10_speakersAt 11 = .ok (.ireturn, 1) := by decide +kernel
theorem ci_X10_speakersAt : Cond.instanceMethod yX10_speakersAt ∈ TW := TW_of 550 (by decide +kernel) (by decide +kernel)
theorem cs_X10_speakersAt : Cond.selects yX10_speakersAt.cls yX10_speakersAt yX10_speakersAt ∈ TW := TW_of 551 (by decide +kernel) (by decide +kernel)
abbrev cX10_shots : ByteArray := prog_1_method_17_code
def yX10_shots : MethodName := ⟨RX10, "shots", "()I"⟩
theorem dX10_shots_0 : decode cX10_shots 0 = .ok (.aload_n 0, 1) := by decide +kernel
theorem dX10_shots_1 : decode cX10_shots 1 = .ok (.getfield 19, 3) := by decide +kernel
theorem dX10_shots_4 : decode cX10_shots 4 = .ok (.getfield 183, 3) := by decide +kernel
theorem dX10_shots_7 : decode cX10_shots 7 = .ok (.getfield 208, 3) := by decide +kernel
theorem dX10_shots_10 : decode cX10_shots 10 = .ok (.ireturn, 1) := by decide +kernel
theorem ci_X10_shots : Cond.instanceMethod yX10_shots ∈ TW := TW_of 562 (by decide +kernel) (by decide +kernel)
theorem cs_X10_shots : Cond.selects yX10_shots.cls yX10_shots yX10_shots ∈ TW := TW_of 563 (by decide +kernel) (by decide +kernel)
abbrev cX10_filmLength : ByteArray := prog_1_method_20_code
def yX10_filmLength : MethodName := ⟨RX10, "filmLength", "()I"⟩
theorem dX10_filmLength_0 : decode cX10_filmLength 0 = .ok (.aload_n 0, 1) := by decide +kernel
theorem dX10_filmLength_1 : decode cX10_filmLength 1 = .ok (.getfield 19, 3) := by decide +kernel
theorem dX10_filmLength_4 : decode cX10_filmLength 4 = .ok (.getfield 226, 3) := by decide +kernel
theorem dX10_filmLength_7 : decode cX10_filmLength 7 = .ok (.ireturn, 1) := by decide +kernel
theorem ci_X10_filmLength : Cond.instanceMethod yX10_filmLength ∈ TW := TW_of 566 (by decide +kernel) (by decide +kernel)
theorem cs_X10_filmLength : Cond.selects yX10_filmLength.cls yX10_filmLength yX10_filmLength ∈ TW := TW_of 567 (by decide +kernel) (by decide +kernel)
abbrev cX10_clips : ByteArray := prog_1_method_21_code
def yX10_clips : MethodName := ⟨RX10, "clips", "()I"⟩
theorem dX10_clips_0 : decode cX10_clips 0 = .ok (.aload_n 0, 1) := by decide +kernel
theorem dX10_clips_1 : decode cX10_clips 1 = .ok (.getfield 19, 3) := by decide +kernel
theorem dX10_clips_4 : decode cX10_clips 4 = .ok (.getfield 229, 3) := by decide +kernel
theorem dX10_clips_7 : decode cX10_clips 7 = .ok (.ireturn, 1) := by decide +kernel
theorem ci_X10_clips : Cond.instanceMethod yX10_clips ∈ TW := TW_of 570 (by decide +kernel) (by decide +kernel)
theorem cs_X10_clips : Cond.selects yX10_clips.cls yX10_clips yX10_clips ∈ TW := TW_of 571 (by decide +kernel) (by decide +kernel)
abbrev cX10_clipField : ByteArray := prog_1_method_22_code
def yX10_clipField : MethodName := ⟨RX10, "clipField", "(II)I"⟩
theorem dX10_clipField_0 : decode cX10_clipField 0 = .ok (.iload_n 1, 1) := by decide +kernel
theorem dX10_clipField_1 : decode cX10_clipField 1 = .ok (.ifCond .lt 14, 3) := by decide +kernel
theorem dX10_clipField_4 : decode cX10_clipField 4 = .ok (.iload_n 1, 1) := by decide +kernel
theorem dX10_clipField_5 : decode cX10_clipField 5 = .ok (.aload_n 0, 1) := by decide +kernel
theorem dX10_clipField_6 : decode cX10_clipField 6 = .ok (.getfield 19, 3) := by decide +kernel
theorem dX10_clipField_9 : decode cX10_clipField 9 = .ok (.getfield 229, 3) := by decide +kernel
theorem dX10_clipField_12 : decode cX10_clipField 12 = .ok (.if_icmp .lt 5, 3) := by decide +kernel
theorem dX10_clipField_15 : decode cX10_clipField 15 = .ok (.iconst (-1), 1) := by decide +kernel
theorem dX10_clipField_16 : decode cX10_clipField 16 = .ok (.ireturn, 1) := by decide +kernel
theorem dX10_clipField_17 : decode cX10_clipField 17 = .ok (.aload_n 0, 1) := by decide +kernel
theorem dX10_clipField_18 : decode cX10_clipField 18 = .ok (.getfield 19, 3) := by decide +kernel
theorem dX10_clipField_21 : decode cX10_clipField 21 = .ok (.getfield 232, 3) := by decide +kernel
theorem dX10_clipField_24 : decode cX10_clipField 24 = .ok (.iload_n 1, 1) := by decide +kernel
theorem dX10_clipField_25 : decode cX10_clipField 25 = .ok (.iaload, 1) := by decide +kernel
theorem dX10_clipField_26 : decode cX10_clipField 26 = .ok (.istore_n 3, 1) := by decide +kernel
theorem dX10_clipField_27 : decode cX10_clipField 27 = .ok (.aload_n 0, 1) := by decide +kernel
theorem dX10_clipField_28 : decode cX10_clipField 28 = .ok (.getfield 19, 3) := by decide +kernel
theorem dX10_clipField_31 : decode cX10_clipField 31 = .ok (.getfield 232, 3) := by decide +kernel
theorem dX10_clipField_34 : decode cX10_clipField 34 = .ok (.iload_n 1, 1) := by decide +kernel
theorem dX10_clipField_35 : decode cX10_clipField 35 = .ok (.iconst 1, 1) := by decide +kernel
theorem dX10_clipField_36 : decode cX10_clipField 36 = .ok (.iadd, 1) := by decide +kernel
theorem dX10_clipField_37 : decode cX10_clipField 37 = .ok (.iaload, 1) := by decide +kernel
theorem dX10_clipField_38 : decode cX10_clipField 38 = .ok (.istore 4, 2) := by decide +kernel
theorem dX10_clipField_40 : decode cX10_clipField 40 = .ok (.iload_n 2, 1) := by decide +kernel
theorem dX10_clipField_41 : decode cX10_clipField 41 = .ok (.tableswitch 69 0 3 #[31, 41, 54, 64], 31) := by decide +kernel
theorem dX10_clipField_72 : decode cX10_clipField 72 = .ok (.aload_n 0, 1) := by decide +kernel
theorem dX10_clipField_73 : decode cX10_clipField 73 = .ok (.getfield 19, 3) := by decide +kernel
theorem dX10_clipField_76 : decode cX10_clipField 76 = .ok (.getfield 217, 3) := by decide +kernel
theorem dX10_clipField_79 : decode cX10_clipField 79 = .ok (.iload_n 3, 1) := by decide +kernel
theorem dX10_clipField_80 : decode cX10_clipField 80 = .ok (.iaload, 1) := by decide +kernel
theorem dX10_clipField_81 : decode cX10_clipField 81 = .ok (.ireturn, 1) := by decide +kernel
theorem dX10_clipField_82 : decode cX10_clipField 82 = .ok (.aload_n 0, 1) := by decide +kernel
theorem dX10_clipField_83 : decode cX10_clipField 83 = .ok (.getfield 19, 3) := by decide +kernel
theorem dX10_clipField_86 : decode cX10_clipField 86 = .ok (.getfield 220, 3) := by decide +kernel
theorem dX10_clipField_89 : decode cX10_clipField 89 = .ok (.iload 4, 2) := by decide +kernel
theorem dX10_clipField_91 : decode cX10_clipField 91 = .ok (.iconst 1, 1) := by decide +kernel
theorem dX10_clipField_92 : decode cX10_clipField 92 = .ok (.isub, 1) := by decide +kernel
theorem dX10_clipField_93 : decode cX10_clipField 93 = .ok (.iaload, 1) := by decide +kernel
theorem dX10_clipField_94 : decode cX10_clipField 94 = .ok (.ireturn, 1) := by decide +kernel
theorem dX10_clipField_95 : decode cX10_clipField 95 = .ok (.aload_n 0, 1) := by decide +kernel
theorem dX10_clipField_96 : decode cX10_clipField 96 = .ok (.getfield 19, 3) := by decide +kernel
theorem dX10_clipField_99 : decode cX10_clipField 99 = .ok (.getfield 223, 3) := by decide +kernel
theorem dX10_clipField_102 : decode cX10_clipField 102 = .ok (.iload_n 3, 1) := by decide +kernel
theorem dX10_clipField_103 : decode cX10_clipField 103 = .ok (.iaload, 1) := by decide +kernel
theorem dX10_clipField_104 : decode cX10_clipField 104 = .ok (.ireturn, 1) := by decide +kernel
theorem dX10_clipField_105 : decode cX10_clipField 105 = .ok (.iload 4, 2) := by decide +kernel
theorem dX10_clipField_107 : decode cX10_clipField 107 = .ok (.iload_n 3, 1) := by decide +kernel
theorem dX10_clipField_108 : decode cX10_clipField 108 = .ok (.isub, 1) := by decide +kernel
theorem dX10_clipField_109 : decode cX10_clipField 109 = .ok (.ireturn, 1) := by decide +kernel
theorem dX10_clipField_110 : decode cX10_clipField 110 = .ok (.iconst (-1), 1) := by decide +kernel
theorem dX10_clipField_111 : decode cX10_clipField 111 = .ok (.ireturn, 1) := by decide +kernel
theorem ci_X10_clipField : Cond.instanceMethod yX10_clipField ∈ TW := TW_of 574 (by decide +kernel) (by decide +kernel)
theorem cs_X10_clipField : Cond.selects yX10_clipField.cls yX10_clipField yX10_clipField ∈ TW := TW_of 575 (by decide +kernel) (by decide +kernel)
abbrev cX10_sourceOf : ByteArray := prog_1_method_23_code
def yX10_sourceOf : MethodName := ⟨RX10, "sourceOf", "(I)I"⟩
theorem dX10_sourceOf_0 : decode cX10_sourceOf 0 = .ok (.aload_n 0, 1) := by decide +kernel
theorem dX10_sourceOf_1 : decode cX10_sourceOf 1 = .ok (.getfield 19, 3) := by decide +kernel
theorem dX10_sourceOf_4 : decode cX10_sourceOf 4 = .ok (.iload_n 1, 1) := by decide +kernel
theorem dX10_sourceOf_5 : decode cX10_sourceOf 5 = .ok (.invokevirtual 235, 3) := by decide +kernel
theorem dX10_sourceOf_8 : decode cX10_sourceOf 8 = .ok (.istore_n 2, 1) := by decide +kernel
theorem dX10_sourceOf_9 : decode cX10_sourceOf 9 = .ok (.iload_n 2, 1) := by decide +kernel
theorem dX10_sourceOf_10 : decode cX10_sourceOf 10 = .ok (.iconst (-1), 1) := by decide +kernel
theorem dX10_sourceOf_11 : decode cX10_sourceOf 11 = .ok (.if_icmp .ne 7, 3) := by decide +kernel
theorem dX10_sourceOf_14 : decode cX10_sourceOf 14 = .ok (.iconst (-1), 1) := by decide +kernel
theorem dX10_sourceOf_15 : decode cX10_sourceOf 15 = .ok (.goto 12, 3) := by decide +kernel
theorem dX10_sourceOf_18 : decode cX10_sourceOf 18 = .ok (.aload_n 0, 1) := by decide +kernel
theorem dX10_sourceOf_19 : decode cX10_sourceOf 19 = .ok (.getfield 19, 3) := by decide +kernel
theorem dX10_sourceOf_22 : decode cX10_sourceOf 22 = .ok (.iload_n 2, 1) := by decide +kernel
theorem dX10_sourceOf_23 : decode cX10_sourceOf 23 = .ok (.iload_n 1, 1) := by decide +kernel
theorem dX10_sourceOf_24 : decode cX10_sourceOf 24 = .ok (.invokevirtual 238, 3) := by decide +kernel
theorem dX10_sourceOf_27 : decode cX10_sourceOf 27 = .ok (.ireturn, 1) := by decide +kernel
theorem ci_X10_sourceOf : Cond.instanceMethod yX10_sourceOf ∈ TW := TW_of 578 (by decide +kernel) (by decide +kernel)
theorem cs_X10_sourceOf : Cond.selects yX10_sourceOf.cls yX10_sourceOf yX10_sourceOf ∈ TW := TW_of 579 (by decide +kernel) (by decide +kernel)
abbrev cX10_silence : ByteArray := prog_1_method_25_code
def yX10_silence : MethodName := ⟨RX10, "silence", "()I"⟩
theorem dX10_silence_0 : decode cX10_silence 0 = .ok (.aload_n 0, 1) := by decide +kernel
theorem dX10_silence_1 : decode cX10_silence 1 = .ok (.getfield 19, 3) := by decide +kernel
theorem dX10_silence_4 : decode cX10_silence 4 = .ok (.getfield 248, 3) := by decide +kernel
theorem dX10_silence_7 : decode cX10_silence 7 = .ok (.ireturn, 1) := by decide +kernel
theorem ci_X10_silence : Cond.instanceMethod yX10_silence ∈ TW := TW_of 594 (by decide +kernel) (by decide +kernel)
theorem cs_X10_silence : Cond.selects yX10_silence.cls yX10_silence yX10_silence ∈ TW := TW_of 595 (by decide +kernel) (by decide +kernel)
abbrev cX10_longestSilence : ByteArray := prog_1_method_26_code
def yX10_longestSilence : MethodName := ⟨RX10, "longestSilence", "()I"⟩
theorem dX10_longestSilence_0 : decode cX10_longestSilence 0 = .ok (.aload_n 0, 1) := by decide +kernel
theorem dX10_longestSilence_1 : decode cX10_longestSilence 1 = .ok (.getfield 19, 3) := by decide +kernel
theorem dX10_longestSilence_4 : decode cX10_longestSilence 4 = .ok (.getfield 251, 3) := by decide +kernel
theorem dX10_longestSilence_7 : decode cX10_longestSilence 7 = .ok (.ireturn, 1) := by decide +kernel
theorem ci_X10_longestSilence : Cond.instanceMethod yX10_longestSilence ∈ TW := TW_of 598 (by decide +kernel) (by decide +kernel)
theorem cs_X10_longestSilence : Cond.selects yX10_longestSilence.cls yX10_longestSilence yX10_longestSilence ∈ TW := TW_of 599 (by decide +kernel) (by decide +kernel)
abbrev cX10_transcriptSize : ByteArray := prog_1_method_28_code
def yX10_transcriptSize : MethodName := ⟨RX10, "transcriptSize", "()I"⟩
theorem dX10_transcriptSize_0 : decode cX10_transcriptSize 0 = .ok (.aload_n 0, 1) := by decide +kernel
theorem dX10_transcriptSize_1 : decode cX10_transcriptSize 1 = .ok (.getfield 19, 3) := by decide +kernel
theorem dX10_transcriptSize_4 : decode cX10_transcriptSize 4 = .ok (.getfield 257, 3) := by decide +kernel
theorem dX10_transcriptSize_7 : decode cX10_transcriptSize 7 = .ok (.ireturn, 1) := by decide +kernel
theorem ci_X10_transcriptSize : Cond.instanceMethod yX10_transcriptSize ∈ TW := TW_of 602 (by decide +kernel) (by decide +kernel)
theorem cs_X10_transcriptSize : Cond.selects yX10_transcriptSize.cls yX10_transcriptSize yX10_transcriptSize ∈ TW := TW_of 603 (by decide +kernel) (by decide +kernel)
abbrev cX10_transcriptWord : ByteArray := prog_1_method_29_code
def yX10_transcriptWord : MethodName := ⟨RX10, "transcriptWord", "(I)I"⟩
theorem dX10_transcriptWord_0 : decode cX10_transcriptWord 0 = .ok (.iload_n 1, 1) := by decide +kernel
theorem dX10_transcriptWord_1 : decode cX10_transcriptWord 1 = .ok (.ifCond .lt 14, 3) := by decide +kernel
theorem dX10_transcriptWord_4 : decode cX10_transcriptWord 4 = .ok (.iload_n 1, 1) := by decide +kernel
theorem dX10_transcriptWord_5 : decode cX10_transcriptWord 5 = .ok (.aload_n 0, 1) := by decide +kernel
theorem dX10_transcriptWord_6 : decode cX10_transcriptWord 6 = .ok (.getfield 19, 3) := by decide +kernel
theorem dX10_transcriptWord_9 : decode cX10_transcriptWord 9 = .ok (.getfield 257, 3) := by decide +kernel
theorem dX10_transcriptWord_12 : decode cX10_transcriptWord 12 = .ok (.if_icmp .lt 5, 3) := by decide +kernel
theorem dX10_transcriptWord_15 : decode cX10_transcriptWord 15 = .ok (.iconst (-1), 1) := by decide +kernel
theorem dX10_transcriptWord_16 : decode cX10_transcriptWord 16 = .ok (.ireturn, 1) := by decide +kernel
theorem dX10_transcriptWord_17 : decode cX10_transcriptWord 17 = .ok (.aload_n 0, 1) := by decide +kernel
theorem dX10_transcriptWord_18 : decode cX10_transcriptWord 18 = .ok (.getfield 19, 3) := by decide +kernel
theorem dX10_transcriptWord_21 : decode cX10_transcriptWord 21 = .ok (.getfield 260, 3) := by decide +kernel
theorem dX10_transcriptWord_24 : decode cX10_transcriptWord 24 = .ok (.iload_n 1, 1) := by decide +kernel
theorem dX10_transcriptWord_25 : decode cX10_transcriptWord 25 = .ok (.iaload, 1) := by decide +kernel
theorem dX10_transcriptWord_26 : decode cX10_transcriptWord 26 = .ok (.ireturn, 1) := by decide +kernel
theorem ci_X10_transcriptWord : Cond.instanceMethod yX10_transcriptWord ∈ TW := TW_of 606 (by decide +kernel) (by decide +kernel)
theorem cs_X10_transcriptWord : Cond.selects yX10_transcriptWord.cls yX10_transcriptWord yX10_transcriptWord ∈ TW := TW_of 607 (by decide +kernel) (by decide +kernel)
abbrev cX10_stutters : ByteArray := prog_1_method_33_code
def yX10_stutters : MethodName := ⟨RX10, "stutters", "()I"⟩
theorem dX10_stutters_0 : decode cX10_stutters 0 = .ok (.aload_n 0, 1) := by decide +kernel
theorem dX10_stutters_1 : decode cX10_stutters 1 = .ok (.getfield 19, 3) := by decide +kernel
theorem dX10_stutters_4 : decode cX10_stutters 4 = .ok (.invokevirtual 272, 3) := by decide +kernel
theorem dX10_stutters_7 : decode cX10_stutters 7 = .ok (.ireturn, 1) := by decide +kernel
theorem ci_X10_stutters : Cond.instanceMethod yX10_stutters ∈ TW := TW_of 610 (by decide +kernel) (by decide +kernel)
theorem cs_X10_stutters : Cond.selects yX10_stutters.cls yX10_stutters yX10_stutters ∈ TW := TW_of 611 (by decide +kernel) (by decide +kernel)
abbrev cX10_shotsToCut : ByteArray := prog_1_method_36_code
def yX10_shotsToCut : MethodName := ⟨RX10, "shotsToCut", "(I)I"⟩
theorem dX10_shotsToCut_0 : decode cX10_shotsToCut 0 = .ok (.iload_n 1, 1) := by decide +kernel
theorem dX10_shotsToCut_1 : decode cX10_shotsToCut 1 = .ok (.ifCond .ge 5, 3) := by decide +kernel
theorem dX10_shotsToCut_4 : decode cX10_shotsToCut 4 = .ok (.iconst (-1), 1) := by decide +kernel
theorem dX10_shotsToCut_5 : decode cX10_shotsToCut 5 = .ok (.ireturn, 1) := by decide +kernel
theorem dX10_shotsToCut_6 : decode cX10_shotsToCut 6 = .ok (.aload_n 0, 1) := by decide +kernel
theorem dX10_shotsToCut_7 : decode cX10_shotsToCut 7 = .ok (.getfield 19, 3) := by decide +kernel
theorem dX10_shotsToCut_10 : decode cX10_shotsToCut 10 = .ok (.iload_n 1, 1) := by decide +kernel
theorem dX10_shotsToCut_11 : decode cX10_shotsToCut 11 = .ok (.invokevirtual 285, 3) := by decide +kernel
theorem dX10_shotsToCut_14 : decode cX10_shotsToCut 14 = .ok (.ireturn, 1) := by decide +kernel
theorem ci_X10_shotsToCut : Cond.instanceMethod yX10_shotsToCut ∈ TW := TW_of 618 (by decide +kernel) (by decide +kernel)
theorem cs_X10_shotsToCut : Cond.selects yX10_shotsToCut.cls yX10_shotsToCut yX10_shotsToCut ∈ TW := TW_of 619 (by decide +kernel) (by decide +kernel)
abbrev cX10_runScript : ByteArray := prog_1_method_42_code
def yX10_runScript : MethodName := ⟨RX10, "runScript", "()I"⟩
theorem dX10_runScript_0 : decode cX10_runScript 0 = .ok (.aload_n 0, 1) := by decide +kernel
theorem dX10_runScript_1 : decode cX10_runScript 1 = .ok (.getfield 26, 3) := by decide +kernel
theorem dX10_runScript_4 : decode cX10_runScript 4 = .ok (.aload_n 0, 1) := by decide +kernel
theorem dX10_runScript_5 : decode cX10_runScript 5 = .ok (.getfield 19, 3) := by decide +kernel
theorem dX10_runScript_8 : decode cX10_runScript 8 = .ok (.getfield 183, 3) := by decide +kernel
theorem dX10_runScript_11 : decode cX10_runScript 11 = .ok (.invokevirtual 288, 3) := by decide +kernel
theorem dX10_runScript_14 : decode cX10_runScript 14 = .ok (.aload_n 0, 1) := by decide +kernel
theorem dX10_runScript_15 : decode cX10_runScript 15 = .ok (.getfield 33, 3) := by decide +kernel
theorem dX10_runScript_18 : decode cX10_runScript 18 = .ok (.aload_n 0, 1) := by decide +kernel
theorem dX10_runScript_19 : decode cX10_runScript 19 = .ok (.getfield 19, 3) := by decide +kernel
theorem dX10_runScript_22 : decode cX10_runScript 22 = .ok (.invokevirtual 323, 3) := by decide +kernel
theorem dX10_runScript_25 : decode cX10_runScript 25 = .ok (.aload_n 0, 1) := by decide +kernel
theorem dX10_runScript_26 : decode cX10_runScript 26 = .ok (.getfield 33, 3) := by decide +kernel
theorem dX10_runScript_29 : decode cX10_runScript 29 = .ok (.getfield 327, 3) := by decide +kernel
theorem dX10_runScript_32 : decode cX10_runScript 32 = .ok (.ireturn, 1) := by decide +kernel
theorem ci_X10_runScript : Cond.instanceMethod yX10_runScript ∈ TW := TW_of 630 (by decide +kernel) (by decide +kernel)
theorem cs_X10_runScript : Cond.selects yX10_runScript.cls yX10_runScript yX10_runScript ∈ TW := TW_of 631 (by decide +kernel) (by decide +kernel)
abbrev cX10_failed : ByteArray := prog_1_method_43_code
def yX10_failed : MethodName := ⟨RX10, "failed", "()I"⟩
theorem dX10_failed_0 : decode cX10_failed 0 = .ok (.aload_n 0, 1) := by decide +kernel
theorem dX10_failed_1 : decode cX10_failed 1 = .ok (.getfield 33, 3) := by decide +kernel
theorem dX10_failed_4 : decode cX10_failed 4 = .ok (.getfield 330, 3) := by decide +kernel
theorem dX10_failed_7 : decode cX10_failed 7 = .ok (.ireturn, 1) := by decide +kernel
theorem ci_X10_failed : Cond.instanceMethod yX10_failed ∈ TW := TW_of 746 (by decide +kernel) (by decide +kernel)
theorem cs_X10_failed : Cond.selects yX10_failed.cls yX10_failed yX10_failed ∈ TW := TW_of 747 (by decide +kernel) (by decide +kernel)
abbrev cX10_wasStopped : ByteArray := prog_1_method_44_code
def yX10_wasStopped : MethodName := ⟨RX10, "wasStopped", "()Z"⟩
theorem dX10_wasStopped_0 : decode cX10_wasStopped 0 = .ok (.aload_n 0, 1) := by decide +kernel
theorem dX10_wasStopped_1 : decode cX10_wasStopped 1 = .ok (.getfield 33, 3) := by decide +kernel
theorem dX10_wasStopped_4 : decode cX10_wasStopped 4 = .ok (.getfield 333, 3) := by decide +kernel
theorem dX10_wasStopped_7 : decode cX10_wasStopped 7 = .ok (.ireturn, 1) := by decide +kernel
theorem ci_X10_wasStopped : Cond.instanceMethod yX10_wasStopped ∈ TW := TW_of 750 (by decide +kernel) (by decide +kernel)
theorem cs_X10_wasStopped : Cond.selects yX10_wasStopped.cls yX10_wasStopped yX10_wasStopped ∈ TW := TW_of 751 (by decide +kernel) (by decide +kernel)
abbrev cX10_undo : ByteArray := prog_1_method_45_code
def yX10_undo : MethodName := ⟨RX10, "undo", "()I"⟩
theorem dX10_undo_0 : decode cX10_undo 0 = .ok (.aload_n 0, 1) := by decide +kernel
theorem dX10_undo_1 : decode cX10_undo 1 = .ok (.getfield 26, 3) := by decide +kernel
theorem dX10_undo_4 : decode cX10_undo 4 = .ok (.getfield 83, 3) := by decide +kernel
theorem dX10_undo_7 : decode cX10_undo 7 = .ok (.ifCond .ne 5, 3) := by decide +kernel
theorem dX10_undo_10 : decode cX10_undo 10 = .ok (.iconst (-1), 1) := by decide +kernel
theorem dX10_undo_11 : decode cX10_undo 11 = .ok (.ireturn, 1) := by decide +kernel
theorem dX10_undo_12 : decode cX10_undo 12 = .ok (.aload_n 0, 1) := by decide +kernel
theorem dX10_undo_13 : decode cX10_undo 13 = .ok (.getfield 26, 3) := by decide +kernel
theorem dX10_undo_16 : decode cX10_undo 16 = .ok (.aload_n 0, 1) := by decide +kernel
theorem dX10_undo_17 : decode cX10_undo 17 = .ok (.getfield 19, 3) := by decide +kernel
theorem dX10_undo_20 : decode cX10_undo 20 = .ok (.getfield 183, 3) := by decide +kernel
theorem dX10_undo_23 : decode cX10_undo 23 = .ok (.invokevirtual 337, 3) := by decide +kernel
theorem dX10_undo_26 : decode cX10_undo 26 = .ok (.aload_n 0, 1) := by decide +kernel
theorem dX10_undo_27 : decode cX10_undo 27 = .ok (.getfield 19, 3) := by decide +kernel
theorem dX10_undo_30 : decode cX10_undo 30 = .ok (.invokevirtual 317, 3) := by decide +kernel
theorem dX10_undo_33 : decode cX10_undo 33 = .ok (.aload_n 0, 1) := by decide +kernel
theorem dX10_undo_34 : decode cX10_undo 34 = .ok (.getfield 26, 3) := by decide +kernel
theorem dX10_undo_37 : decode cX10_undo 37 = .ok (.getfield 83, 3) := by decide +kernel
theorem dX10_undo_40 : decode cX10_undo 40 = .ok (.ireturn, 1) := by decide +kernel
theorem ci_X10_undo : Cond.instanceMethod yX10_undo ∈ TW := TW_of 754 (by decide +kernel) (by decide +kernel)
theorem cs_X10_undo : Cond.selects yX10_undo.cls yX10_undo yX10_undo ∈ TW := TW_of 755 (by decide +kernel) (by decide +kernel)
abbrev cX10_undoDepth : ByteArray := prog_1_method_46_code
def yX10_undoDepth : MethodName := ⟨RX10, "undoDepth", "()I"⟩
theorem dX10_undoDepth_0 : decode cX10_undoDepth 0 = .ok (.aload_n 0, 1) := by decide +kernel
theorem dX10_undoDepth_1 : decode cX10_undoDepth 1 = .ok (.getfield 26, 3) := by decide +kernel
theorem dX10_undoDepth_4 : decode cX10_undoDepth 4 = .ok (.getfield 83, 3) := by decide +kernel
theorem dX10_undoDepth_7 : decode cX10_undoDepth 7 = .ok (.ireturn, 1) := by decide +kernel
theorem ci_X10_undoDepth : Cond.instanceMethod yX10_undoDepth ∈ TW := TW_of 763 (by decide +kernel) (by decide +kernel)
theorem cs_X10_undoDepth : Cond.selects yX10_undoDepth.cls yX10_undoDepth yX10_undoDepth ∈ TW := TW_of 764 (by decide +kernel) (by decide +kernel)
abbrev cX10_formatTranscript : ByteArray := prog_1_method_47_code
def yX10_formatTranscript : MethodName := ⟨RX10, "formatTranscript", "()I"⟩
theorem dX10_formatTranscript_0 : decode cX10_formatTranscript 0 = .ok (.aload_n 0, 1) := by decide +kernel
theorem dX10_formatTranscript_1 : decode cX10_formatTranscript 1 = .ok (.getfield 40, 3) := by decide +kernel
theorem dX10_formatTranscript_4 : decode cX10_formatTranscript 4 = .ok (.aload_n 0, 1) := by decide +kernel
theorem dX10_formatTranscript_5 : decode cX10_formatTranscript 5 = .ok (.getfield 19, 3) := by decide +kernel
theorem dX10_formatTranscript_8 : decode cX10_formatTranscript 8 = .ok (.invokevirtual 340, 3) := by decide +kernel
theorem dX10_formatTranscript_11 : decode cX10_formatTranscript 11 = .ok (.aload_n 0, 1) := by decide +kernel
theorem dX10_formatTranscript_12 : decode cX10_formatTranscript 12 = .ok (.getfield 40, 3) := by decide +kernel
theorem dX10_formatTranscript_15 : decode cX10_formatTranscript 15 = .ok (.getfield 343, 3) := by decide +kernel
theorem dX10_formatTranscript_18 : decode cX10_formatTranscript 18 = .ok (.ireturn, 1) := by decide +kernel
theorem ci_X10_formatTranscript : Cond.instanceMethod yX10_formatTranscript ∈ TW := TW_of 767 (by decide +kernel) (by decide +kernel)
theorem cs_X10_formatTranscript : Cond.selects yX10_formatTranscript.cls yX10_formatTranscript yX10_formatTranscript ∈ TW := TW_of 768 (by decide +kernel) (by decide +kernel)
abbrev cX10_formattedByte : ByteArray := prog_1_method_49_code
def yX10_formattedByte : MethodName := ⟨RX10, "formattedByte", "(I)I"⟩
theorem dX10_formattedByte_0 : decode cX10_formattedByte 0 = .ok (.iload_n 1, 1) := by decide +kernel
theorem dX10_formattedByte_1 : decode cX10_formattedByte 1 = .ok (.ifCond .lt 14, 3) := by decide +kernel
theorem dX10_formattedByte_4 : decode cX10_formattedByte 4 = .ok (.iload_n 1, 1) := by decide +kernel
theorem dX10_formattedByte_5 : decode cX10_formattedByte 5 = .ok (.aload_n 0, 1) := by decide +kernel
theorem dX10_formattedByte_6 : decode cX10_formattedByte 6 = .ok (.getfield 40, 3) := by decide +kernel
theorem dX10_formattedByte_9 : decode cX10_formattedByte 9 = .ok (.getfield 343, 3) := by decide +kernel
theorem dX10_formattedByte_12 : decode cX10_formattedByte 12 = .ok (.if_icmp .lt 5, 3) := by decide +kernel
theorem dX10_formattedByte_15 : decode cX10_formattedByte 15 = .ok (.iconst (-1), 1) := by decide +kernel
theorem dX10_formattedByte_16 : decode cX10_formattedByte 16 = .ok (.ireturn, 1) := by decide +kernel
theorem dX10_formattedByte_17 : decode cX10_formattedByte 17 = .ok (.aload_n 0, 1) := by decide +kernel
theorem dX10_formattedByte_18 : decode cX10_formattedByte 18 = .ok (.getfield 40, 3) := by decide +kernel
theorem dX10_formattedByte_21 : decode cX10_formattedByte 21 = .ok (.getfield 348, 3) := by decide +kernel
theorem dX10_formattedByte_24 : decode cX10_formattedByte 24 = .ok (.iload_n 1, 1) := by decide +kernel
theorem dX10_formattedByte_25 : decode cX10_formattedByte 25 = .ok (.baload, 1) := by decide +kernel
theorem dX10_formattedByte_26 : decode cX10_formattedByte 26 = .ok (.ireturn, 1) := by decide +kernel
theorem ci_X10_formattedByte : Cond.instanceMethod yX10_formattedByte ∈ TW := TW_of 837 (by decide +kernel) (by decide +kernel)
theorem cs_X10_formattedByte : Cond.selects yX10_formattedByte.cls yX10_formattedByte yX10_formattedByte ∈ TW := TW_of 838 (by decide +kernel) (by decide +kernel)
theorem cw_X10_62 : CWd RX10 62 yX9_putFour cX9_putFour 3 none 1 := ⟨TW_of 505 (by decide +kernel) (by decide +kernel), TW_of 508 (by decide +kernel) (by decide +kernel), TW_of 104 (by decide +kernel) (by decide +kernel), by decide +kernel⟩
theorem cw_X10_158 : CWd RX10 158 yX4_countTexts cX4_countTexts 3 (some .int) 0 := ⟨TW_of 529 (by decide +kernel) (by decide +kernel), TW_of 532 (by decide +kernel) (by decide +kernel), TW_of 106 (by decide +kernel) (by decide +kernel), by decide +kernel⟩
theorem cw_X10_198 : CWd RX10 198 yX4_blockWithFrame cX4_blockWithFrame 3 (some .int) 1 := ⟨TW_of 541 (by decide +kernel) (by decide +kernel), TW_of 544 (by decide +kernel) (by decide +kernel), TW_of 106 (by decide +kernel) (by decide +kernel), by decide +kernel⟩
theorem cw_X10_205 : CWd RX10 205 yX4_speakerSet cX4_speakerSet 4 (some .int) 1 := ⟨TW_of 553 (by decide +kernel) (by decide +kernel), TW_of 556 (by decide +kernel) (by decide +kernel), TW_of 106 (by decide +kernel) (by decide +kernel), by decide +kernel⟩
theorem cw_X10_235 : CWd RX10 235 yX1_shotWithFrame cX1_shotWithFrame 4 (some .int) 1 := ⟨TW_of 581 (by decide +kernel) (by decide +kernel), TW_of 584 (by decide +kernel) (by decide +kernel), TW_of 105 (by decide +kernel) (by decide +kernel), by decide +kernel⟩
theorem cw_X10_238 : CWd RX10 238 yX1_sourceIn cX1_sourceIn 3 (some .int) 2 := ⟨TW_of 589 (by decide +kernel) (by decide +kernel), TW_of 592 (by decide +kernel) (by decide +kernel), TW_of 105 (by decide +kernel) (by decide +kernel), by decide +kernel⟩
theorem cw_X10_272 : CWd RX10 272 yX1_countStutters cX1_countStutters 4 (some .int) 0 := ⟨TW_of 613 (by decide +kernel) (by decide +kernel), TW_of 616 (by decide +kernel) (by decide +kernel), TW_of 105 (by decide +kernel) (by decide +kernel), by decide +kernel⟩
theorem cw_X10_285 : CWd RX10 285 yX1_countShotsBeyond cX1_countShotsBeyond 5 (some .int) 1 := ⟨TW_of 621 (by decide +kernel) (by decide +kernel), TW_of 624 (by decide +kernel) (by decide +kernel), TW_of 105 (by decide +kernel) (by decide +kernel), by decide +kernel⟩
theorem cw_X10_323 : CWd RX10 323 yX5_runAll cX5_runAll 2 none 1 := ⟨TW_of 644 (by decide +kernel) (by decide +kernel), TW_of 647 (by decide +kernel) (by decide +kernel), TW_of 109 (by decide +kernel) (by decide +kernel), by decide +kernel⟩
theorem cw_X10_337 : CWd RX10 337 yX3_giveBack cX3_giveBack 2 none 1 := ⟨TW_of 757 (by decide +kernel) (by decide +kernel), TW_of 760 (by decide +kernel) (by decide +kernel), TW_of 108 (by decide +kernel) (by decide +kernel), by decide +kernel⟩
theorem cw_X10_340 : CWd RX10 340 yX2_writeTranscript cX2_writeTranscript 4 none 1 := ⟨TW_of 770 (by decide +kernel) (by decide +kernel), TW_of 773 (by decide +kernel) (by decide +kernel), TW_of 111 (by decide +kernel) (by decide +kernel), by decide +kernel⟩
set_option maxRecDepth 20000 in
set_option maxHeartbeats 1000000 in
theorem c_X10_append {l : Launch} {Z : ZT} {g : Hp} {h : Hp} {p1 : Int32} {p2 : Int32} {p3 : Int32} {p4 : Int32} {p5 : Int32} {out : Int32 × Hp} (hf : f_X10_append h p1 p2 p3 p4 p5 = some out) : Met l yX10_append (wY yX10_append cX10_append 6 (some .int)) (rmD 1) (va_Pc [.ref (Z.1 0), .int p1, .int p2, .int p3, .int p4, .int p5] (Wd Z h g)) (va_Qi (fun r (_ : Unit) => r = out.1) (fun _ => Wd Z out.2 g) (FR Z)) 0 0 (FR Z) := by
  refine metX RX10 rfl (by decide +kernel) (Nat.le_of_ble_eq_true rfl) ?_
  intro p e s m args below meth c C hW ls hl
  have hl : lv_has ls 6 [(0, .ref (Z.1 0)), (1, .int p1), (2, .int p2), (3, .int p3), (4, .int p4), (5, .int p5)] := hl
  unfold f_X10_append at hf
  refine lv_aload_n C.1 C.2.1 dX10_append_0 rfl (lv_at hl 0 rfl) ?_
  refine xg_X10_10 C hW (k_0) dX10_append_1 ?_
  refine xg_X10_58 C hW (k_1) dX10_append_4 ?_
  refine lv_bipush (v := 20) C.1 C.2.1 dX10_append_7 (by decide) ?_
  refine lv_iadd C.1 C.2.1 dX10_append_9 ?_
  refine lv_sipush (v := 900) C.1 C.2.1 dX10_append_10 (by decide) ?_
  refine x_cmple (tgt := 18) C hf dX10_append_13 (by decide) (fun hf => ?_) (fun hf => ?_)
  · refine lv_aload_n C.1 C.2.1 dX10_append_18 rfl (lv_at hl 0 rfl) ?_
    refine xg_X10_10 C hW (k_0) dX10_append_19 ?_
    refine lv_iload_n C.1 C.2.1 dX10_append_22 rfl (lv_at hl 1 rfl) ?_
    obtain ⟨u1, hcu1, hf⟩ := bnd_t hf
    refine x_callv hW (x_runV C hW hl (wk7 (k_1)) rfl rfl (c_X9_putFour hcu1) (cw_X10_62) ci_X9_putFour cs_X9_putFour (rm_ok (by decide) (by decide)) ⟨Nat.le_refl _, Nat.le_refl _⟩ (As := [.int p1]) rfl rfl (Nat.le_of_ble_eq_true rfl) dX10_append_23) (fun H locs hW => ?_)
    refine lv_aload_n C.1 C.2.1 dX10_append_26 rfl (lv_at hl 0 rfl) ?_
    refine xg_X10_10 C hW (k_0) dX10_append_27 ?_
    refine lv_iload_n C.1 C.2.1 dX10_append_30 rfl (lv_at hl 2 rfl) ?_
    obtain ⟨u2, hcu2, hf⟩ := bnd_t hf
    refine x_callv hW (x_runV C hW hl (wk7 (k_1)) rfl rfl (c_X9_putFour hcu2) (cw_X10_62) ci_X9_putFour cs_X9_putFour (rm_ok (by decide) (by decide)) ⟨Nat.le_refl _, Nat.le_refl _⟩ (As := [.int p2]) rfl rfl (Nat.le_of_ble_eq_true rfl) dX10_append_31) (fun H locs hW => ?_)
    refine lv_aload_n C.1 C.2.1 dX10_append_34 rfl (lv_at hl 0 rfl) ?_
    refine xg_X10_10 C hW (k_0) dX10_append_35 ?_
    refine lv_iload_n C.1 C.2.1 dX10_append_38 rfl (lv_at hl 3 rfl) ?_
    obtain ⟨u3, hcu3, hf⟩ := bnd_t hf
    refine x_callv hW (x_runV C hW hl (wk7 (k_1)) rfl rfl (c_X9_putFour hcu3) (cw_X10_62) ci_X9_putFour cs_X9_putFour (rm_ok (by decide) (by decide)) ⟨Nat.le_refl _, Nat.le_refl _⟩ (As := [.int p3]) rfl rfl (Nat.le_of_ble_eq_true rfl) dX10_append_39) (fun H locs hW => ?_)
    refine lv_aload_n C.1 C.2.1 dX10_append_42 rfl (lv_at hl 0 rfl) ?_
    refine xg_X10_10 C hW (k_0) dX10_append_43 ?_
    refine lv_iload C.1 C.2.1 dX10_append_46 (lv_at hl 4 rfl) ?_
    obtain ⟨u4, hcu4, hf⟩ := bnd_t hf
    refine x_callv hW (x_runV C hW hl (wk7 (k_1)) rfl rfl (c_X9_putFour hcu4) (cw_X10_62) ci_X9_putFour cs_X9_putFour (rm_ok (by decide) (by decide)) ⟨Nat.le_refl _, Nat.le_refl _⟩ (As := [.int p4]) rfl rfl (Nat.le_of_ble_eq_true rfl) dX10_append_48) (fun H locs hW => ?_)
    refine lv_aload_n C.1 C.2.1 dX10_append_51 rfl (lv_at hl 0 rfl) ?_
    refine xg_X10_10 C hW (k_0) dX10_append_52 ?_
    refine lv_iload C.1 C.2.1 dX10_append_55 (lv_at hl 5 rfl) ?_
    obtain ⟨u5, hcu5, hf⟩ := bnd_t hf
    refine x_callv hW (x_runV C hW hl (wk7 (k_1)) rfl rfl (c_X9_putFour hcu5) (cw_X10_62) ci_X9_putFour cs_X9_putFour (rm_ok (by decide) (by decide)) ⟨Nat.le_refl _, Nat.le_refl _⟩ (As := [.int p5]) rfl rfl (Nat.le_of_ble_eq_true rfl) dX10_append_57) (fun H locs hW => ?_)
    refine lv_aload_n C.1 C.2.1 dX10_append_60 rfl (lv_at hl 0 rfl) ?_
    refine xg_X10_10 C hW (k_0) dX10_append_61 ?_
    refine xg_X10_58 C hW (k_1) dX10_append_64 ?_
    obtain rfl := Option.some.inj hf
    exact x_iret C hW dX10_append_67 rfl
  · refine lv_iconst (v := -1) C.1 C.2.1 dX10_append_16 (by decide) ?_
    obtain rfl := Option.some.inj hf
    exact x_iret C hW dX10_append_17 rfl
set_option maxRecDepth 20000 in
set_option maxHeartbeats 1000000 in
theorem c_X10_truncate {l : Launch} {Z : ZT} {g : Hp} {h : Hp} {p1 : Int32} {out : Int32 × Hp} (hf : f_X10_truncate h p1 = some out) : Met l yX10_truncate (wY yX10_truncate cX10_truncate 2 (some .boolean)) (rmD 0) (va_Pc [.ref (Z.1 0), .int p1] (Wd Z h g)) (va_Qi (fun r (_ : Unit) => r = out.1) (fun _ => Wd Z out.2 g) (FR Z)) 0 0 (FR Z) := by
  refine metX RX10 rfl (by decide +kernel) (Nat.le_of_ble_eq_true rfl) ?_
  intro p e s m args below meth c C hW ls hl
  have hl : lv_has ls 2 [(0, .ref (Z.1 0)), (1, .int p1)] := hl
  unfold f_X10_truncate at hf
  refine lv_iload_n C.1 C.2.1 dX10_truncate_0 rfl (lv_at hl 1 rfl) ?_
  refine x_iflt (tgt := 15) C hf dX10_truncate_1 (by decide) (fun hf => ?_) (fun hf => ?_)
  · refine lv_iconst (v := 0) C.1 C.2.1 dX10_truncate_15 (by decide) ?_
    obtain rfl := Option.some.inj hf
    exact x_zret C hW (by decide) dX10_truncate_16 rfl
  · refine lv_iload_n C.1 C.2.1 dX10_truncate_4 rfl (lv_at hl 1 rfl) ?_
    refine lv_aload_n C.1 C.2.1 dX10_truncate_5 rfl (lv_at hl 0 rfl) ?_
    refine xg_X10_10 C hW (k_0) dX10_truncate_6 ?_
    refine xg_X10_58 C hW (k_1) dX10_truncate_9 ?_
    refine x_cmple (tgt := 17) C hf dX10_truncate_12 (by decide) (fun hf => ?_) (fun hf => ?_)
    · refine lv_aload_n C.1 C.2.1 dX10_truncate_17 rfl (lv_at hl 0 rfl) ?_
      refine xg_X10_10 C hW (k_0) dX10_truncate_18 ?_
      refine lv_iload_n C.1 C.2.1 dX10_truncate_21 rfl (lv_at hl 1 rfl) ?_
      refine xp_X10_58 C hW (k_1) hf dX10_truncate_22 (fun h1 H locs hf hW => ?_)
      refine lv_iconst (v := 1) C.1 C.2.1 dX10_truncate_25 (by decide) ?_
      obtain rfl := Option.some.inj hf
      exact x_zret C hW (by decide) dX10_truncate_26 rfl
    · refine lv_iconst (v := 0) C.1 C.2.1 dX10_truncate_15 (by decide) ?_
      obtain rfl := Option.some.inj hf
      exact x_zret C hW (by decide) dX10_truncate_16 rfl
set_option maxRecDepth 20000 in
set_option maxHeartbeats 1000000 in
theorem c_X10_errorOffset {l : Launch} {Z : ZT} {g : Hp} {h : Hp} {out : Int32} (hf : f_X10_errorOffset h = some out) : Met l yX10_errorOffset (wY yX10_errorOffset cX10_errorOffset 1 (some .int)) (rmD 0) (va_Pc [.ref (Z.1 0)] (Wd Z h g)) (va_Qi (fun r (_ : Unit) => r = out) (fun _ => Wd Z h g) (FR Z)) 0 0 (FR Z) := by
  refine metX RX10 rfl (by decide +kernel) (Nat.le_of_ble_eq_true rfl) ?_
  intro p e s m args below meth c C hW ls hl
  have hl : lv_has ls 1 [(0, .ref (Z.1 0))] := hl
  unfold f_X10_errorOffset at hf
  refine lv_aload_n C.1 C.2.1 dX10_errorOffset_0 rfl (lv_at hl 0 rfl) ?_
  refine xg_X10_10 C hW (k_0) dX10_errorOffset_1 ?_
  refine xg_X10_109 C hW (k_1) dX10_errorOffset_4 ?_
  exact x_iret C hW dX10_errorOffset_7 (Option.some.inj hf)
set_option maxRecDepth 20000 in
set_option maxHeartbeats 1000000 in
theorem c_X10_errorKind {l : Launch} {Z : ZT} {g : Hp} {h : Hp} {out : Int32} (hf : f_X10_errorKind h = some out) : Met l yX10_errorKind (wY yX10_errorKind cX10_errorKind 1 (some .int)) (rmD 0) (va_Pc [.ref (Z.1 0)] (Wd Z h g)) (va_Qi (fun r (_ : Unit) => r = out) (fun _ => Wd Z h g) (FR Z)) 0 0 (FR Z) := by
  refine metX RX10 rfl (by decide +kernel) (Nat.le_of_ble_eq_true rfl) ?_
  intro p e s m args below meth c C hW ls hl
  have hl : lv_has ls 1 [(0, .ref (Z.1 0))] := hl
  unfold f_X10_errorKind at hf
  refine lv_aload_n C.1 C.2.1 dX10_errorKind_0 rfl (lv_at hl 0 rfl) ?_
  refine xg_X10_10 C hW (k_0) dX10_errorKind_1 ?_
  refine xg_X10_112 C hW (k_1) dX10_errorKind_4 ?_
  exact x_iret C hW dX10_errorKind_7 (Option.some.inj hf)
set_option maxRecDepth 20000 in
set_option maxHeartbeats 1000000 in
theorem c_X10_count {l : Launch} {Z : ZT} {g : Hp} {h : Hp} {p1 : Int32} {out : Int32} (hf : f_X10_count h p1 = some out) : Met l yX10_count (wY yX10_count cX10_count 3 (some .int)) (rmD 0) (va_Pc [.ref (Z.1 0), .int p1] (Wd Z h g)) (va_Qi (fun r (_ : Unit) => r = out) (fun _ => Wd Z h g) (FR Z)) 0 0 (FR Z) := by
  refine metX RX10 rfl (by decide +kernel) (Nat.le_of_ble_eq_true rfl) ?_
  intro p e s m args below meth c C hW ls hl
  have hl : lv_has ls 3 [(0, .ref (Z.1 0)), (1, .int p1)] := hl
  unfold f_X10_count at hf
  refine lv_aload_n C.1 C.2.1 dX10_count_0 rfl (lv_at hl 0 rfl) ?_
  refine xg_X10_19 C hW (k_0) dX10_count_1 ?_
  refine xg_X10_86 C hW (k_3) hf dX10_count_4 (fun q1 hk_q1 hf => ?_)
  refine lv_astore_n (lv' := [(2, .ref (Z.1 q1)), (0, .ref (Z.1 0)), (1, .int p1)]) C.1 C.2.1 dX10_count_7 rfl hl (by decide) rfl (fun ls hl => ?_)
  refine lv_iload_n C.1 C.2.1 dX10_count_8 rfl (lv_at hl 2 rfl) ?_
  rcases Classical.em (p1 = 0) with q0 | q0
  · rw [if_pos q0] at hf
    refine x_swin (tgt := 48) C q0 dX10_count_9 (by decide) (by decide) rfl (by decide) ?_
    refine lv_aload_n C.1 C.2.1 dX10_count_48 rfl (lv_at hl 0 rfl) ?_
    refine xg_X10_115 C hW hk_q1 dX10_count_49 ?_
    exact x_iret C hW dX10_count_52 (Option.some.inj hf)
  · rw [if_neg q0] at hf
    rcases Classical.em (p1 = 1) with q1 | q1
    · rw [if_pos q1] at hf
      refine x_swin (tgt := 53) C q1 dX10_count_9 (by decide) (by decide) rfl (by decide) ?_
      refine lv_aload_n C.1 C.2.1 dX10_count_53 rfl (lv_at hl 0 rfl) ?_
      refine xg_X10_116 C hW hk_q1 dX10_count_54 ?_
      exact x_iret C hW dX10_count_57 (Option.some.inj hf)
    · rw [if_neg q1] at hf
      rcases Classical.em (p1 = 2) with q2 | q2
      · rw [if_pos q2] at hf
        refine x_swin (tgt := 58) C q2 dX10_count_9 (by decide) (by decide) rfl (by decide) ?_
        refine lv_aload_n C.1 C.2.1 dX10_count_58 rfl (lv_at hl 0 rfl) ?_
        refine xg_X10_89 C hW hk_q1 dX10_count_59 ?_
        exact x_iret C hW dX10_count_62 (Option.some.inj hf)
      · rw [if_neg q2] at hf
        rcases Classical.em (p1 = 3) with q3 | q3
        · rw [if_pos q3] at hf
          refine x_swin (tgt := 63) C q3 dX10_count_9 (by decide) (by decide) rfl (by decide) ?_
          refine lv_aload_n C.1 C.2.1 dX10_count_63 rfl (lv_at hl 0 rfl) ?_
          refine xg_X10_119 C hW hk_q1 dX10_count_64 ?_
          exact x_iret C hW dX10_count_67 (Option.some.inj hf)
        · rw [if_neg q3] at hf
          rcases Classical.em (p1 = 4) with q4 | q4
          · rw [if_pos q4] at hf
            refine x_swin (tgt := 68) C q4 dX10_count_9 (by decide) (by decide) rfl (by decide) ?_
            refine lv_aload_n C.1 C.2.1 dX10_count_68 rfl (lv_at hl 0 rfl) ?_
            refine xg_X10_122 C hW hk_q1 dX10_count_69 ?_
            exact x_iret C hW dX10_count_72 (Option.some.inj hf)
          · rw [if_neg q4] at hf
            rcases Classical.em (p1 = 5) with q5 | q5
            · rw [if_pos q5] at hf
              refine x_swin (tgt := 73) C q5 dX10_count_9 (by decide) (by decide) rfl (by decide) ?_
              refine lv_aload_n C.1 C.2.1 dX10_count_73 rfl (lv_at hl 0 rfl) ?_
              refine xg_X10_125 C hW hk_q1 dX10_count_74 ?_
              exact x_iret C hW dX10_count_77 (Option.some.inj hf)
            · rw [if_neg q5] at hf
              refine lv_tableOut (tgt := 78) C.1 C.2.1 dX10_count_9 (x_nN (n := 5) (fun k hk => by
                rcases (show k = 0 ∨ k = 1 ∨ k = 2 ∨ k = 3 ∨ k = 4 ∨ k = 5 by omega) with rfl | rfl | rfl | rfl | rfl | rfl
                · exact q0
                · exact q1
                · exact q2
                · exact q3
                · exact q4
                · exact q5
                ) (by decide)) (by decide) ?_
              refine lv_iconst (v := -1) C.1 C.2.1 dX10_count_78 (by decide) ?_
              exact x_iret C hW dX10_count_79 (Option.some.inj hf)
set_option maxRecDepth 20000 in
set_option maxHeartbeats 1000000 in
theorem c_X10_differentTexts {l : Launch} {Z : ZT} {g : Hp} {h : Hp} {out : Int32} (hf : f_X10_differentTexts h = some out) : Met l yX10_differentTexts (wY yX10_differentTexts cX10_differentTexts 1 (some .int)) (rmD 2) (va_Pc [.ref (Z.1 0)] (Wd Z h g)) (va_Qi (fun r (_ : Unit) => r = out) (fun _ => Wd Z h g) (FR Z)) 0 0 (FR Z) := by
  refine metX RX10 rfl (by decide +kernel) (Nat.le_of_ble_eq_true rfl) ?_
  intro p e s m args below meth c C hW ls hl
  have hl : lv_has ls 1 [(0, .ref (Z.1 0))] := hl
  unfold f_X10_differentTexts at hf
  refine lv_aload_n C.1 C.2.1 dX10_differentTexts_0 rfl (lv_at hl 0 rfl) ?_
  refine xg_X10_19 C hW (k_0) dX10_differentTexts_1 ?_
  refine xg_X10_86 C hW (k_3) hf dX10_differentTexts_4 (fun q1 hk_q1 hf => ?_)
  obtain ⟨u2, hcu2, hf⟩ := bnd_t hf
  refine x_calli hW (x_runV C hW hl (wk4 hk_q1) rfl rfl (c_X4_countTexts hk_q1 hcu2) (cw_X10_158) ci_X4_countTexts cs_X4_countTexts (rm_ok (by decide) (by decide)) ⟨Nat.le_refl _, Nat.le_refl _⟩ (As := []) rfl rfl (Nat.le_of_ble_eq_true rfl) dX10_differentTexts_7) (fun H locs hW => ?_)
  exact x_iret C hW dX10_differentTexts_10 (Option.some.inj hf)
set_option maxRecDepth 20000 in
set_option maxHeartbeats 1000000 in
theorem c_X10_blockAt {l : Launch} {Z : ZT} {g : Hp} {h : Hp} {p1 : Int32} {out : Int32} (hf : f_X10_blockAt h p1 = some out) : Met l yX10_blockAt (wY yX10_blockAt cX10_blockAt 2 (some .int)) (rmD 2) (va_Pc [.ref (Z.1 0), .int p1] (Wd Z h g)) (va_Qi (fun r (_ : Unit) => r = out) (fun _ => Wd Z h g) (FR Z)) 0 0 (FR Z) := by
  refine metX RX10 rfl (by decide +kernel) (Nat.le_of_ble_eq_true rfl) ?_
  intro p e s m args below meth c C hW ls hl
  have hl : lv_has ls 2 [(0, .ref (Z.1 0)), (1, .int p1)] := hl
  unfold f_X10_blockAt at hf
  refine lv_aload_n C.1 C.2.1 dX10_blockAt_0 rfl (lv_at hl 0 rfl) ?_
  refine xg_X10_19 C hW (k_0) dX10_blockAt_1 ?_
  refine xg_X10_86 C hW (k_3) hf dX10_blockAt_4 (fun q1 hk_q1 hf => ?_)
  refine lv_iload_n C.1 C.2.1 dX10_blockAt_7 rfl (lv_at hl 1 rfl) ?_
  obtain ⟨u2, hcu2, hf⟩ := bnd_t hf
  refine x_calli hW (x_runV C hW hl (wk4 hk_q1) rfl rfl (c_X4_blockWithFrame hk_q1 hcu2) (cw_X10_198) ci_X4_blockWithFrame cs_X4_blockWithFrame (rm_ok (by decide) (by decide)) ⟨Nat.le_refl _, Nat.le_refl _⟩ (As := [.int p1]) rfl rfl (Nat.le_of_ble_eq_true rfl) dX10_blockAt_8) (fun H locs hW => ?_)
  exact x_iret C hW dX10_blockAt_11 (Option.some.inj hf)
set_option maxRecDepth 20000 in
set_option maxHeartbeats 1000000 in
theorem c_X10_speakersAt {l : Launch} {Z : ZT} {g : Hp} {h : Hp} {p1 : Int32} {out : Int32} (hf : f_X10_speakersAt h p1 = some out) : Met l yX10_speakersAt (wY yX10_speakersAt cX10_speakersAt 2 (some .int)) (rmD 2) (va_Pc [.ref (Z.1 0), .int p1] (Wd Z h g)) (va_Qi (fun r (_ : Unit) => r = out) (fun _ => Wd Z h g) (FR Z)) 0 0 (FR Z) := by
  refine metX RX10 rfl (by decide +kernel) (Nat.le_of_ble_eq_true rfl) ?_
  intro p e s m args below meth c C hW ls hl
  have hl : lv_has ls 2 [(0, .ref (Z.1 0)), (1, .int p1)] := hl
  unfold f_X10_speakersAt at hf
  refine lv_aload_n C.1 C.2.1 dX10_speakersAt_0 rfl (lv_at hl 0 rfl) ?_
  refine xg_X10_19 C hW (k_0) dX10_speakersAt_1 ?_
  refine xg_X10_86 C hW (k_3) hf dX10_speakersAt_4 (fun q1 hk_q1 hf => ?_)
  refine lv_iload_n C.1 C.2.1 dX10_speakersAt_7 rfl (lv_at hl 1 rfl) ?_
  obtain ⟨u2, hcu2, hf⟩ := bnd_t hf
  refine x_calli hW (x_runV C hW hl (wk4 hk_q1) rfl rfl (c_X4_speakerSet hk_q1 hcu2) (cw_X10_205) ci_X4_speakerSet cs_X4_speakerSet (rm_ok (by decide) (by decide)) ⟨Nat.le_refl _, Nat.le_refl _⟩ (As := [.int p1]) rfl rfl (Nat.le_of_ble_eq_true rfl) dX10_speakersAt_8) (fun H locs hW => ?_)
  exact x_iret C hW dX10_speakersAt_11 (Option.some.inj hf)
set_option maxRecDepth 20000 in
set_option maxHeartbeats 1000000 in
theorem c_X10_shots {l : Launch} {Z : ZT} {g : Hp} {h : Hp} {out : Int32} (hf : f_X10_shots h = some out) : Met l yX10_shots (wY yX10_shots cX10_shots 1 (some .int)) (rmD 0) (va_Pc [.ref (Z.1 0)] (Wd Z h g)) (va_Qi (fun r (_ : Unit) => r = out) (fun _ => Wd Z h g) (FR Z)) 0 0 (FR Z) := by
  refine metX RX10 rfl (by decide +kernel) (Nat.le_of_ble_eq_true rfl) ?_
  intro p e s m args below meth c C hW ls hl
  have hl : lv_has ls 1 [(0, .ref (Z.1 0))] := hl
  unfold f_X10_shots at hf
  refine lv_aload_n C.1 C.2.1 dX10_shots_0 rfl (lv_at hl 0 rfl) ?_
  refine xg_X10_19 C hW (k_0) dX10_shots_1 ?_
  refine xg_X10_183 C hW (k_3) dX10_shots_4 ?_
  refine xg_X10_208 C hW (k_18) dX10_shots_7 ?_
  exact x_iret C hW dX10_shots_10 (Option.some.inj hf)
set_option maxRecDepth 20000 in
set_option maxHeartbeats 1000000 in
theorem c_X10_filmLength {l : Launch} {Z : ZT} {g : Hp} {h : Hp} {out : Int32} (hf : f_X10_filmLength h = some out) : Met l yX10_filmLength (wY yX10_filmLength cX10_filmLength 1 (some .int)) (rmD 0) (va_Pc [.ref (Z.1 0)] (Wd Z h g)) (va_Qi (fun r (_ : Unit) => r = out) (fun _ => Wd Z h g) (FR Z)) 0 0 (FR Z) := by
  refine metX RX10 rfl (by decide +kernel) (Nat.le_of_ble_eq_true rfl) ?_
  intro p e s m args below meth c C hW ls hl
  have hl : lv_has ls 1 [(0, .ref (Z.1 0))] := hl
  unfold f_X10_filmLength at hf
  refine lv_aload_n C.1 C.2.1 dX10_filmLength_0 rfl (lv_at hl 0 rfl) ?_
  refine xg_X10_19 C hW (k_0) dX10_filmLength_1 ?_
  refine xg_X10_226 C hW (k_3) dX10_filmLength_4 ?_
  exact x_iret C hW dX10_filmLength_7 (Option.some.inj hf)
set_option maxRecDepth 20000 in
set_option maxHeartbeats 1000000 in
theorem c_X10_clips {l : Launch} {Z : ZT} {g : Hp} {h : Hp} {out : Int32} (hf : f_X10_clips h = some out) : Met l yX10_clips (wY yX10_clips cX10_clips 1 (some .int)) (rmD 0) (va_Pc [.ref (Z.1 0)] (Wd Z h g)) (va_Qi (fun r (_ : Unit) => r = out) (fun _ => Wd Z h g) (FR Z)) 0 0 (FR Z) := by
  refine metX RX10 rfl (by decide +kernel) (Nat.le_of_ble_eq_true rfl) ?_
  intro p e s m args below meth c C hW ls hl
  have hl : lv_has ls 1 [(0, .ref (Z.1 0))] := hl
  unfold f_X10_clips at hf
  refine lv_aload_n C.1 C.2.1 dX10_clips_0 rfl (lv_at hl 0 rfl) ?_
  refine xg_X10_19 C hW (k_0) dX10_clips_1 ?_
  refine xg_X10_229 C hW (k_3) dX10_clips_4 ?_
  exact x_iret C hW dX10_clips_7 (Option.some.inj hf)
set_option maxRecDepth 20000 in
set_option maxHeartbeats 1000000 in
theorem c_X10_clipField {l : Launch} {Z : ZT} {g : Hp} {h : Hp} {p1 : Int32} {p2 : Int32} {out : Int32} (hf : f_X10_clipField h p1 p2 = some out) : Met l yX10_clipField (wY yX10_clipField cX10_clipField 5 (some .int)) (rmD 0) (va_Pc [.ref (Z.1 0), .int p1, .int p2] (Wd Z h g)) (va_Qi (fun r (_ : Unit) => r = out) (fun _ => Wd Z h g) (FR Z)) 0 0 (FR Z) := by
  refine metX RX10 rfl (by decide +kernel) (Nat.le_of_ble_eq_true rfl) ?_
  intro p e s m args below meth c C hW ls hl
  have hl : lv_has ls 5 [(0, .ref (Z.1 0)), (1, .int p1), (2, .int p2)] := hl
  unfold f_X10_clipField at hf
  refine lv_iload_n C.1 C.2.1 dX10_clipField_0 rfl (lv_at hl 1 rfl) ?_
  refine x_iflt (tgt := 15) C hf dX10_clipField_1 (by decide) (fun hf => ?_) (fun hf => ?_)
  · refine lv_iconst (v := -1) C.1 C.2.1 dX10_clipField_15 (by decide) ?_
    exact x_iret C hW dX10_clipField_16 (Option.some.inj hf)
  · refine lv_iload_n C.1 C.2.1 dX10_clipField_4 rfl (lv_at hl 1 rfl) ?_
    refine lv_aload_n C.1 C.2.1 dX10_clipField_5 rfl (lv_at hl 0 rfl) ?_
    refine xg_X10_19 C hW (k_0) dX10_clipField_6 ?_
    refine xg_X10_229 C hW (k_3) dX10_clipField_9 ?_
    refine x_cmplt (tgt := 17) C hf dX10_clipField_12 (by decide) (fun hf => ?_) (fun hf => ?_)
    · refine lv_aload_n C.1 C.2.1 dX10_clipField_17 rfl (lv_at hl 0 rfl) ?_
      refine xg_X10_19 C hW (k_0) dX10_clipField_18 ?_
      refine xg_X10_232 C hW (k_3) dX10_clipField_21 ?_
      refine lv_iload_n C.1 C.2.1 dX10_clipField_24 rfl (lv_at hl 1 rfl) ?_
      refine x_ialdC C hW a_11 hf dX10_clipField_25 (fun hf => ?_)
      refine x_istn C hf dX10_clipField_26 rfl hl (by decide) (fun v1 => [(3, .int v1), (0, .ref (Z.1 0)), (1, .int p1), (2, .int p2)]) (fun _ => rfl) (fun v1 ls hf hl => ?_)
      refine lv_aload_n C.1 C.2.1 dX10_clipField_27 rfl (lv_at hl 1 rfl) ?_
      refine xg_X10_19 C hW (k_0) dX10_clipField_28 ?_
      refine xg_X10_232 C hW (k_3) dX10_clipField_31 ?_
      refine lv_iload_n C.1 C.2.1 dX10_clipField_34 rfl (lv_at hl 2 rfl) ?_
      refine lv_iconst (v := 1) C.1 C.2.1 dX10_clipField_35 (by decide) ?_
      refine lv_iadd C.1 C.2.1 dX10_clipField_36 ?_
      refine x_ialdC C hW a_11 hf dX10_clipField_37 (fun hf => ?_)
      refine x_ist C hf dX10_clipField_38 hl (by decide) (fun v2 => [(4, .int v2), (3, .int v1), (0, .ref (Z.1 0)), (1, .int p1), (2, .int p2)]) (fun _ => rfl) (fun v2 ls hf hl => ?_)
      refine lv_iload_n C.1 C.2.1 dX10_clipField_40 rfl (lv_at hl 4 rfl) ?_
      rcases Classical.em (p2 = 0) with q0 | q0
      · rw [if_pos q0] at hf
        refine x_swin (tgt := 72) C q0 dX10_clipField_41 (by decide) (by decide) rfl (by decide) ?_
        refine lv_aload_n C.1 C.2.1 dX10_clipField_72 rfl (lv_at hl 2 rfl) ?_
        refine xg_X10_19 C hW (k_0) dX10_clipField_73 ?_
        refine xg_X10_217 C hW (k_3) dX10_clipField_76 ?_
        refine lv_iload_n C.1 C.2.1 dX10_clipField_79 rfl (lv_at hl 1 rfl) ?_
        refine x_ialdC C hW a_4 hf dX10_clipField_80 (fun hf => ?_)
        exact x_iret C hW dX10_clipField_81 (Option.some.inj hf)
      · rw [if_neg q0] at hf
        rcases Classical.em (p2 = 1) with q1 | q1
        · rw [if_pos q1] at hf
          refine x_swin (tgt := 82) C q1 dX10_clipField_41 (by decide) (by decide) rfl (by decide) ?_
          refine lv_aload_n C.1 C.2.1 dX10_clipField_82 rfl (lv_at hl 2 rfl) ?_
          refine xg_X10_19 C hW (k_0) dX10_clipField_83 ?_
          refine xg_X10_220 C hW (k_3) dX10_clipField_86 ?_
          refine lv_iload C.1 C.2.1 dX10_clipField_89 (lv_at hl 0 rfl) ?_
          refine lv_iconst (v := 1) C.1 C.2.1 dX10_clipField_91 (by decide) ?_
          refine lv_isub C.1 C.2.1 dX10_clipField_92 ?_
          refine x_ialdC C hW a_5 hf dX10_clipField_93 (fun hf => ?_)
          exact x_iret C hW dX10_clipField_94 (Option.some.inj hf)
        · rw [if_neg q1] at hf
          rcases Classical.em (p2 = 2) with q2 | q2
          · rw [if_pos q2] at hf
            refine x_swin (tgt := 95) C q2 dX10_clipField_41 (by decide) (by decide) rfl (by decide) ?_
            refine lv_aload_n C.1 C.2.1 dX10_clipField_95 rfl (lv_at hl 2 rfl) ?_
            refine xg_X10_19 C hW (k_0) dX10_clipField_96 ?_
            refine xg_X10_223 C hW (k_3) dX10_clipField_99 ?_
            refine lv_iload_n C.1 C.2.1 dX10_clipField_102 rfl (lv_at hl 1 rfl) ?_
            refine x_ialdC C hW a_6 hf dX10_clipField_103 (fun hf => ?_)
            exact x_iret C hW dX10_clipField_104 (Option.some.inj hf)
          · rw [if_neg q2] at hf
            rcases Classical.em (p2 = 3) with q3 | q3
            · rw [if_pos q3] at hf
              refine x_swin (tgt := 105) C q3 dX10_clipField_41 (by decide) (by decide) rfl (by decide) ?_
              refine lv_iload C.1 C.2.1 dX10_clipField_105 (lv_at hl 0 rfl) ?_
              refine lv_iload_n C.1 C.2.1 dX10_clipField_107 rfl (lv_at hl 1 rfl) ?_
              refine lv_isub C.1 C.2.1 dX10_clipField_108 ?_
              exact x_iret C hW dX10_clipField_109 (Option.some.inj hf)
            · rw [if_neg q3] at hf
              refine lv_tableOut (tgt := 110) C.1 C.2.1 dX10_clipField_41 (x_nN (n := 3) (fun k hk => by
                rcases (show k = 0 ∨ k = 1 ∨ k = 2 ∨ k = 3 by omega) with rfl | rfl | rfl | rfl
                · exact q0
                · exact q1
                · exact q2
                · exact q3
                ) (by decide)) (by decide) ?_
              refine lv_iconst (v := -1) C.1 C.2.1 dX10_clipField_110 (by decide) ?_
              exact x_iret C hW dX10_clipField_111 (Option.some.inj hf)
    · refine lv_iconst (v := -1) C.1 C.2.1 dX10_clipField_15 (by decide) ?_
      exact x_iret C hW dX10_clipField_16 (Option.some.inj hf)
set_option maxRecDepth 20000 in
set_option maxHeartbeats 1000000 in
theorem c_X10_sourceOf {l : Launch} {Z : ZT} {g : Hp} {h : Hp} {p1 : Int32} {out : Int32} (hf : f_X10_sourceOf h p1 = some out) : Met l yX10_sourceOf (wY yX10_sourceOf cX10_sourceOf 3 (some .int)) (rmD 2) (va_Pc [.ref (Z.1 0), .int p1] (Wd Z h g)) (va_Qi (fun r (_ : Unit) => r = out) (fun _ => Wd Z h g) (FR Z)) 0 0 (FR Z) := by
  refine metX RX10 rfl (by decide +kernel) (Nat.le_of_ble_eq_true rfl) ?_
  intro p e s m args below meth c C hW ls hl
  have hl : lv_has ls 3 [(0, .ref (Z.1 0)), (1, .int p1)] := hl
  unfold f_X10_sourceOf at hf
  refine lv_aload_n C.1 C.2.1 dX10_sourceOf_0 rfl (lv_at hl 0 rfl) ?_
  refine xg_X10_19 C hW (k_0) dX10_sourceOf_1 ?_
  refine lv_iload_n C.1 C.2.1 dX10_sourceOf_4 rfl (lv_at hl 1 rfl) ?_
  obtain ⟨u1, hcu1, hf⟩ := bnd_t hf
  refine x_calli hW (x_runV C hW hl (wk1 (k_3)) rfl rfl (c_X1_shotWithFrame hcu1) (cw_X10_235) ci_X1_shotWithFrame cs_X1_shotWithFrame (rm_ok (by decide) (by decide)) ⟨Nat.le_refl _, Nat.le_refl _⟩ (As := [.int p1]) rfl rfl (Nat.le_of_ble_eq_true rfl) dX10_sourceOf_5) (fun H locs hW => ?_)
  refine lv_istore_n (lv' := [(2, .int u1), (0, .ref (Z.1 0)), (1, .int p1)]) C.1 C.2.1 dX10_sourceOf_8 rfl hl (by decide) rfl (fun ls hl => ?_)
  refine lv_iload_n C.1 C.2.1 dX10_sourceOf_9 rfl (lv_at hl 0 rfl) ?_
  refine lv_iconst (v := -1) C.1 C.2.1 dX10_sourceOf_10 (by decide) ?_
  refine x_cmpne (tgt := 18) C hf dX10_sourceOf_11 (by decide) (fun hf => ?_) (fun hf => ?_)
  · refine lv_aload_n C.1 C.2.1 dX10_sourceOf_18 rfl (lv_at hl 1 rfl) ?_
    refine xg_X10_19 C hW (k_0) dX10_sourceOf_19 ?_
    refine lv_iload_n C.1 C.2.1 dX10_sourceOf_22 rfl (lv_at hl 0 rfl) ?_
    refine lv_iload_n C.1 C.2.1 dX10_sourceOf_23 rfl (lv_at hl 2 rfl) ?_
    obtain ⟨u2, hcu2, hf⟩ := bnd_t hf
    refine x_calli hW (x_runV C hW hl (wk1 (k_3)) rfl rfl (c_X1_sourceIn hcu2) (cw_X10_238) ci_X1_sourceIn cs_X1_sourceIn (rm_ok (by decide) (by decide)) ⟨Nat.le_refl _, Nat.le_refl _⟩ (As := [.int u1, .int p1]) rfl rfl (Nat.le_of_ble_eq_true rfl) dX10_sourceOf_24) (fun H locs hW => ?_)
    exact x_iret C hW dX10_sourceOf_27 (Option.some.inj hf)
  · refine lv_iconst (v := -1) C.1 C.2.1 dX10_sourceOf_14 (by decide) ?_
    refine lv_goto (tgt := 27) C.1 C.2.1 dX10_sourceOf_15 (by decide) ?_
    exact x_iret C hW dX10_sourceOf_27 (Option.some.inj hf)
set_option maxRecDepth 20000 in
set_option maxHeartbeats 1000000 in
theorem c_X10_silence {l : Launch} {Z : ZT} {g : Hp} {h : Hp} {out : Int32} (hf : f_X10_silence h = some out) : Met l yX10_silence (wY yX10_silence cX10_silence 1 (some .int)) (rmD 0) (va_Pc [.ref (Z.1 0)] (Wd Z h g)) (va_Qi (fun r (_ : Unit) => r = out) (fun _ => Wd Z h g) (FR Z)) 0 0 (FR Z) := by
  refine metX RX10 rfl (by decide +kernel) (Nat.le_of_ble_eq_true rfl) ?_
  intro p e s m args below meth c C hW ls hl
  have hl : lv_has ls 1 [(0, .ref (Z.1 0))] := hl
  unfold f_X10_silence at hf
  refine lv_aload_n C.1 C.2.1 dX10_silence_0 rfl (lv_at hl 0 rfl) ?_
  refine xg_X10_19 C hW (k_0) dX10_silence_1 ?_
  refine xg_X10_248 C hW (k_3) dX10_silence_4 ?_
  exact x_iret C hW dX10_silence_7 (Option.some.inj hf)
set_option maxRecDepth 20000 in
set_option maxHeartbeats 1000000 in
theorem c_X10_longestSilence {l : Launch} {Z : ZT} {g : Hp} {h : Hp} {out : Int32} (hf : f_X10_longestSilence h = some out) : Met l yX10_longestSilence (wY yX10_longestSilence cX10_longestSilence 1 (some .int)) (rmD 0) (va_Pc [.ref (Z.1 0)] (Wd Z h g)) (va_Qi (fun r (_ : Unit) => r = out) (fun _ => Wd Z h g) (FR Z)) 0 0 (FR Z) := by
  refine metX RX10 rfl (by decide +kernel) (Nat.le_of_ble_eq_true rfl) ?_
  intro p e s m args below meth c C hW ls hl
  have hl : lv_has ls 1 [(0, .ref (Z.1 0))] := hl
  unfold f_X10_longestSilence at hf
  refine lv_aload_n C.1 C.2.1 dX10_longestSilence_0 rfl (lv_at hl 0 rfl) ?_
  refine xg_X10_19 C hW (k_0) dX10_longestSilence_1 ?_
  refine xg_X10_251 C hW (k_3) dX10_longestSilence_4 ?_
  exact x_iret C hW dX10_longestSilence_7 (Option.some.inj hf)
set_option maxRecDepth 20000 in
set_option maxHeartbeats 1000000 in
theorem c_X10_transcriptSize {l : Launch} {Z : ZT} {g : Hp} {h : Hp} {out : Int32} (hf : f_X10_transcriptSize h = some out) : Met l yX10_transcriptSize (wY yX10_transcriptSize cX10_transcriptSize 1 (some .int)) (rmD 0) (va_Pc [.ref (Z.1 0)] (Wd Z h g)) (va_Qi (fun r (_ : Unit) => r = out) (fun _ => Wd Z h g) (FR Z)) 0 0 (FR Z) := by
  refine metX RX10 rfl (by decide +kernel) (Nat.le_of_ble_eq_true rfl) ?_
  intro p e s m args below meth c C hW ls hl
  have hl : lv_has ls 1 [(0, .ref (Z.1 0))] := hl
  unfold f_X10_transcriptSize at hf
  refine lv_aload_n C.1 C.2.1 dX10_transcriptSize_0 rfl (lv_at hl 0 rfl) ?_
  refine xg_X10_19 C hW (k_0) dX10_transcriptSize_1 ?_
  refine xg_X10_257 C hW (k_3) dX10_transcriptSize_4 ?_
  exact x_iret C hW dX10_transcriptSize_7 (Option.some.inj hf)
set_option maxRecDepth 20000 in
set_option maxHeartbeats 1000000 in
theorem c_X10_transcriptWord {l : Launch} {Z : ZT} {g : Hp} {h : Hp} {p1 : Int32} {out : Int32} (hf : f_X10_transcriptWord h p1 = some out) : Met l yX10_transcriptWord (wY yX10_transcriptWord cX10_transcriptWord 2 (some .int)) (rmD 0) (va_Pc [.ref (Z.1 0), .int p1] (Wd Z h g)) (va_Qi (fun r (_ : Unit) => r = out) (fun _ => Wd Z h g) (FR Z)) 0 0 (FR Z) := by
  refine metX RX10 rfl (by decide +kernel) (Nat.le_of_ble_eq_true rfl) ?_
  intro p e s m args below meth c C hW ls hl
  have hl : lv_has ls 2 [(0, .ref (Z.1 0)), (1, .int p1)] := hl
  unfold f_X10_transcriptWord at hf
  refine lv_iload_n C.1 C.2.1 dX10_transcriptWord_0 rfl (lv_at hl 1 rfl) ?_
  refine x_iflt (tgt := 15) C hf dX10_transcriptWord_1 (by decide) (fun hf => ?_) (fun hf => ?_)
  · refine lv_iconst (v := -1) C.1 C.2.1 dX10_transcriptWord_15 (by decide) ?_
    exact x_iret C hW dX10_transcriptWord_16 (Option.some.inj hf)
  · refine lv_iload_n C.1 C.2.1 dX10_transcriptWord_4 rfl (lv_at hl 1 rfl) ?_
    refine lv_aload_n C.1 C.2.1 dX10_transcriptWord_5 rfl (lv_at hl 0 rfl) ?_
    refine xg_X10_19 C hW (k_0) dX10_transcriptWord_6 ?_
    refine xg_X10_257 C hW (k_3) dX10_transcriptWord_9 ?_
    refine x_cmplt (tgt := 17) C hf dX10_transcriptWord_12 (by decide) (fun hf => ?_) (fun hf => ?_)
    · refine lv_aload_n C.1 C.2.1 dX10_transcriptWord_17 rfl (lv_at hl 0 rfl) ?_
      refine xg_X10_19 C hW (k_0) dX10_transcriptWord_18 ?_
      refine xg_X10_260 C hW (k_3) dX10_transcriptWord_21 ?_
      refine lv_iload_n C.1 C.2.1 dX10_transcriptWord_24 rfl (lv_at hl 1 rfl) ?_
      refine x_ialdC C hW a_9 hf dX10_transcriptWord_25 (fun hf => ?_)
      exact x_iret C hW dX10_transcriptWord_26 (Option.some.inj hf)
    · refine lv_iconst (v := -1) C.1 C.2.1 dX10_transcriptWord_15 (by decide) ?_
      exact x_iret C hW dX10_transcriptWord_16 (Option.some.inj hf)
set_option maxRecDepth 20000 in
set_option maxHeartbeats 1000000 in
theorem c_X10_stutters {l : Launch} {Z : ZT} {g : Hp} {h : Hp} {out : Int32} (hf : f_X10_stutters h = some out) : Met l yX10_stutters (wY yX10_stutters cX10_stutters 1 (some .int)) (rmD 1) (va_Pc [.ref (Z.1 0)] (Wd Z h g)) (va_Qi (fun r (_ : Unit) => r = out) (fun _ => Wd Z h g) (FR Z)) 0 0 (FR Z) := by
  refine metX RX10 rfl (by decide +kernel) (Nat.le_of_ble_eq_true rfl) ?_
  intro p e s m args below meth c C hW ls hl
  have hl : lv_has ls 1 [(0, .ref (Z.1 0))] := hl
  unfold f_X10_stutters at hf
  refine lv_aload_n C.1 C.2.1 dX10_stutters_0 rfl (lv_at hl 0 rfl) ?_
  refine xg_X10_19 C hW (k_0) dX10_stutters_1 ?_
  obtain ⟨u1, hcu1, hf⟩ := bnd_t hf
  refine x_calli hW (x_runV C hW hl (wk1 (k_3)) rfl rfl (c_X1_countStutters hcu1) (cw_X10_272) ci_X1_countStutters cs_X1_countStutters (rm_ok (by decide) (by decide)) ⟨Nat.le_refl _, Nat.le_refl _⟩ (As := []) rfl rfl (Nat.le_of_ble_eq_true rfl) dX10_stutters_4) (fun H locs hW => ?_)
  exact x_iret C hW dX10_stutters_7 (Option.some.inj hf)
set_option maxRecDepth 20000 in
set_option maxHeartbeats 1000000 in
theorem c_X10_shotsToCut {l : Launch} {Z : ZT} {g : Hp} {h : Hp} {p1 : Int32} {out : Int32 × Hp} (hf : f_X10_shotsToCut h p1 = some out) : Met l yX10_shotsToCut (wY yX10_shotsToCut cX10_shotsToCut 2 (some .int)) (rmD 2) (va_Pc [.ref (Z.1 0), .int p1] (Wd Z h g)) (va_Qi (fun r (_ : Unit) => r = out.1) (fun _ => Wd Z out.2 g) (FR Z)) 0 0 (FR Z) := by
  refine metX RX10 rfl (by decide +kernel) (Nat.le_of_ble_eq_true rfl) ?_
  intro p e s m args below meth c C hW ls hl
  have hl : lv_has ls 2 [(0, .ref (Z.1 0)), (1, .int p1)] := hl
  unfold f_X10_shotsToCut at hf
  refine lv_iload_n C.1 C.2.1 dX10_shotsToCut_0 rfl (lv_at hl 1 rfl) ?_
  refine x_ifge (tgt := 6) C hf dX10_shotsToCut_1 (by decide) (fun hf => ?_) (fun hf => ?_)
  · refine lv_aload_n C.1 C.2.1 dX10_shotsToCut_6 rfl (lv_at hl 0 rfl) ?_
    refine xg_X10_19 C hW (k_0) dX10_shotsToCut_7 ?_
    refine lv_iload_n C.1 C.2.1 dX10_shotsToCut_10 rfl (lv_at hl 1 rfl) ?_
    obtain ⟨u1, hcu1, hf⟩ := bnd_t hf
    refine x_calli hW (x_runV C hW hl (wk1 (k_3)) rfl rfl (c_X1_countShotsBeyond hcu1) (cw_X10_285) ci_X1_countShotsBeyond cs_X1_countShotsBeyond (rm_ok (by decide) (by decide)) ⟨Nat.le_refl _, Nat.le_refl _⟩ (As := [.int p1]) rfl rfl (Nat.le_of_ble_eq_true rfl) dX10_shotsToCut_11) (fun H locs hW => ?_)
    obtain rfl := Option.some.inj hf
    exact x_iret C hW dX10_shotsToCut_14 rfl
  · refine lv_iconst (v := -1) C.1 C.2.1 dX10_shotsToCut_4 (by decide) ?_
    obtain rfl := Option.some.inj hf
    exact x_iret C hW dX10_shotsToCut_5 rfl
set_option maxRecDepth 20000 in
set_option maxHeartbeats 1000000 in
theorem c_X10_runScript {l : Launch} {Z : ZT} {g : Hp} {h : Hp} {out : Int32 × Hp} (hf : f_X10_runScript h = some out) : Met l yX10_runScript (wY yX10_runScript cX10_runScript 1 (some .int)) (rmD 71) (va_Pc [.ref (Z.1 0)] (Wd Z h g)) (va_Qi (fun r (_ : Unit) => r = out.1) (fun _ => Wd Z out.2 g) (FR Z)) 0 0 (FR Z) := by
  refine metX RX10 rfl (by decide +kernel) (Nat.le_of_ble_eq_true rfl) ?_
  intro p e s m args below meth c C hW ls hl
  have hl : lv_has ls 1 [(0, .ref (Z.1 0))] := hl
  unfold f_X10_runScript at hf
  refine lv_aload_n C.1 C.2.1 dX10_runScript_0 rfl (lv_at hl 0 rfl) ?_
  refine xg_X10_26 C hW (k_0) dX10_runScript_1 ?_
  refine lv_aload_n C.1 C.2.1 dX10_runScript_4 rfl (lv_at hl 0 rfl) ?_
  refine xg_X10_19 C hW (k_0) dX10_runScript_5 ?_
  refine xg_X10_183 C hW (k_3) dX10_runScript_8 ?_
  obtain ⟨u1, hcu1, hf⟩ := bnd_t hf
  refine x_callv hW (x_runV C hW hl (wk3 (k_13)) rfl rfl (c_X3_record (k_18) hcu1) (cw_X10_288) ci_X3_record cs_X3_record (rm_ok (by decide) (by decide)) ⟨Nat.le_refl _, Nat.le_refl _⟩ (As := [.ref (Z.1 18)]) rfl rfl (Nat.le_of_ble_eq_true rfl) dX10_runScript_11) (fun H locs hW => ?_)
  refine lv_aload_n C.1 C.2.1 dX10_runScript_14 rfl (lv_at hl 0 rfl) ?_
  refine xg_X10_33 C hW (k_0) dX10_runScript_15 ?_
  refine lv_aload_n C.1 C.2.1 dX10_runScript_18 rfl (lv_at hl 0 rfl) ?_
  refine xg_X10_19 C hW (k_0) dX10_runScript_19 ?_
  obtain ⟨u2, hcu2, hf⟩ := bnd_t hf
  refine x_callv hW (x_runV C hW hl (wk5 (k_15)) rfl rfl (c_X5_runAll hcu2) (cw_X10_323) ci_X5_runAll cs_X5_runAll (rm_ok (by decide) (by decide)) ⟨Nat.le_refl _, Nat.le_refl _⟩ (As := [.ref (Z.1 3)]) rfl rfl (Nat.le_of_ble_eq_true rfl) dX10_runScript_22) (fun H locs hW => ?_)
  refine lv_aload_n C.1 C.2.1 dX10_runScript_25 rfl (lv_at hl 0 rfl) ?_
  refine xg_X10_33 C hW (k_0) dX10_runScript_26 ?_
  refine xg_X10_327 C hW (k_15) dX10_runScript_29 ?_
  obtain rfl := Option.some.inj hf
  exact x_iret C hW dX10_runScript_32 rfl
set_option maxRecDepth 20000 in
set_option maxHeartbeats 1000000 in
theorem c_X10_failed {l : Launch} {Z : ZT} {g : Hp} {h : Hp} {out : Int32} (hf : f_X10_failed h = some out) : Met l yX10_failed (wY yX10_failed cX10_failed 1 (some .int)) (rmD 0) (va_Pc [.ref (Z.1 0)] (Wd Z h g)) (va_Qi (fun r (_ : Unit) => r = out) (fun _ => Wd Z h g) (FR Z)) 0 0 (FR Z) := by
  refine metX RX10 rfl (by decide +kernel) (Nat.le_of_ble_eq_true rfl) ?_
  intro p e s m args below meth c C hW ls hl
  have hl : lv_has ls 1 [(0, .ref (Z.1 0))] := hl
  unfold f_X10_failed at hf
  refine lv_aload_n C.1 C.2.1 dX10_failed_0 rfl (lv_at hl 0 rfl) ?_
  refine xg_X10_33 C hW (k_0) dX10_failed_1 ?_
  refine xg_X10_330 C hW (k_15) dX10_failed_4 ?_
  exact x_iret C hW dX10_failed_7 (Option.some.inj hf)
set_option maxRecDepth 20000 in
set_option maxHeartbeats 1000000 in
theorem c_X10_wasStopped {l : Launch} {Z : ZT} {g : Hp} {h : Hp} {out : Int32} (hf : f_X10_wasStopped h = some out) : Met l yX10_wasStopped (wY yX10_wasStopped cX10_wasStopped 1 (some .boolean)) (rmD 0) (va_Pc [.ref (Z.1 0)] (Wd Z h g)) (va_Qi (fun r (_ : Unit) => r = out) (fun _ => Wd Z h g) (FR Z)) 0 0 (FR Z) := by
  refine metX RX10 rfl (by decide +kernel) (Nat.le_of_ble_eq_true rfl) ?_
  intro p e s m args below meth c C hW ls hl
  have hl : lv_has ls 1 [(0, .ref (Z.1 0))] := hl
  unfold f_X10_wasStopped at hf
  refine lv_aload_n C.1 C.2.1 dX10_wasStopped_0 rfl (lv_at hl 0 rfl) ?_
  refine xg_X10_33 C hW (k_0) dX10_wasStopped_1 ?_
  refine xg_X10_333 C hW (k_15) dX10_wasStopped_4 ?_
  obtain ⟨hz, hf⟩ := ck_t hf
  exact x_zret C hW hz dX10_wasStopped_7 (Option.some.inj hf)
set_option maxRecDepth 20000 in
set_option maxHeartbeats 1000000 in
theorem c_X10_undo {l : Launch} {Z : ZT} {g : Hp} {h : Hp} {out : Int32 × Hp} (hf : f_X10_undo h = some out) : Met l yX10_undo (wY yX10_undo cX10_undo 1 (some .int)) (rmD 2) (va_Pc [.ref (Z.1 0)] (Wd Z h g)) (va_Qi (fun r (_ : Unit) => r = out.1) (fun _ => Wd Z out.2 g) (FR Z)) 0 0 (FR Z) := by
  refine metX RX10 rfl (by decide +kernel) (Nat.le_of_ble_eq_true rfl) ?_
  intro p e s m args below meth c C hW ls hl
  have hl : lv_has ls 1 [(0, .ref (Z.1 0))] := hl
  unfold f_X10_undo at hf
  refine lv_aload_n C.1 C.2.1 dX10_undo_0 rfl (lv_at hl 0 rfl) ?_
  refine xg_X10_26 C hW (k_0) dX10_undo_1 ?_
  refine xg_X10_83 C hW (k_13) dX10_undo_4 ?_
  refine x_ifne (tgt := 12) C hf dX10_undo_7 (by decide) (fun hf => ?_) (fun hf => ?_)
  · refine lv_aload_n C.1 C.2.1 dX10_undo_12 rfl (lv_at hl 0 rfl) ?_
    refine xg_X10_26 C hW (k_0) dX10_undo_13 ?_
    refine lv_aload_n C.1 C.2.1 dX10_undo_16 rfl (lv_at hl 0 rfl) ?_
    refine xg_X10_19 C hW (k_0) dX10_undo_17 ?_
    refine xg_X10_183 C hW (k_3) dX10_undo_20 ?_
    obtain ⟨u1, hcu1, hf⟩ := bnd_t hf
    refine x_callv hW (x_runV C hW hl (wk3 (k_13)) rfl rfl (c_X3_giveBack (k_18) hcu1) (cw_X10_337) ci_X3_giveBack cs_X3_giveBack (rm_ok (by decide) (by decide)) ⟨Nat.le_refl _, Nat.le_refl _⟩ (As := [.ref (Z.1 18)]) rfl rfl (Nat.le_of_ble_eq_true rfl) dX10_undo_23) (fun H locs hW => ?_)
    refine lv_aload_n C.1 C.2.1 dX10_undo_26 rfl (lv_at hl 0 rfl) ?_
    refine xg_X10_19 C hW (k_0) dX10_undo_27 ?_
    obtain ⟨u2, hcu2, hf⟩ := bnd_t hf
    refine x_callv hW (x_runV C hW hl (wk1 (k_3)) rfl rfl (c_X1_layOut hcu2) (cw_X10_317) ci_X1_layOut cs_X1_layOut (rm_ok (by decide) (by decide)) ⟨Nat.le_refl _, Nat.le_refl _⟩ (As := []) rfl rfl (Nat.le_of_ble_eq_true rfl) dX10_undo_30) (fun H locs hW => ?_)
    refine lv_aload_n C.1 C.2.1 dX10_undo_33 rfl (lv_at hl 0 rfl) ?_
    refine xg_X10_26 C hW (k_0) dX10_undo_34 ?_
    refine xg_X10_83 C hW (k_13) dX10_undo_37 ?_
    obtain rfl := Option.some.inj hf
    exact x_iret C hW dX10_undo_40 rfl
  · refine lv_iconst (v := -1) C.1 C.2.1 dX10_undo_10 (by decide) ?_
    obtain rfl := Option.some.inj hf
    exact x_iret C hW dX10_undo_11 rfl
set_option maxRecDepth 20000 in
set_option maxHeartbeats 1000000 in
theorem c_X10_undoDepth {l : Launch} {Z : ZT} {g : Hp} {h : Hp} {out : Int32} (hf : f_X10_undoDepth h = some out) : Met l yX10_undoDepth (wY yX10_undoDepth cX10_undoDepth 1 (some .int)) (rmD 0) (va_Pc [.ref (Z.1 0)] (Wd Z h g)) (va_Qi (fun r (_ : Unit) => r = out) (fun _ => Wd Z h g) (FR Z)) 0 0 (FR Z) := by
  refine metX RX10 rfl (by decide +kernel) (Nat.le_of_ble_eq_true rfl) ?_
  intro p e s m args below meth c C hW ls hl
  have hl : lv_has ls 1 [(0, .ref (Z.1 0))] := hl
  unfold f_X10_undoDepth at hf
  refine lv_aload_n C.1 C.2.1 dX10_undoDepth_0 rfl (lv_at hl 0 rfl) ?_
  refine xg_X10_26 C hW (k_0) dX10_undoDepth_1 ?_
  refine xg_X10_83 C hW (k_13) dX10_undoDepth_4 ?_
  exact x_iret C hW dX10_undoDepth_7 (Option.some.inj hf)
set_option maxRecDepth 20000 in
set_option maxHeartbeats 1000000 in
theorem c_X10_formatTranscript {l : Launch} {Z : ZT} {g : Hp} {h : Hp} {out : Int32 × Hp} (hf : f_X10_formatTranscript h = some out) : Met l yX10_formatTranscript (wY yX10_formatTranscript cX10_formatTranscript 1 (some .int)) (rmD 10) (va_Pc [.ref (Z.1 0)] (Wd Z h g)) (va_Qi (fun r (_ : Unit) => r = out.1) (fun _ => Wd Z out.2 g) (FR Z)) 0 0 (FR Z) := by
  refine metX RX10 rfl (by decide +kernel) (Nat.le_of_ble_eq_true rfl) ?_
  intro p e s m args below meth c C hW ls hl
  have hl : lv_has ls 1 [(0, .ref (Z.1 0))] := hl
  unfold f_X10_formatTranscript at hf
  refine lv_aload_n C.1 C.2.1 dX10_formatTranscript_0 rfl (lv_at hl 0 rfl) ?_
  refine xg_X10_40 C hW (k_0) dX10_formatTranscript_1 ?_
  refine lv_aload_n C.1 C.2.1 dX10_formatTranscript_4 rfl (lv_at hl 0 rfl) ?_
  refine xg_X10_19 C hW (k_0) dX10_formatTranscript_5 ?_
  obtain ⟨u1, hcu1, hf⟩ := bnd_t hf
  refine x_callv hW (x_runV C hW hl (wk2 (k_16)) rfl rfl (c_X2_writeTranscript hcu1) (cw_X10_340) ci_X2_writeTranscript cs_X2_writeTranscript (rm_ok (by decide) (by decide)) ⟨Nat.le_refl _, Nat.le_refl _⟩ (As := [.ref (Z.1 3)]) rfl rfl (Nat.le_of_ble_eq_true rfl) dX10_formatTranscript_8) (fun H locs hW => ?_)
  refine lv_aload_n C.1 C.2.1 dX10_formatTranscript_11 rfl (lv_at hl 0 rfl) ?_
  refine xg_X10_40 C hW (k_0) dX10_formatTranscript_12 ?_
  refine xg_X10_343 C hW (k_16) dX10_formatTranscript_15 ?_
  obtain rfl := Option.some.inj hf
  exact x_iret C hW dX10_formatTranscript_18 rfl
set_option maxRecDepth 20000 in
set_option maxHeartbeats 1000000 in
theorem c_X10_formattedByte {l : Launch} {Z : ZT} {g : Hp} {h : Hp} {p1 : Int32} {out : Int32} (hf : f_X10_formattedByte h p1 = some out) : Met l yX10_formattedByte (wY yX10_formattedByte cX10_formattedByte 2 (some .int)) (rmD 0) (va_Pc [.ref (Z.1 0), .int p1] (Wd Z h g)) (va_Qi (fun r (_ : Unit) => r = out) (fun _ => Wd Z h g) (FR Z)) 0 0 (FR Z) := by
  refine metX RX10 rfl (by decide +kernel) (Nat.le_of_ble_eq_true rfl) ?_
  intro p e s m args below meth c C hW ls hl
  have hl : lv_has ls 2 [(0, .ref (Z.1 0)), (1, .int p1)] := hl
  unfold f_X10_formattedByte at hf
  refine lv_iload_n C.1 C.2.1 dX10_formattedByte_0 rfl (lv_at hl 1 rfl) ?_
  refine x_iflt (tgt := 15) C hf dX10_formattedByte_1 (by decide) (fun hf => ?_) (fun hf => ?_)
  · refine lv_iconst (v := -1) C.1 C.2.1 dX10_formattedByte_15 (by decide) ?_
    exact x_iret C hW dX10_formattedByte_16 (Option.some.inj hf)
  · refine lv_iload_n C.1 C.2.1 dX10_formattedByte_4 rfl (lv_at hl 1 rfl) ?_
    refine lv_aload_n C.1 C.2.1 dX10_formattedByte_5 rfl (lv_at hl 0 rfl) ?_
    refine xg_X10_40 C hW (k_0) dX10_formattedByte_6 ?_
    refine xg_X10_343 C hW (k_16) dX10_formattedByte_9 ?_
    refine x_cmplt (tgt := 17) C hf dX10_formattedByte_12 (by decide) (fun hf => ?_) (fun hf => ?_)
    · refine lv_aload_n C.1 C.2.1 dX10_formattedByte_17 rfl (lv_at hl 0 rfl) ?_
      refine xg_X10_40 C hW (k_0) dX10_formattedByte_18 ?_
      refine xg_X10_348 C hW (k_16) dX10_formattedByte_21 ?_
      refine lv_iload_n C.1 C.2.1 dX10_formattedByte_24 rfl (lv_at hl 1 rfl) ?_
      refine x_baldC C hW a_17 hf dX10_formattedByte_25 (fun hf => ?_)
      exact x_iret C hW dX10_formattedByte_26 (Option.some.inj hf)
    · refine lv_iconst (v := -1) C.1 C.2.1 dX10_formattedByte_15 (by decide) ?_
      exact x_iret C hW dX10_formattedByte_16 (Option.some.inj hf)
