abbrev cX10_load : ByteArray := prog_1_method_4_code
def yX10_load : MethodName := ⟨RX10, "load", "()I"⟩
theorem dX10_load_0 : decode cX10_load 0 = .ok (.aload_n 0, 1) := by decide +kernel
theorem dX10_load_1 : decode cX10_load 1 = .ok (.getfield 10, 3) := by decide +kernel
theorem dX10_load_4 : decode cX10_load 4 = .ok (.aload_n 0, 1) := by decide +kernel
theorem dX10_load_5 : decode cX10_load 5 = .ok (.getfield 47, 3) := by decide +kernel
theorem dX10_load_8 : decode cX10_load 8 = .ok (.invokestatic 66, 3) := by decide +kernel
theorem dX10_load_11 : decode cX10_load 11 = .ok (.istore_n 1, 1) := by decide +kernel
theorem dX10_load_12 : decode cX10_load 12 = .ok (.aload_n 0, 1) := by decide +kernel
theorem dX10_load_13 : decode cX10_load 13 = .ok (.getfield 10, 3) := by decide +kernel
theorem dX10_load_16 : decode cX10_load 16 = .ok (.iconst 0, 1) := by decide +kernel
theorem dX10_load_17 : decode cX10_load 17 = .ok (.putfield 58, 3) := by decide +kernel
theorem dX10_load_20 : decode cX10_load 20 = .ok (.iload_n 1, 1) := by decide +kernel
theorem dX10_load_21 : decode cX10_load 21 = .ok (.ifCond .ne 13, 3) := by decide +kernel
theorem dX10_load_24 : decode cX10_load 24 = .ok (.new 72, 3) := by decide +kernel
theorem dX10_load_27 : decode cX10_load 27 = .ok (.dup, 1) := by decide +kernel
theorem dX10_load_28 : decode cX10_load 28 = .ok (.ldc 74, 2) := by decide +kernel
theorem dX10_load_30 : decode cX10_load 30 = .ok (.invokespecial 76, 3) := by decide +kernel
theorem dX10_load_33 : decode cX10_load 33 = .ok (.athrow, 1) := by decide +kernel
theorem dX10_load_34 : decode cX10_load 34 = .ok (.aload_n 0, 1) := by decide +kernel
theorem dX10_load_35 : decode cX10_load 35 = .ok (.aload_n 0, 1) := by decide +kernel
theorem dX10_load_36 : decode cX10_load 36 = .ok (.getfield 19, 3) := by decide +kernel
theorem dX10_load_39 : decode cX10_load 39 = .ok (.aload_n 0, 1) := by decide +kernel
theorem dX10_load_40 : decode cX10_load 40 = .ok (.getfield 47, 3) := by decide +kernel
theorem dX10_load_43 : decode cX10_load 43 = .ok (.invokevirtual 79, 3) := by decide +kernel
theorem dX10_load_46 : decode cX10_load 46 = .ok (.putfield 47, 3) := by decide +kernel
theorem dX10_load_49 : decode cX10_load 49 = .ok (.aload_n 0, 1) := by decide +kernel
theorem dX10_load_50 : decode cX10_load 50 = .ok (.getfield 26, 3) := by decide +kernel
theorem dX10_load_53 : decode cX10_load 53 = .ok (.iconst 0, 1) := by decide +kernel
theorem dX10_load_54 : decode cX10_load 54 = .ok (.putfield 83, 3) := by decide +kernel
theorem dX10_load_57 : decode cX10_load 57 = .ok (.aload_n 0, 1) := by decide +kernel
theorem dX10_load_58 : decode cX10_load 58 = .ok (.getfield 19, 3) := by decide +kernel
theorem dX10_load_61 : decode cX10_load 61 = .ok (.getfield 86, 3) := by decide +kernel
theorem dX10_load_64 : decode cX10_load 64 = .ok (.getfield 89, 3) := by decide +kernel
theorem dX10_load_67 : decode cX10_load 67 = .ok (.ireturn, 1) := by decide +kernel
theorem ci_X10_load : Cond.instanceMethod yX10_load ∈ TW := TW_of 837 (by decide +kernel) (by decide +kernel)
theorem cs_X10_load : Cond.selects yX10_load.cls yX10_load yX10_load ∈ TW := TW_of 838 (by decide +kernel) (by decide +kernel)
abbrev cX10_requireWord : ByteArray := prog_1_method_50_code
def yX10_requireWord : MethodName := ⟨RX10, "requireWord", "(I)V"⟩
theorem dX10_requireWord_0 : decode cX10_requireWord 0 = .ok (.iload_n 1, 1) := by decide +kernel
theorem dX10_requireWord_1 : decode cX10_requireWord 1 = .ok (.ifCond .lt 17, 3) := by decide +kernel
theorem dX10_requireWord_4 : decode cX10_requireWord 4 = .ok (.iload_n 1, 1) := by decide +kernel
theorem dX10_requireWord_5 : decode cX10_requireWord 5 = .ok (.aload_n 0, 1) := by decide +kernel
theorem dX10_requireWord_6 : decode cX10_requireWord 6 = .ok (.getfield 19, 3) := by decide +kernel
theorem dX10_requireWord_9 : decode cX10_requireWord 9 = .ok (.getfield 86, 3) := by decide +kernel
theorem dX10_requireWord_12 : decode cX10_requireWord 12 = .ok (.getfield 89, 3) := by decide +kernel
theorem dX10_requireWord_15 : decode cX10_requireWord 15 = .ok (.if_icmp .lt 14, 3) := by decide +kernel
theorem dX10_requireWord_18 : decode cX10_requireWord 18 = .ok (.new 352, 3) := by decide +kernel
theorem dX10_requireWord_21 : decode cX10_requireWord 21 = .ok (.dup, 1) := by decide +kernel
theorem dX10_requireWord_22 : decode cX10_requireWord 22 = .ok (.ldc_w 354, 3) := by decide +kernel
theorem dX10_requireWord_25 : decode cX10_requireWord 25 = .ok (.invokespecial 356, 3) := by decide +kernel
theorem dX10_requireWord_28 : decode cX10_requireWord 28 = .ok (.athrow, 1) := by decide +kernel
theorem dX10_requireWord_29 : decode cX10_requireWord 29 = .ok (.return_, 1) := by decide +kernel
theorem ci_X10_requireWord : Cond.instanceMethod yX10_requireWord ∈ TW := TW_of 1007 (by decide +kernel) (by decide +kernel)
theorem cs_X10_requireWord : Cond.selects yX10_requireWord.cls yX10_requireWord yX10_requireWord ∈ TW := TW_of 8 (by decide +kernel) (by decide +kernel)
abbrev cX10_wordField : ByteArray := prog_1_method_9_code
def yX10_wordField : MethodName := ⟨RX10, "wordField", "(II)I"⟩
theorem dX10_wordField_0 : decode cX10_wordField 0 = .ok (.aload_n 0, 1) := by decide +kernel
theorem dX10_wordField_1 : decode cX10_wordField 1 = .ok (.iload_n 1, 1) := by decide +kernel
theorem dX10_wordField_2 : decode cX10_wordField 2 = .ok (.invokevirtual 128, 3) := by decide +kernel
theorem dX10_wordField_5 : decode cX10_wordField 5 = .ok (.aload_n 0, 1) := by decide +kernel
theorem dX10_wordField_6 : decode cX10_wordField 6 = .ok (.getfield 19, 3) := by decide +kernel
theorem dX10_wordField_9 : decode cX10_wordField 9 = .ok (.getfield 86, 3) := by decide +kernel
theorem dX10_wordField_12 : decode cX10_wordField 12 = .ok (.astore_n 3, 1) := by decide +kernel
theorem dX10_wordField_13 : decode cX10_wordField 13 = .ok (.iload_n 2, 1) := by decide +kernel
theorem dX10_wordField_14 : decode cX10_wordField 14 = .ok (.tableswitch 81 0 5 #[38, 45, 52, 59, 66, 75], 38) := by decide +kernel
theorem dX10_wordField_52 : decode cX10_wordField 52 = .ok (.aload_n 3, 1) := by decide +kernel
theorem dX10_wordField_53 : decode cX10_wordField 53 = .ok (.getfield 131, 3) := by decide +kernel
theorem dX10_wordField_56 : decode cX10_wordField 56 = .ok (.iload_n 1, 1) := by decide +kernel
theorem dX10_wordField_57 : decode cX10_wordField 57 = .ok (.iaload, 1) := by decide +kernel
theorem dX10_wordField_58 : decode cX10_wordField 58 = .ok (.ireturn, 1) := by decide +kernel
theorem dX10_wordField_59 : decode cX10_wordField 59 = .ok (.aload_n 3, 1) := by decide +kernel
theorem dX10_wordField_60 : decode cX10_wordField 60 = .ok (.getfield 135, 3) := by decide +kernel
theorem dX10_wordField_63 : decode cX10_wordField 63 = .ok (.iload_n 1, 1) := by decide +kernel
theorem dX10_wordField_64 : decode cX10_wordField 64 = .ok (.iaload, 1) := by decide +kernel
theorem dX10_wordField_65 : decode cX10_wordField 65 = .ok (.ireturn, 1) := by decide +kernel
theorem dX10_wordField_66 : decode cX10_wordField 66 = .ok (.aload_n 3, 1) := by decide +kernel
theorem dX10_wordField_67 : decode cX10_wordField 67 = .ok (.getfield 138, 3) := by decide +kernel
theorem dX10_wordField_70 : decode cX10_wordField 70 = .ok (.iload_n 1, 1) := by decide +kernel
theorem dX10_wordField_71 : decode cX10_wordField 71 = .ok (.iaload, 1) := by decide +kernel
theorem dX10_wordField_72 : decode cX10_wordField 72 = .ok (.ireturn, 1) := by decide +kernel
theorem dX10_wordField_73 : decode cX10_wordField 73 = .ok (.aload_n 3, 1) := by decide +kernel
theorem dX10_wordField_74 : decode cX10_wordField 74 = .ok (.getfield 141, 3) := by decide +kernel
theorem dX10_wordField_77 : decode cX10_wordField 77 = .ok (.iload_n 1, 1) := by decide +kernel
theorem dX10_wordField_78 : decode cX10_wordField 78 = .ok (.iaload, 1) := by decide +kernel
theorem dX10_wordField_79 : decode cX10_wordField 79 = .ok (.ireturn, 1) := by decide +kernel
theorem dX10_wordField_80 : decode cX10_wordField 80 = .ok (.aload_n 0, 1) := by decide +kernel
theorem dX10_wordField_81 : decode cX10_wordField 81 = .ok (.getfield 19, 3) := by decide +kernel
theorem dX10_wordField_84 : decode cX10_wordField 84 = .ok (.iload_n 1, 1) := by decide +kernel
theorem dX10_wordField_85 : decode cX10_wordField 85 = .ok (.invokevirtual 144, 3) := by decide +kernel
theorem dX10_wordField_88 : decode cX10_wordField 88 = .ok (.ireturn, 1) := by decide +kernel
theorem dX10_wordField_89 : decode cX10_wordField 89 = .ok (.aload_n 3, 1) := by decide +kernel
theorem dX10_wordField_90 : decode cX10_wordField 90 = .ok (.iload_n 1, 1) := by decide +kernel
theorem dX10_wordField_91 : decode cX10_wordField 91 = .ok (.invokevirtual 148, 3) := by decide +kernel
theorem dX10_wordField_94 : decode cX10_wordField 94 = .ok (.ireturn, 1) := by decide +kernel
theorem dX10_wordField_95 : decode cX10_wordField 95 = .ok (.iconst (-1), 1) := by decide +kernel
theorem dX10_wordField_96 : decode cX10_wordField 96 = .ok (.ireturn, 1) := by decide +kernel
theorem ci_X10_wordField : Cond.instanceMethod yX10_wordField ∈ TW := TW_of 1002 (by decide +kernel) (by decide +kernel)
theorem cs_X10_wordField : Cond.selects yX10_wordField.cls yX10_wordField yX10_wordField ∈ TW := TW_of 1003 (by decide +kernel) (by decide +kernel)
abbrev cX10_requireBlock : ByteArray := prog_1_method_51_code
def yX10_requireBlock : MethodName := ⟨RX10, "requireBlock", "(I)V"⟩
theorem dX10_requireBlock_0 : decode cX10_requireBlock 0 = .ok (.iload_n 1, 1) := by decide +kernel
theorem dX10_requireBlock_1 : decode cX10_requireBlock 1 = .ok (.ifCond .lt 17, 3) := by decide +kernel
theorem dX10_requireBlock_4 : decode cX10_requireBlock 4 = .ok (.iload_n 1, 1) := by decide +kernel
theorem dX10_requireBlock_5 : decode cX10_requireBlock 5 = .ok (.aload_n 0, 1) := by decide +kernel
theorem dX10_requireBlock_6 : decode cX10_requireBlock 6 = .ok (.getfield 19, 3) := by decide +kernel
theorem dX10_requireBlock_9 : decode cX10_requireBlock 9 = .ok (.getfield 86, 3) := by decide +kernel
theorem dX10_requireBlock_12 : decode cX10_requireBlock 12 = .ok (.getfield 119, 3) := by decide +kernel
theorem dX10_requireBlock_15 : decode cX10_requireBlock 15 = .ok (.if_icmp .lt 14, 3) := by decide +kernel
theorem dX10_requireBlock_18 : decode cX10_requireBlock 18 = .ok (.new 352, 3) := by decide +kernel
theorem dX10_requireBlock_21 : decode cX10_requireBlock 21 = .ok (.dup, 1) := by decide +kernel
theorem dX10_requireBlock_22 : decode cX10_requireBlock 22 = .ok (.ldc_w 357, 3) := by decide +kernel
theorem dX10_requireBlock_25 : decode cX10_requireBlock 25 = .ok (.invokespecial 356, 3) := by decide +kernel
theorem dX10_requireBlock_28 : decode cX10_requireBlock 28 = .ok (.athrow, 1) := by decide +kernel
theorem dX10_requireBlock_29 : decode cX10_requireBlock 29 = .ok (.return_, 1) := by decide +kernel
theorem ci_X10_requireBlock : Cond.instanceMethod yX10_requireBlock ∈ TW := TW_of 1043 (by decide +kernel) (by decide +kernel)
theorem cs_X10_requireBlock : Cond.selects yX10_requireBlock.cls yX10_requireBlock yX10_requireBlock ∈ TW := TW_of 9 (by decide +kernel) (by decide +kernel)
abbrev cX10_blockField : ByteArray := prog_1_method_13_code
def yX10_blockField : MethodName := ⟨RX10, "blockField", "(II)I"⟩
theorem dX10_blockField_0 : decode cX10_blockField 0 = .ok (.aload_n 0, 1) := by decide +kernel
theorem dX10_blockField_1 : decode cX10_blockField 1 = .ok (.iload_n 1, 1) := by decide +kernel
theorem dX10_blockField_2 : decode cX10_blockField 2 = .ok (.invokevirtual 162, 3) := by decide +kernel
theorem dX10_blockField_5 : decode cX10_blockField 5 = .ok (.aload_n 0, 1) := by decide +kernel
theorem dX10_blockField_6 : decode cX10_blockField 6 = .ok (.getfield 19, 3) := by decide +kernel
theorem dX10_blockField_9 : decode cX10_blockField 9 = .ok (.getfield 86, 3) := by decide +kernel
theorem dX10_blockField_12 : decode cX10_blockField 12 = .ok (.astore_n 3, 1) := by decide +kernel
theorem dX10_blockField_13 : decode cX10_blockField 13 = .ok (.iload_n 2, 1) := by decide +kernel
theorem dX10_blockField_14 : decode cX10_blockField 14 = .ok (.tableswitch 138 0 8 #[50, 57, 64, 80, 89, 95, 102, 115, 128], 50) := by decide +kernel
theorem dX10_blockField_64 : decode cX10_blockField 64 = .ok (.aload_n 3, 1) := by decide +kernel
theorem dX10_blockField_65 : decode cX10_blockField 65 = .ok (.getfield 165, 3) := by decide +kernel
theorem dX10_blockField_68 : decode cX10_blockField 68 = .ok (.iload_n 1, 1) := by decide +kernel
theorem dX10_blockField_69 : decode cX10_blockField 69 = .ok (.iaload, 1) := by decide +kernel
theorem dX10_blockField_70 : decode cX10_blockField 70 = .ok (.ireturn, 1) := by decide +kernel
theorem dX10_blockField_71 : decode cX10_blockField 71 = .ok (.aload_n 3, 1) := by decide +kernel
theorem dX10_blockField_72 : decode cX10_blockField 72 = .ok (.getfield 168, 3) := by decide +kernel
theorem dX10_blockField_75 : decode cX10_blockField 75 = .ok (.iload_n 1, 1) := by decide +kernel
theorem dX10_blockField_76 : decode cX10_blockField 76 = .ok (.iaload, 1) := by decide +kernel
theorem dX10_blockField_77 : decode cX10_blockField 77 = .ok (.ireturn, 1) := by decide +kernel
theorem dX10_blockField_78 : decode cX10_blockField 78 = .ok (.aload_n 3, 1) := by decide +kernel
theorem dX10_blockField_79 : decode cX10_blockField 79 = .ok (.getfield 171, 3) := by decide +kernel
theorem dX10_blockField_82 : decode cX10_blockField 82 = .ok (.iload_n 1, 1) := by decide +kernel
theorem dX10_blockField_83 : decode cX10_blockField 83 = .ok (.iconst 1, 1) := by decide +kernel
theorem dX10_blockField_84 : decode cX10_blockField 84 = .ok (.iadd, 1) := by decide +kernel
theorem dX10_blockField_85 : decode cX10_blockField 85 = .ok (.iaload, 1) := by decide +kernel
theorem dX10_blockField_86 : decode cX10_blockField 86 = .ok (.aload_n 3, 1) := by decide +kernel
theorem dX10_blockField_87 : decode cX10_blockField 87 = .ok (.getfield 171, 3) := by decide +kernel
theorem dX10_blockField_90 : decode cX10_blockField 90 = .ok (.iload_n 1, 1) := by decide +kernel
theorem dX10_blockField_91 : decode cX10_blockField 91 = .ok (.iaload, 1) := by decide +kernel
theorem dX10_blockField_92 : decode cX10_blockField 92 = .ok (.isub, 1) := by decide +kernel
theorem dX10_blockField_93 : decode cX10_blockField 93 = .ok (.ireturn, 1) := by decide +kernel
theorem dX10_blockField_94 : decode cX10_blockField 94 = .ok (.aload_n 0, 1) := by decide +kernel
theorem dX10_blockField_95 : decode cX10_blockField 95 = .ok (.getfield 19, 3) := by decide +kernel
theorem dX10_blockField_98 : decode cX10_blockField 98 = .ok (.iload_n 1, 1) := by decide +kernel
theorem dX10_blockField_99 : decode cX10_blockField 99 = .ok (.invokevirtual 174, 3) := by decide +kernel
theorem dX10_blockField_102 : decode cX10_blockField 102 = .ok (.ireturn, 1) := by decide +kernel
theorem dX10_blockField_103 : decode cX10_blockField 103 = .ok (.aload_n 3, 1) := by decide +kernel
theorem dX10_blockField_104 : decode cX10_blockField 104 = .ok (.iload_n 1, 1) := by decide +kernel
theorem dX10_blockField_105 : decode cX10_blockField 105 = .ok (.invokevirtual 177, 3) := by decide +kernel
theorem dX10_blockField_108 : decode cX10_blockField 108 = .ok (.ireturn, 1) := by decide +kernel
theorem dX10_blockField_109 : decode cX10_blockField 109 = .ok (.aload_n 3, 1) := by decide +kernel
theorem dX10_blockField_110 : decode cX10_blockField 110 = .ok (.getfield 180, 3) := by decide +kernel
theorem dX10_blockField_113 : decode cX10_blockField 113 = .ok (.iload_n 1, 1) := by decide +kernel
theorem dX10_blockField_114 : decode cX10_blockField 114 = .ok (.iaload, 1) := by decide +kernel
theorem dX10_blockField_115 : decode cX10_blockField 115 = .ok (.ireturn, 1) := by decide +kernel
theorem dX10_blockField_116 : decode cX10_blockField 116 = .ok (.aload_n 0, 1) := by decide +kernel
theorem dX10_blockField_117 : decode cX10_blockField 117 = .ok (.getfield 19, 3) := by decide +kernel
theorem dX10_blockField_120 : decode cX10_blockField 120 = .ok (.getfield 183, 3) := by decide +kernel
theorem dX10_blockField_123 : decode cX10_blockField 123 = .ok (.getfield 187, 3) := by decide +kernel
theorem dX10_blockField_126 : decode cX10_blockField 126 = .ok (.iload_n 1, 1) := by decide +kernel
theorem dX10_blockField_127 : decode cX10_blockField 127 = .ok (.iaload, 1) := by decide +kernel
theorem dX10_blockField_128 : decode cX10_blockField 128 = .ok (.ireturn, 1) := by decide +kernel
theorem dX10_blockField_129 : decode cX10_blockField 129 = .ok (.aload_n 0, 1) := by decide +kernel
theorem dX10_blockField_130 : decode cX10_blockField 130 = .ok (.getfield 19, 3) := by decide +kernel
theorem dX10_blockField_133 : decode cX10_blockField 133 = .ok (.getfield 183, 3) := by decide +kernel
theorem dX10_blockField_136 : decode cX10_blockField 136 = .ok (.getfield 192, 3) := by decide +kernel
theorem dX10_blockField_139 : decode cX10_blockField 139 = .ok (.iload_n 1, 1) := by decide +kernel
theorem dX10_blockField_140 : decode cX10_blockField 140 = .ok (.iaload, 1) := by decide +kernel
theorem dX10_blockField_141 : decode cX10_blockField 141 = .ok (.ireturn, 1) := by decide +kernel
theorem dX10_blockField_142 : decode cX10_blockField 142 = .ok (.aload_n 0, 1) := by decide +kernel
theorem dX10_blockField_143 : decode cX10_blockField 143 = .ok (.getfield 19, 3) := by decide +kernel
theorem dX10_blockField_146 : decode cX10_blockField 146 = .ok (.getfield 195, 3) := by decide +kernel
theorem dX10_blockField_149 : decode cX10_blockField 149 = .ok (.iload_n 1, 1) := by decide +kernel
theorem dX10_blockField_150 : decode cX10_blockField 150 = .ok (.iaload, 1) := by decide +kernel
theorem dX10_blockField_151 : decode cX10_blockField 151 = .ok (.ireturn, 1) := by decide +kernel
theorem dX10_blockField_152 : decode cX10_blockField 152 = .ok (.iconst (-1), 1) := by decide +kernel
theorem dX10_blockField_153 : decode cX10_blockField 153 = .ok (.ireturn, 1) := by decide +kernel
theorem ci_X10_blockField : Cond.instanceMethod yX10_blockField ∈ TW := TW_of 1038 (by decide +kernel) (by decide +kernel)
theorem cs_X10_blockField : Cond.selects yX10_blockField.cls yX10_blockField yX10_blockField ∈ TW := TW_of 1039 (by decide +kernel) (by decide +kernel)
abbrev cX10_requireShot : ByteArray := prog_1_method_53_code
def yX10_requireShot : MethodName := ⟨RX10, "requireShot", "(I)V"⟩
theorem dX10_requireShot_0 : decode cX10_requireShot 0 = .ok (.iload_n 1, 1) := by decide +kernel
theorem dX10_requireShot_1 : decode cX10_requireShot 1 = .ok (.ifCond .lt 17, 3) := by decide +kernel
theorem dX10_requireShot_4 : decode cX10_requireShot 4 = .ok (.iload_n 1, 1) := by decide +kernel
theorem dX10_requireShot_5 : decode cX10_requireShot 5 = .ok (.aload_n 0, 1) := by decide +kernel
theorem dX10_requireShot_6 : decode cX10_requireShot 6 = .ok (.getfield 19, 3) := by decide +kernel
theorem dX10_requireShot_9 : decode cX10_requireShot 9 = .ok (.getfield 183, 3) := by decide +kernel
theorem dX10_requireShot_12 : decode cX10_requireShot 12 = .ok (.getfield 208, 3) := by decide +kernel
theorem dX10_requireShot_15 : decode cX10_requireShot 15 = .ok (.if_icmp .lt 14, 3) := by decide +kernel
theorem dX10_requireShot_18 : decode cX10_requireShot 18 = .ok (.new 352, 3) := by decide +kernel
theorem dX10_requireShot_21 : decode cX10_requireShot 21 = .ok (.dup, 1) := by decide +kernel
theorem dX10_requireShot_22 : decode cX10_requireShot 22 = .ok (.ldc_w 361, 3) := by decide +kernel
theorem dX10_requireShot_25 : decode cX10_requireShot 25 = .ok (.invokespecial 356, 3) := by decide +kernel
theorem dX10_requireShot_28 : decode cX10_requireShot 28 = .ok (.athrow, 1) := by decide +kernel
theorem dX10_requireShot_29 : decode cX10_requireShot 29 = .ok (.return_, 1) := by decide +kernel
theorem ci_X10_requireShot : Cond.instanceMethod yX10_requireShot ∈ TW := TW_of 1060 (by decide +kernel) (by decide +kernel)
theorem cs_X10_requireShot : Cond.selects yX10_requireShot.cls yX10_requireShot yX10_requireShot ∈ TW := TW_of 10 (by decide +kernel) (by decide +kernel)
abbrev cX10_blockOf : ByteArray := prog_1_method_18_code
def yX10_blockOf : MethodName := ⟨RX10, "blockOf", "(I)I"⟩
theorem dX10_blockOf_0 : decode cX10_blockOf 0 = .ok (.aload_n 0, 1) := by decide +kernel
theorem dX10_blockOf_1 : decode cX10_blockOf 1 = .ok (.iload_n 1, 1) := by decide +kernel
theorem dX10_blockOf_2 : decode cX10_blockOf 2 = .ok (.invokevirtual 211, 3) := by decide +kernel
theorem dX10_blockOf_5 : decode cX10_blockOf 5 = .ok (.aload_n 0, 1) := by decide +kernel
theorem dX10_blockOf_6 : decode cX10_blockOf 6 = .ok (.getfield 19, 3) := by decide +kernel
theorem dX10_blockOf_9 : decode cX10_blockOf 9 = .ok (.getfield 183, 3) := by decide +kernel
theorem dX10_blockOf_12 : decode cX10_blockOf 12 = .ok (.getfield 214, 3) := by decide +kernel
theorem dX10_blockOf_15 : decode cX10_blockOf 15 = .ok (.iload_n 1, 1) := by decide +kernel
theorem dX10_blockOf_16 : decode cX10_blockOf 16 = .ok (.iaload, 1) := by decide +kernel
theorem dX10_blockOf_17 : decode cX10_blockOf 17 = .ok (.ireturn, 1) := by decide +kernel
theorem ci_X10_blockOf : Cond.instanceMethod yX10_blockOf ∈ TW := TW_of 1055 (by decide +kernel) (by decide +kernel)
theorem cs_X10_blockOf : Cond.selects yX10_blockOf.cls yX10_blockOf yX10_blockOf ∈ TW := TW_of 1056 (by decide +kernel) (by decide +kernel)
abbrev cX10_shotField : ByteArray := prog_1_method_19_code
def yX10_shotField : MethodName := ⟨RX10, "shotField", "(II)I"⟩
theorem dX10_shotField_0 : decode cX10_shotField 0 = .ok (.aload_n 0, 1) := by decide +kernel
theorem dX10_shotField_1 : decode cX10_shotField 1 = .ok (.iload_n 1, 1) := by decide +kernel
theorem dX10_shotField_2 : decode cX10_shotField 2 = .ok (.invokevirtual 211, 3) := by decide +kernel
theorem dX10_shotField_5 : decode cX10_shotField 5 = .ok (.iload_n 2, 1) := by decide +kernel
theorem dX10_shotField_6 : decode cX10_shotField 6 = .ok (.tableswitch 56 0 2 #[26, 36, 46], 26) := by decide +kernel
theorem dX10_shotField_32 : decode cX10_shotField 32 = .ok (.aload_n 0, 1) := by decide +kernel
theorem dX10_shotField_33 : decode cX10_shotField 33 = .ok (.getfield 19, 3) := by decide +kernel
theorem dX10_shotField_36 : decode cX10_shotField 36 = .ok (.getfield 217, 3) := by decide +kernel
theorem dX10_shotField_39 : decode cX10_shotField 39 = .ok (.iload_n 1, 1) := by decide +kernel
theorem dX10_shotField_40 : decode cX10_shotField 40 = .ok (.iaload, 1) := by decide +kernel
theorem dX10_shotField_41 : decode cX10_shotField 41 = .ok (.ireturn, 1) := by decide +kernel
theorem dX10_shotField_42 : decode cX10_shotField 42 = .ok (.aload_n 0, 1) := by decide +kernel
theorem dX10_shotField_43 : decode cX10_shotField 43 = .ok (.getfield 19, 3) := by decide +kernel
theorem dX10_shotField_46 : decode cX10_shotField 46 = .ok (.getfield 220, 3) := by decide +kernel
theorem dX10_shotField_49 : decode cX10_shotField 49 = .ok (.iload_n 1, 1) := by decide +kernel
theorem dX10_shotField_50 : decode cX10_shotField 50 = .ok (.iaload, 1) := by decide +kernel
theorem dX10_shotField_51 : decode cX10_shotField 51 = .ok (.ireturn, 1) := by decide +kernel
theorem dX10_shotField_52 : decode cX10_shotField 52 = .ok (.aload_n 0, 1) := by decide +kernel
theorem dX10_shotField_53 : decode cX10_shotField 53 = .ok (.getfield 19, 3) := by decide +kernel
theorem dX10_shotField_56 : decode cX10_shotField 56 = .ok (.getfield 223, 3) := by decide +kernel
theorem dX10_shotField_59 : decode cX10_shotField 59 = .ok (.iload_n 1, 1) := by decide +kernel
theorem dX10_shotField_60 : decode cX10_shotField 60 = .ok (.iaload, 1) := by decide +kernel
theorem dX10_shotField_61 : decode cX10_shotField 61 = .ok (.ireturn, 1) := by decide +kernel
theorem dX10_shotField_62 : decode cX10_shotField 62 = .ok (.iconst (-1), 1) := by decide +kernel
theorem dX10_shotField_63 : decode cX10_shotField 63 = .ok (.ireturn, 1) := by decide +kernel
theorem ci_X10_shotField : Cond.instanceMethod yX10_shotField ∈ TW := TW_of 1064 (by decide +kernel) (by decide +kernel)
theorem cs_X10_shotField : Cond.selects yX10_shotField.cls yX10_shotField yX10_shotField ∈ TW := TW_of 1065 (by decide +kernel) (by decide +kernel)
abbrev cX10_placeOf : ByteArray := prog_1_method_30_code
def yX10_placeOf : MethodName := ⟨RX10, "placeOf", "(I)I"⟩
theorem dX10_placeOf_0 : decode cX10_placeOf 0 = .ok (.aload_n 0, 1) := by decide +kernel
theorem dX10_placeOf_1 : decode cX10_placeOf 1 = .ok (.iload_n 1, 1) := by decide +kernel
theorem dX10_placeOf_2 : decode cX10_placeOf 2 = .ok (.invokevirtual 128, 3) := by decide +kernel
theorem dX10_placeOf_5 : decode cX10_placeOf 5 = .ok (.aload_n 0, 1) := by decide +kernel
theorem dX10_placeOf_6 : decode cX10_placeOf 6 = .ok (.getfield 19, 3) := by decide +kernel
theorem dX10_placeOf_9 : decode cX10_placeOf 9 = .ok (.getfield 263, 3) := by decide +kernel
theorem dX10_placeOf_12 : decode cX10_placeOf 12 = .ok (.iload_n 1, 1) := by decide +kernel
theorem dX10_placeOf_13 : decode cX10_placeOf 13 = .ok (.iaload, 1) := by decide +kernel
theorem dX10_placeOf_14 : decode cX10_placeOf 14 = .ok (.ireturn, 1) := by decide +kernel
theorem ci_X10_placeOf : Cond.instanceMethod yX10_placeOf ∈ TW := TW_of 1101 (by decide +kernel) (by decide +kernel)
theorem cs_X10_placeOf : Cond.selects yX10_placeOf.cls yX10_placeOf yX10_placeOf ∈ TW := TW_of 1102 (by decide +kernel) (by decide +kernel)
abbrev cX10_requirePlaces : ByteArray := prog_1_method_54_code
def yX10_requirePlaces : MethodName := ⟨RX10, "requirePlaces", "(II)V"⟩
theorem dX10_requirePlaces_0 : decode cX10_requirePlaces 0 = .ok (.iload_n 1, 1) := by decide +kernel
theorem dX10_requirePlaces_1 : decode cX10_requirePlaces 1 = .ok (.ifCond .lt 19, 3) := by decide +kernel
theorem dX10_requirePlaces_4 : decode cX10_requirePlaces 4 = .ok (.iload_n 2, 1) := by decide +kernel
theorem dX10_requirePlaces_5 : decode cX10_requirePlaces 5 = .ok (.iload_n 1, 1) := by decide +kernel
theorem dX10_requirePlaces_6 : decode cX10_requirePlaces 6 = .ok (.if_icmp .lt 14, 3) := by decide +kernel
theorem dX10_requirePlaces_9 : decode cX10_requirePlaces 9 = .ok (.iload_n 2, 1) := by decide +kernel
theorem dX10_requirePlaces_10 : decode cX10_requirePlaces 10 = .ok (.aload_n 0, 1) := by decide +kernel
theorem dX10_requirePlaces_11 : decode cX10_requirePlaces 11 = .ok (.getfield 19, 3) := by decide +kernel
theorem dX10_requirePlaces_14 : decode cX10_requirePlaces 14 = .ok (.getfield 257, 3) := by decide +kernel
theorem dX10_requirePlaces_17 : decode cX10_requirePlaces 17 = .ok (.if_icmp .lt 14, 3) := by decide +kernel
theorem dX10_requirePlaces_20 : decode cX10_requirePlaces 20 = .ok (.new 72, 3) := by decide +kernel
theorem dX10_requirePlaces_23 : decode cX10_requirePlaces 23 = .ok (.dup, 1) := by decide +kernel
theorem dX10_requirePlaces_24 : decode cX10_requirePlaces 24 = .ok (.ldc_w 363, 3) := by decide +kernel
theorem dX10_requirePlaces_27 : decode cX10_requirePlaces 27 = .ok (.invokespecial 76, 3) := by decide +kernel
theorem dX10_requirePlaces_30 : decode cX10_requirePlaces 30 = .ok (.athrow, 1) := by decide +kernel
theorem dX10_requirePlaces_31 : decode cX10_requirePlaces 31 = .ok (.return_, 1) := by decide +kernel
theorem ci_X10_requirePlaces : Cond.instanceMethod yX10_requirePlaces ∈ TW := TW_of 1126 (by decide +kernel) (by decide +kernel)
theorem cs_X10_requirePlaces : Cond.selects yX10_requirePlaces.cls yX10_requirePlaces yX10_requirePlaces ∈ TW := TW_of 12 (by decide +kernel) (by decide +kernel)
abbrev cX10_cut : ByteArray := prog_1_method_37_code
def yX10_cut : MethodName := ⟨RX10, "cut", "(II)I"⟩
theorem dX10_cut_0 : decode cX10_cut 0 = .ok (.aload_n 0, 1) := by decide +kernel
theorem dX10_cut_1 : decode cX10_cut 1 = .ok (.iload_n 1, 1) := by decide +kernel
theorem dX10_cut_2 : decode cX10_cut 2 = .ok (.iload_n 2, 1) := by decide +kernel
theorem dX10_cut_3 : decode cX10_cut 3 = .ok (.invokevirtual 275, 3) := by decide +kernel
theorem dX10_cut_6 : decode cX10_cut 6 = .ok (.aload_n 0, 1) := by decide +kernel
theorem dX10_cut_7 : decode cX10_cut 7 = .ok (.getfield 26, 3) := by decide +kernel
theorem dX10_cut_10 : decode cX10_cut 10 = .ok (.aload_n 0, 1) := by decide +kernel
theorem dX10_cut_11 : decode cX10_cut 11 = .ok (.getfield 19, 3) := by decide +kernel
theorem dX10_cut_14 : decode cX10_cut 14 = .ok (.getfield 183, 3) := by decide +kernel
theorem dX10_cut_17 : decode cX10_cut 17 = .ok (.invokevirtual 288, 3) := by decide +kernel
theorem dX10_cut_20 : decode cX10_cut 20 = .ok (.aload_n 0, 1) := by decide +kernel
theorem dX10_cut_21 : decode cX10_cut 21 = .ok (.getfield 19, 3) := by decide +kernel
theorem dX10_cut_24 : decode cX10_cut 24 = .ok (.getfield 226, 3) := by decide +kernel
theorem dX10_cut_27 : decode cX10_cut 27 = .ok (.istore_n 3, 1) := by decide +kernel
theorem dX10_cut_28 : decode cX10_cut 28 = .ok (.aload_n 0, 1) := by decide +kernel
theorem dX10_cut_29 : decode cX10_cut 29 = .ok (.getfield 19, 3) := by decide +kernel
theorem dX10_cut_32 : decode cX10_cut 32 = .ok (.iload_n 1, 1) := by decide +kernel
theorem dX10_cut_33 : decode cX10_cut 33 = .ok (.iload_n 2, 1) := by decide +kernel
theorem dX10_cut_34 : decode cX10_cut 34 = .ok (.invokevirtual 292, 3) := by decide +kernel
theorem dX10_cut_37 : decode cX10_cut 37 = .ok (.iload_n 3, 1) := by decide +kernel
theorem dX10_cut_38 : decode cX10_cut 38 = .ok (.aload_n 0, 1) := by decide +kernel
theorem dX10_cut_39 : decode cX10_cut 39 = .ok (.getfield 19, 3) := by decide +kernel
theorem dX10_cut_42 : decode cX10_cut 42 = .ok (.getfield 226, 3) := by decide +kernel
theorem dX10_cut_45 : decode cX10_cut 45 = .ok (.isub, 1) := by decide +kernel
theorem dX10_cut_46 : decode cX10_cut 46 = .ok (.ireturn, 1) := by decide +kernel
theorem ci_X10_cut : Cond.instanceMethod yX10_cut ∈ TW := TW_of 1147 (by decide +kernel) (by decide +kernel)
theorem cs_X10_cut : Cond.selects yX10_cut.cls yX10_cut yX10_cut ∈ TW := TW_of 1148 (by decide +kernel) (by decide +kernel)
abbrev cX10_cutWord : ByteArray := prog_1_method_38_code
def yX10_cutWord : MethodName := ⟨RX10, "cutWord", "(I)I"⟩
theorem dX10_cutWord_0 : decode cX10_cutWord 0 = .ok (.aload_n 0, 1) := by decide +kernel
theorem dX10_cutWord_1 : decode cX10_cutWord 1 = .ok (.iload_n 1, 1) := by decide +kernel
theorem dX10_cutWord_2 : decode cX10_cutWord 2 = .ok (.invokevirtual 128, 3) := by decide +kernel
theorem dX10_cutWord_5 : decode cX10_cutWord 5 = .ok (.aload_n 0, 1) := by decide +kernel
theorem dX10_cutWord_6 : decode cX10_cutWord 6 = .ok (.getfield 19, 3) := by decide +kernel
theorem dX10_cutWord_9 : decode cX10_cutWord 9 = .ok (.getfield 263, 3) := by decide +kernel
theorem dX10_cutWord_12 : decode cX10_cutWord 12 = .ok (.iload_n 1, 1) := by decide +kernel
theorem dX10_cutWord_13 : decode cX10_cutWord 13 = .ok (.iaload, 1) := by decide +kernel
theorem dX10_cutWord_14 : decode cX10_cutWord 14 = .ok (.istore_n 2, 1) := by decide +kernel
theorem dX10_cutWord_15 : decode cX10_cutWord 15 = .ok (.iload_n 2, 1) := by decide +kernel
theorem dX10_cutWord_16 : decode cX10_cutWord 16 = .ok (.iconst (-1), 1) := by decide +kernel
theorem dX10_cutWord_17 : decode cX10_cutWord 17 = .ok (.if_icmp .ne 14, 3) := by decide +kernel
theorem dX10_cutWord_20 : decode cX10_cutWord 20 = .ok (.new 295, 3) := by decide +kernel
theorem dX10_cutWord_23 : decode cX10_cutWord 23 = .ok (.dup, 1) := by decide +kernel
theorem dX10_cutWord_24 : decode cX10_cutWord 24 = .ok (.ldc_w 297, 3) := by decide +kernel
theorem dX10_cutWord_27 : decode cX10_cutWord 27 = .ok (.invokespecial 299, 3) := by decide +kernel
theorem dX10_cutWord_30 : decode cX10_cutWord 30 = .ok (.athrow, 1) := by decide +kernel
theorem dX10_cutWord_31 : decode cX10_cutWord 31 = .ok (.aload_n 0, 1) := by decide +kernel
theorem dX10_cutWord_32 : decode cX10_cutWord 32 = .ok (.getfield 26, 3) := by decide +kernel
theorem dX10_cutWord_35 : decode cX10_cutWord 35 = .ok (.aload_n 0, 1) := by decide +kernel
theorem dX10_cutWord_36 : decode cX10_cutWord 36 = .ok (.getfield 19, 3) := by decide +kernel
theorem dX10_cutWord_39 : decode cX10_cutWord 39 = .ok (.getfield 183, 3) := by decide +kernel
theorem dX10_cutWord_42 : decode cX10_cutWord 42 = .ok (.invokevirtual 288, 3) := by decide +kernel
theorem dX10_cutWord_45 : decode cX10_cutWord 45 = .ok (.aload_n 0, 1) := by decide +kernel
theorem dX10_cutWord_46 : decode cX10_cutWord 46 = .ok (.getfield 19, 3) := by decide +kernel
theorem dX10_cutWord_49 : decode cX10_cutWord 49 = .ok (.iload_n 2, 1) := by decide +kernel
theorem dX10_cutWord_50 : decode cX10_cutWord 50 = .ok (.iload_n 2, 1) := by decide +kernel
theorem dX10_cutWord_51 : decode cX10_cutWord 51 = .ok (.invokevirtual 292, 3) := by decide +kernel
theorem dX10_cutWord_54 : decode cX10_cutWord 54 = .ok (.aload_n 0, 1) := by decide +kernel
theorem dX10_cutWord_55 : decode cX10_cutWord 55 = .ok (.getfield 19, 3) := by decide +kernel
theorem dX10_cutWord_58 : decode cX10_cutWord 58 = .ok (.iload_n 1, 1) := by decide +kernel
theorem dX10_cutWord_59 : decode cX10_cutWord 59 = .ok (.invokevirtual 144, 3) := by decide +kernel
theorem dX10_cutWord_62 : decode cX10_cutWord 62 = .ok (.ireturn, 1) := by decide +kernel
theorem ci_X10_cutWord : Cond.instanceMethod yX10_cutWord ∈ TW := TW_of 1164 (by decide +kernel) (by decide +kernel)
theorem cs_X10_cutWord : Cond.selects yX10_cutWord.cls yX10_cutWord yX10_cutWord ∈ TW := TW_of 1165 (by decide +kernel) (by decide +kernel)
abbrev cX10_restore : ByteArray := prog_1_method_39_code
def yX10_restore : MethodName := ⟨RX10, "restore", "(II)I"⟩
theorem dX10_restore_0 : decode cX10_restore 0 = .ok (.aload_n 0, 1) := by decide +kernel
theorem dX10_restore_1 : decode cX10_restore 1 = .ok (.iload_n 1, 1) := by decide +kernel
theorem dX10_restore_2 : decode cX10_restore 2 = .ok (.invokevirtual 128, 3) := by decide +kernel
theorem dX10_restore_5 : decode cX10_restore 5 = .ok (.aload_n 0, 1) := by decide +kernel
theorem dX10_restore_6 : decode cX10_restore 6 = .ok (.iload_n 2, 1) := by decide +kernel
theorem dX10_restore_7 : decode cX10_restore 7 = .ok (.invokevirtual 128, 3) := by decide +kernel
theorem dX10_restore_10 : decode cX10_restore 10 = .ok (.iload_n 2, 1) := by decide +kernel
theorem dX10_restore_11 : decode cX10_restore 11 = .ok (.iload_n 1, 1) := by decide +kernel
theorem dX10_restore_12 : decode cX10_restore 12 = .ok (.if_icmp .ge 14, 3) := by decide +kernel
theorem dX10_restore_15 : decode cX10_restore 15 = .ok (.new 72, 3) := by decide +kernel
theorem dX10_restore_18 : decode cX10_restore 18 = .ok (.dup, 1) := by decide +kernel
theorem dX10_restore_19 : decode cX10_restore 19 = .ok (.ldc_w 300, 3) := by decide +kernel
theorem dX10_restore_22 : decode cX10_restore 22 = .ok (.invokespecial 76, 3) := by decide +kernel
theorem dX10_restore_25 : decode cX10_restore 25 = .ok (.athrow, 1) := by decide +kernel
theorem dX10_restore_26 : decode cX10_restore 26 = .ok (.aload_n 0, 1) := by decide +kernel
theorem dX10_restore_27 : decode cX10_restore 27 = .ok (.getfield 26, 3) := by decide +kernel
theorem dX10_restore_30 : decode cX10_restore 30 = .ok (.aload_n 0, 1) := by decide +kernel
theorem dX10_restore_31 : decode cX10_restore 31 = .ok (.getfield 19, 3) := by decide +kernel
theorem dX10_restore_34 : decode cX10_restore 34 = .ok (.getfield 183, 3) := by decide +kernel
theorem dX10_restore_37 : decode cX10_restore 37 = .ok (.invokevirtual 288, 3) := by decide +kernel
theorem dX10_restore_40 : decode cX10_restore 40 = .ok (.aload_n 0, 1) := by decide +kernel
theorem dX10_restore_41 : decode cX10_restore 41 = .ok (.getfield 19, 3) := by decide +kernel
theorem dX10_restore_44 : decode cX10_restore 44 = .ok (.iload_n 1, 1) := by decide +kernel
theorem dX10_restore_45 : decode cX10_restore 45 = .ok (.iload_n 2, 1) := by decide +kernel
theorem dX10_restore_46 : decode cX10_restore 46 = .ok (.invokevirtual 302, 3) := by decide +kernel
theorem dX10_restore_49 : decode cX10_restore 49 = .ok (.ireturn, 1) := by decide +kernel
theorem ci_X10_restore : Cond.instanceMethod yX10_restore ∈ TW := TW_of 1184 (by decide +kernel) (by decide +kernel)
theorem cs_X10_restore : Cond.selects yX10_restore.cls yX10_restore yX10_restore ∈ TW := TW_of 1185 (by decide +kernel) (by decide +kernel)
abbrev cX10_move : ByteArray := prog_1_method_40_code
def yX10_move : MethodName := ⟨RX10, "move", "(III)I"⟩
theorem dX10_move_0 : decode cX10_move 0 = .ok (.aload_n 0, 1) := by decide +kernel
theorem dX10_move_1 : decode cX10_move 1 = .ok (.iload_n 1, 1) := by decide +kernel
theorem dX10_move_2 : decode cX10_move 2 = .ok (.invokevirtual 211, 3) := by decide +kernel
theorem dX10_move_5 : decode cX10_move 5 = .ok (.aload_n 0, 1) := by decide +kernel
theorem dX10_move_6 : decode cX10_move 6 = .ok (.iload_n 2, 1) := by decide +kernel
theorem dX10_move_7 : decode cX10_move 7 = .ok (.invokevirtual 211, 3) := by decide +kernel
theorem dX10_move_10 : decode cX10_move 10 = .ok (.iload_n 2, 1) := by decide +kernel
theorem dX10_move_11 : decode cX10_move 11 = .ok (.iload_n 1, 1) := by decide +kernel
theorem dX10_move_12 : decode cX10_move 12 = .ok (.if_icmp .ge 14, 3) := by decide +kernel
theorem dX10_move_15 : decode cX10_move 15 = .ok (.new 72, 3) := by decide +kernel
theorem dX10_move_18 : decode cX10_move 18 = .ok (.dup, 1) := by decide +kernel
theorem dX10_move_19 : decode cX10_move 19 = .ok (.ldc_w 305, 3) := by decide +kernel
theorem dX10_move_22 : decode cX10_move 22 = .ok (.invokespecial 76, 3) := by decide +kernel
theorem dX10_move_25 : decode cX10_move 25 = .ok (.athrow, 1) := by decide +kernel
theorem dX10_move_26 : decode cX10_move 26 = .ok (.iload_n 3, 1) := by decide +kernel
theorem dX10_move_27 : decode cX10_move 27 = .ok (.iconst (-1), 1) := by decide +kernel
theorem dX10_move_28 : decode cX10_move 28 = .ok (.if_icmp .lt 17, 3) := by decide +kernel
theorem dX10_move_31 : decode cX10_move 31 = .ok (.iload_n 3, 1) := by decide +kernel
theorem dX10_move_32 : decode cX10_move 32 = .ok (.aload_n 0, 1) := by decide +kernel
theorem dX10_move_33 : decode cX10_move 33 = .ok (.getfield 19, 3) := by decide +kernel
theorem dX10_move_36 : decode cX10_move 36 = .ok (.getfield 183, 3) := by decide +kernel
theorem dX10_move_39 : decode cX10_move 39 = .ok (.getfield 208, 3) := by decide +kernel
theorem dX10_move_42 : decode cX10_move 42 = .ok (.if_icmp .lt 14, 3) := by decide +kernel
theorem dX10_move_45 : decode cX10_move 45 = .ok (.new 72, 3) := by decide +kernel
theorem dX10_move_48 : decode cX10_move 48 = .ok (.dup, 1) := by decide +kernel
theorem dX10_move_49 : decode cX10_move 49 = .ok (.ldc_w 307, 3) := by decide +kernel
theorem dX10_move_52 : decode cX10_move 52 = .ok (.invokespecial 76, 3) := by decide +kernel
theorem dX10_move_55 : decode cX10_move 55 = .ok (.athrow, 1) := by decide +kernel
theorem dX10_move_56 : decode cX10_move 56 = .ok (.iload_n 3, 1) := by decide +kernel
theorem dX10_move_57 : decode cX10_move 57 = .ok (.iload_n 1, 1) := by decide +kernel
theorem dX10_move_58 : decode cX10_move 58 = .ok (.if_icmp .lt 19, 3) := by decide +kernel
theorem dX10_move_61 : decode cX10_move 61 = .ok (.iload_n 3, 1) := by decide +kernel
theorem dX10_move_62 : decode cX10_move 62 = .ok (.iload_n 2, 1) := by decide +kernel
theorem dX10_move_63 : decode cX10_move 63 = .ok (.if_icmp .gt 14, 3) := by decide +kernel
theorem dX10_move_66 : decode cX10_move 66 = .ok (.new 72, 3) := by decide +kernel
theorem dX10_move_69 : decode cX10_move 69 = .ok (.dup, 1) := by decide +kernel
theorem dX10_move_70 : decode cX10_move 70 = .ok (.ldc_w 309, 3) := by decide +kernel
theorem dX10_move_73 : decode cX10_move 73 = .ok (.invokespecial 76, 3) := by decide +kernel
theorem dX10_move_76 : decode cX10_move 76 = .ok (.athrow, 1) := by decide +kernel
theorem dX10_move_77 : decode cX10_move 77 = .ok (.aload_n 0, 1) := by decide +kernel
theorem dX10_move_78 : decode cX10_move 78 = .ok (.getfield 26, 3) := by decide +kernel
theorem dX10_move_81 : decode cX10_move 81 = .ok (.aload_n 0, 1) := by decide +kernel
theorem dX10_move_82 : decode cX10_move 82 = .ok (.getfield 19, 3) := by decide +kernel
theorem dX10_move_85 : decode cX10_move 85 = .ok (.getfield 183, 3) := by decide +kernel
theorem dX10_move_88 : decode cX10_move 88 = .ok (.invokevirtual 288, 3) := by decide +kernel
theorem dX10_move_91 : decode cX10_move 91 = .ok (.aload_n 0, 1) := by decide +kernel
theorem dX10_move_92 : decode cX10_move 92 = .ok (.getfield 19, 3) := by decide +kernel
theorem dX10_move_95 : decode cX10_move 95 = .ok (.iload_n 1, 1) := by decide +kernel
theorem dX10_move_96 : decode cX10_move 96 = .ok (.iload_n 2, 1) := by decide +kernel
theorem dX10_move_97 : decode cX10_move 97 = .ok (.iload_n 3, 1) := by decide +kernel
theorem dX10_move_98 : decode cX10_move 98 = .ok (.invokevirtual 311, 3) := by decide +kernel
theorem dX10_move_101 : decode cX10_move 101 = .ok (.ireturn, 1) := by decide +kernel
theorem ci_X10_move : Cond.instanceMethod yX10_move ∈ TW := TW_of 1205 (by decide +kernel) (by decide +kernel)
theorem cs_X10_move : Cond.selects yX10_move.cls yX10_move yX10_move ∈ TW := TW_of 1206 (by decide +kernel) (by decide +kernel)
abbrev cX10_setHandles : ByteArray := prog_1_method_41_code
def yX10_setHandles : MethodName := ⟨RX10, "setHandles", "(III)I"⟩
theorem dX10_setHandles_0 : decode cX10_setHandles 0 = .ok (.aload_n 0, 1) := by decide +kernel
theorem dX10_setHandles_1 : decode cX10_setHandles 1 = .ok (.iload_n 1, 1) := by decide +kernel
theorem dX10_setHandles_2 : decode cX10_setHandles 2 = .ok (.invokevirtual 162, 3) := by decide +kernel
theorem dX10_setHandles_5 : decode cX10_setHandles 5 = .ok (.iload_n 2, 1) := by decide +kernel
theorem dX10_setHandles_6 : decode cX10_setHandles 6 = .ok (.ifCond .lt 21, 3) := by decide +kernel
theorem dX10_setHandles_9 : decode cX10_setHandles 9 = .ok (.iload_n 2, 1) := by decide +kernel
theorem dX10_setHandles_10 : decode cX10_setHandles 10 = .ok (.sipush 999, 3) := by decide +kernel
theorem dX10_setHandles_13 : decode cX10_setHandles 13 = .ok (.if_icmp .gt 14, 3) := by decide +kernel
theorem dX10_setHandles_16 : decode cX10_setHandles 16 = .ok (.iload_n 3, 1) := by decide +kernel
theorem dX10_setHandles_17 : decode cX10_setHandles 17 = .ok (.ifCond .lt 10, 3) := by decide +kernel
theorem dX10_setHandles_20 : decode cX10_setHandles 20 = .ok (.iload_n 3, 1) := by decide +kernel
theorem dX10_setHandles_21 : decode cX10_setHandles 21 = .ok (.sipush 999, 3) := by decide +kernel
theorem dX10_setHandles_24 : decode cX10_setHandles 24 = .ok (.if_icmp .le 14, 3) := by decide +kernel
theorem dX10_setHandles_27 : decode cX10_setHandles 27 = .ok (.new 72, 3) := by decide +kernel
theorem dX10_setHandles_30 : decode cX10_setHandles 30 = .ok (.dup, 1) := by decide +kernel
theorem dX10_setHandles_31 : decode cX10_setHandles 31 = .ok (.ldc_w 315, 3) := by decide +kernel
theorem dX10_setHandles_34 : decode cX10_setHandles 34 = .ok (.invokespecial 76, 3) := by decide +kernel
theorem dX10_setHandles_37 : decode cX10_setHandles 37 = .ok (.athrow, 1) := by decide +kernel
theorem dX10_setHandles_38 : decode cX10_setHandles 38 = .ok (.aload_n 0, 1) := by decide +kernel
theorem dX10_setHandles_39 : decode cX10_setHandles 39 = .ok (.getfield 26, 3) := by decide +kernel
theorem dX10_setHandles_42 : decode cX10_setHandles 42 = .ok (.aload_n 0, 1) := by decide +kernel
theorem dX10_setHandles_43 : decode cX10_setHandles 43 = .ok (.getfield 19, 3) := by decide +kernel
theorem dX10_setHandles_46 : decode cX10_setHandles 46 = .ok (.getfield 183, 3) := by decide +kernel
theorem dX10_setHandles_49 : decode cX10_setHandles 49 = .ok (.invokevirtual 288, 3) := by decide +kernel
theorem dX10_setHandles_52 : decode cX10_setHandles 52 = .ok (.aload_n 0, 1) := by decide +kernel
theorem dX10_setHandles_53 : decode cX10_setHandles 53 = .ok (.getfield 19, 3) := by decide +kernel
theorem dX10_setHandles_56 : decode cX10_setHandles 56 = .ok (.getfield 183, 3) := by decide +kernel
theorem dX10_setHandles_59 : decode cX10_setHandles 59 = .ok (.getfield 187, 3) := by decide +kernel
theorem dX10_setHandles_62 : decode cX10_setHandles 62 = .ok (.iload_n 1, 1) := by decide +kernel
theorem dX10_setHandles_63 : decode cX10_setHandles 63 = .ok (.iload_n 2, 1) := by decide +kernel
theorem dX10_setHandles_64 : decode cX10_setHandles 64 = .ok (.iastore, 1) := by decide +kernel
theorem dX10_setHandles_65 : decode cX10_setHandles 65 = .ok (.aload_n 0, 1) := by decide +kernel
theorem dX10_setHandles_66 : decode cX10_setHandles 66 = .ok (.getfield 19, 3) := by decide +kernel
theorem dX10_setHandles_69 : decode cX10_setHandles 69 = .ok (.getfield 183, 3) := by decide +kernel
theorem dX10_setHandles_72 : decode cX10_setHandles 72 = .ok (.getfield 192, 3) := by decide +kernel
theorem dX10_setHandles_75 : decode cX10_setHandles 75 = .ok (.iload_n 1, 1) := by decide +kernel
theorem dX10_setHandles_76 : decode cX10_setHandles 76 = .ok (.iload_n 3, 1) := by decide +kernel
theorem dX10_setHandles_77 : decode cX10_setHandles 77 = .ok (.iastore, 1) := by decide +kernel
theorem dX10_setHandles_78 : decode cX10_setHandles 78 = .ok (.aload_n 0, 1) := by decide +kernel
theorem dX10_setHandles_79 : decode cX10_setHandles 79 = .ok (.getfield 19, 3) := by decide +kernel
theorem dX10_setHandles_82 : decode cX10_setHandles 82 = .ok (.invokevirtual 317, 3) := by decide +kernel
theorem dX10_setHandles_85 : decode cX10_setHandles 85 = .ok (.aload_n 0, 1) := by decide +kernel
theorem dX10_setHandles_86 : decode cX10_setHandles 86 = .ok (.getfield 19, 3) := by decide +kernel
theorem dX10_setHandles_89 : decode cX10_setHandles 89 = .ok (.getfield 195, 3) := by decide +kernel
theorem dX10_setHandles_92 : decode cX10_setHandles 92 = .ok (.iload_n 1, 1) := by decide +kernel
theorem dX10_setHandles_93 : decode cX10_setHandles 93 = .ok (.iaload, 1) := by decide +kernel
theorem dX10_setHandles_94 : decode cX10_setHandles 94 = .ok (.istore 4, 2) := by decide +kernel
theorem dX10_setHandles_96 : decode cX10_setHandles 96 = .ok (.iload 4, 2) := by decide +kernel
theorem dX10_setHandles_98 : decode cX10_setHandles 98 = .ok (.iconst (-1), 1) := by decide +kernel
theorem dX10_setHandles_99 : decode cX10_setHandles 99 = .ok (.if_icmp .ne 7, 3) := by decide +kernel
theorem dX10_setHandles_102 : decode cX10_setHandles 102 = .ok (.iconst 0, 1) := by decide +kernel
theorem dX10_setHandles_103 : decode cX10_setHandles 103 = .ok (.goto 12, 3) := by decide +kernel
theorem dX10_setHandles_106 : decode cX10_setHandles 106 = .ok (.aload_n 0, 1) := by decide +kernel
theorem dX10_setHandles_107 : decode cX10_setHandles 107 = .ok (.getfield 19, 3) := by decide +kernel
theorem dX10_setHandles_110 : decode cX10_setHandles 110 = .ok (.iload 4, 2) := by decide +kernel
theorem dX10_setHandles_112 : decode cX10_setHandles 112 = .ok (.invokevirtual 320, 3) := by decide +kernel
theorem dX10_setHandles_115 : decode cX10_setHandles 115 = .ok (.ireturn, 1) := by decide +kernel
theorem ci_X10_setHandles : Cond.instanceMethod yX10_setHandles ∈ TW := TW_of 1217 (by decide +kernel) (by decide +kernel)
theorem cs_X10_setHandles : Cond.selects yX10_setHandles.cls yX10_setHandles yX10_setHandles ∈ TW := TW_of 1218 (by decide +kernel) (by decide +kernel)
theorem cw_X10_66 : CWd RX10 66 yX8_read cX8_read 3 (some .boolean) 2 := ⟨TW_of 840 (by decide +kernel) (by decide +kernel), TW_of 842 (by decide +kernel) (by decide +kernel), TW_of 42 (by decide +kernel) (by decide +kernel), by decide +kernel⟩
theorem cw_X10_79 : CWd RX10 79 yX1_exchangeRecording cX1_exchangeRecording 3 (some (.object "TranscriptCutter$Recording")) 1 := ⟨TW_of 968 (by decide +kernel) (by decide +kernel), TW_of 971 (by decide +kernel) (by decide +kernel), TW_of 18 (by decide +kernel) (by decide +kernel), by decide +kernel⟩
theorem cw_X10_128 : CWd RX10 128 yX10_requireWord cX10_requireWord 2 none 1 := ⟨TW_of 1005 (by decide +kernel) (by decide +kernel), TW_of 1008 (by decide +kernel) (by decide +kernel), TW_of 16 (by decide +kernel) (by decide +kernel), by decide +kernel⟩
theorem cw_X10_144 : CWd RX10 144 yX1_stateOf cX1_stateOf 2 (some .int) 1 := ⟨TW_of 1025 (by decide +kernel) (by decide +kernel), TW_of 1028 (by decide +kernel) (by decide +kernel), TW_of 18 (by decide +kernel) (by decide +kernel), by decide +kernel⟩
theorem cw_X10_148 : CWd RX10 148 yX4_countOverlapping cX4_countOverlapping 4 (some .int) 1 := ⟨TW_of 1029 (by decide +kernel) (by decide +kernel), TW_of 1032 (by decide +kernel) (by decide +kernel), TW_of 19 (by decide +kernel) (by decide +kernel), by decide +kernel⟩
theorem cw_X10_162 : CWd RX10 162 yX10_requireBlock cX10_requireBlock 2 none 1 := ⟨TW_of 1041 (by decide +kernel) (by decide +kernel), TW_of 1044 (by decide +kernel) (by decide +kernel), TW_of 16 (by decide +kernel) (by decide +kernel), by decide +kernel⟩
theorem cw_X10_174 : CWd RX10 174 yX1_countKept cX1_countKept 4 (some .int) 1 := ⟨TW_of 1046 (by decide +kernel) (by decide +kernel), TW_of 1049 (by decide +kernel) (by decide +kernel), TW_of 18 (by decide +kernel) (by decide +kernel), by decide +kernel⟩
theorem cw_X10_177 : CWd RX10 177 yX4_rangeStart cX4_rangeStart 2 (some .int) 1 := ⟨TW_of 1050 (by decide +kernel) (by decide +kernel), TW_of 1053 (by decide +kernel) (by decide +kernel), TW_of 19 (by decide +kernel) (by decide +kernel), by decide +kernel⟩
theorem cw_X10_211 : CWd RX10 211 yX10_requireShot cX10_requireShot 2 none 1 := ⟨TW_of 1058 (by decide +kernel) (by decide +kernel), TW_of 1061 (by decide +kernel) (by decide +kernel), TW_of 16 (by decide +kernel) (by decide +kernel), by decide +kernel⟩
theorem cw_X10_275 : CWd RX10 275 yX10_requirePlaces cX10_requirePlaces 3 none 2 := ⟨TW_of 1124 (by decide +kernel) (by decide +kernel), TW_of 1127 (by decide +kernel) (by decide +kernel), TW_of 16 (by decide +kernel) (by decide +kernel), by decide +kernel⟩
theorem cw_X10_288 : CWd RX10 288 yX3_record cX3_record 2 none 1 := ⟨TW_of 1150 (by decide +kernel) (by decide +kernel), TW_of 1153 (by decide +kernel) (by decide +kernel), TW_of 21 (by decide +kernel) (by decide +kernel), by decide +kernel⟩
theorem cw_X10_292 : CWd RX10 292 yX1_cutPlaces cX1_cutPlaces 5 none 2 := ⟨TW_of 1159 (by decide +kernel) (by decide +kernel), TW_of 1162 (by decide +kernel) (by decide +kernel), TW_of 18 (by decide +kernel) (by decide +kernel), by decide +kernel⟩
theorem cw_X10_302 : CWd RX10 302 yX1_keepAgain cX1_keepAgain 6 (some .int) 2 := ⟨TW_of 1188 (by decide +kernel) (by decide +kernel), TW_of 1191 (by decide +kernel) (by decide +kernel), TW_of 18 (by decide +kernel) (by decide +kernel), by decide +kernel⟩
theorem cw_X10_311 : CWd RX10 311 yX1_carryShots cX1_carryShots 8 (some .int) 3 := ⟨TW_of 1211 (by decide +kernel) (by decide +kernel), TW_of 1214 (by decide +kernel) (by decide +kernel), TW_of 18 (by decide +kernel) (by decide +kernel), by decide +kernel⟩
theorem cw_X10_317 : CWd RX10 317 yX1_layOut cX1_layOut 4 none 0 := ⟨TW_of 1221 (by decide +kernel) (by decide +kernel), TW_of 979 (by decide +kernel) (by decide +kernel), TW_of 18 (by decide +kernel) (by decide +kernel), by decide +kernel⟩
theorem cw_X10_320 : CWd RX10 320 yX1_framesOfShot cX1_framesOfShot 2 (some .int) 1 := ⟨TW_of 1222 (by decide +kernel) (by decide +kernel), TW_of 991 (by decide +kernel) (by decide +kernel), TW_of 18 (by decide +kernel) (by decide +kernel), by decide +kernel⟩
set_option maxRecDepth 20000 in
set_option maxHeartbeats 1000000 in
theorem c_X10_load {l : Launch} {Z : ZT} {g : va_W} {h : Hp} (hlt : l.stackTraces = false) {out : Nat × (Int32 × Hp)} (hf : f_X10_load h = some out) : vx_Met l yX10_load (wY yX10_load cX10_load 2 (some .int)) (rmC 11 (kn out.1)) (va_Pc [.ref (Z.1 0)] (Wd Z h g)) (va_Qi (fun r (_ : Unit) => out.1 = 0 ∧ r = out.2.1) (fun _ => Wd Z out.2.2 g) (FR Z)) (XX Z out.2.2 g out.1) (kn out.1) (6 * kn out.1) (FR Z) := by
  refine metXX RX10 rfl (by decide +kernel) (Nat.le_of_ble_eq_true rfl) ?_
  intro p e s m args below meth c C hex hW ls hl
  have hl : lv_has ls 2 [(0, .ref (Z.1 0))] := hl
  unfold f_X10_load at hf
  refine lv_aload_n C.1 C.2.1 dX10_load_0 rfl (lv_at hl 0 rfl) ?_
  refine xg_X10_10 C hW (k_0) dX10_load_1 ?_
  refine lv_aload_n C.1 C.2.1 dX10_load_4 rfl (lv_at hl 0 rfl) ?_
  refine xg_X10_47 C hW (k_0) hf dX10_load_5 (fun q1 hk_q1 hf => ?_)
  obtain ⟨u2, hcu2, hf⟩ := bnd_t hf
  refine x_calli hW (x_runS C hW hl (c_X8_read hk_q1 hcu2) (cw_X10_66) ct_X8_read (rm_okC (by decide) (by decide)) ⟨Nat.zero_le _, Nat.zero_le _⟩ (As := [.ref (Z.1 1), .ref (Z.1 q1)]) rfl rfl (Nat.le_of_ble_eq_true rfl) dX10_load_8) (fun H locs hW => ?_)
  refine lv_istore_n (lv' := [(1, .int u2.1), (0, .ref (Z.1 0))]) C.1 C.2.1 dX10_load_11 rfl hl (by decide) rfl (fun ls hl => ?_)
  refine lv_aload_n C.1 C.2.1 dX10_load_12 rfl (lv_at hl 1 rfl) ?_
  refine xg_X10_10 C hW (k_0) dX10_load_13 ?_
  refine lv_iconst (v := 0) C.1 C.2.1 dX10_load_16 (by decide) ?_
  refine xp_X10_58 C hW (k_1) hf dX10_load_17 (fun h3 H locs hf hW => ?_)
  refine lv_iload_n C.1 C.2.1 dX10_load_20 rfl (lv_at hl 0 rfl) ?_
  refine x_ifne (tgt := 34) C hf dX10_load_21 (by decide) (fun hf => ?_) (fun hf => ?_)
  · refine lv_aload_n C.1 C.2.1 dX10_load_34 rfl (lv_at hl 1 rfl) ?_
    refine lv_aload_n C.1 C.2.1 dX10_load_35 rfl (lv_at hl 1 rfl) ?_
    refine xg_X10_19 C hW (k_0) dX10_load_36 ?_
    refine lv_aload_n C.1 C.2.1 dX10_load_39 rfl (lv_at hl 1 rfl) ?_
    refine xg_X10_47 C hW (k_0) hf dX10_load_40 (fun q4 hk_q4 hf => ?_)
    obtain ⟨u5, hcu5, hf⟩ := bnd_t hf
    refine x_callr hW (x_runV C hW hl (wk1 (k_3)) rfl rfl (c_X1_exchangeRecording hk_q4 hcu5) (cw_X10_79) ci_X1_exchangeRecording cs_X1_exchangeRecording (rm_okC (by decide) (by decide)) ⟨Nat.zero_le _, Nat.zero_le _⟩ (As := [.ref (Z.1 q4)]) rfl rfl (Nat.le_of_ble_eq_true rfl) dX10_load_43) (fun H locs hW => ?_)
    obtain ⟨hq, hf⟩ := ck_t hf
    have hku5 := of_decide_eq_true hq
    refine xp_X10_47 C hW (k_0) hku5 hf dX10_load_46 (fun h6 H locs hf hW => ?_)
    refine lv_aload_n C.1 C.2.1 dX10_load_49 rfl (lv_at hl 1 rfl) ?_
    refine xg_X10_26 C hW (k_0) dX10_load_50 ?_
    refine lv_iconst (v := 0) C.1 C.2.1 dX10_load_53 (by decide) ?_
    refine xp_X10_83 C hW (k_13) hf dX10_load_54 (fun h7 H locs hf hW => ?_)
    refine lv_aload_n C.1 C.2.1 dX10_load_57 rfl (lv_at hl 1 rfl) ?_
    refine xg_X10_19 C hW (k_0) dX10_load_58 ?_
    refine xg_X10_86 C hW (k_3) hf dX10_load_61 (fun q8 hk_q8 hf => ?_)
    refine xg_X10_89 C hW hk_q8 dX10_load_64 ?_
    obtain rfl := Option.some.inj hf
    refine vx_ret ?_
    exact x_iret C hW dX10_load_67 ⟨rfl, rfl⟩
  · obtain rfl := Option.some.inj hf
    exact x_throw (tag := 2) C hex hlt hW hl (by decide) th_X10_76 ms_X10_74 dX10_load_24 dX10_load_27 dX10_load_28 dX10_load_30 dX10_load_33 (rm_thr (by decide)) (Nat.le_of_ble_eq_true rfl) (kn_thr (by show (2 : Nat) ≠ 0; decide)) (kn_thn (by show (2 : Nat) ≠ 0; decide))
set_option maxRecDepth 20000 in
set_option maxHeartbeats 1000000 in
theorem j_X10_requireWord_18 {l : Launch} {Z : ZT} {g : va_W} {h : Hp} {p1 : Int32} {p : Program} {e : Env} {s : State} {m : MethodId} {args : Array Value} {below : List Frame} {meth : Method} {c : Code} (C : CX p s m args meth c cX10_requireWord RX10 2 none Z g) {out : Nat × Int32} (hex : ∀ x ∈ c.exceptionTable.toList, False) (hlt : l.stackTraces = false) {ls : Array Slot} {H : Heap} {locs : List Loc} (hW : XW Z h g s.heap H locs) (hl : lv_has ls 2 [(0, .ref (Z.1 0)), (1, .int p1)]) (hf : J_X10_requireWord_18 h p1 = some out) : W p l e (rmC 8 (kn out.1)) s m args below meth c H locs 0 0 (vx_MQ below (va_Qv (fun (_ : Unit) => out.1 = 0) (fun _ => Wd Z h g) (FR Z)) (XX Z h g out.1) args s (kn out.1) (6 * kn out.1) (FR Z)) (F0 m 18 ls []) := by
  obtain rfl := Option.some.inj hf
  exact x_throwW (tag := 1) C hex hlt hW hl (by decide) th_X10_356 ms_X10_354 dX10_requireWord_18 dX10_requireWord_21 dX10_requireWord_22 dX10_requireWord_25 dX10_requireWord_28 (rm_thr (by decide)) (Nat.le_of_ble_eq_true rfl) (kn_thr (by show (1 : Nat) ≠ 0; decide)) (kn_thn (by show (1 : Nat) ≠ 0; decide))
set_option maxRecDepth 20000 in
set_option maxHeartbeats 1000000 in
theorem c_X10_requireWord {l : Launch} {Z : ZT} {g : va_W} {h : Hp} {p1 : Int32} (hlt : l.stackTraces = false) {out : Nat × Int32} (hf : f_X10_requireWord h p1 = some out) : vx_Met l yX10_requireWord (wY yX10_requireWord cX10_requireWord 2 none) (rmC 8 (kn out.1)) (va_Pc [.ref (Z.1 0), .int p1] (Wd Z h g)) (va_Qv (fun (_ : Unit) => out.1 = 0) (fun _ => Wd Z h g) (FR Z)) (XX Z h g out.1) (kn out.1) (6 * kn out.1) (FR Z) := by
  refine metXX RX10 rfl (by decide +kernel) (Nat.le_of_ble_eq_true rfl) ?_
  intro p e s m args below meth c C hex hW ls hl
  have hl : lv_has ls 2 [(0, .ref (Z.1 0)), (1, .int p1)] := hl
  unfold f_X10_requireWord at hf
  refine lv_iload_n C.1 C.2.1 dX10_requireWord_0 rfl (lv_at hl 1 rfl) ?_
  refine x_iflt (tgt := 18) C hf dX10_requireWord_1 (by decide) (fun hf => ?_) (fun hf => ?_)
  · exact j_X10_requireWord_18 C hex hlt hW (lv_sub hl [0, 1] rfl) hf
  · refine lv_iload_n C.1 C.2.1 dX10_requireWord_4 rfl (lv_at hl 1 rfl) ?_
    refine lv_aload_n C.1 C.2.1 dX10_requireWord_5 rfl (lv_at hl 0 rfl) ?_
    refine xg_X10_19 C hW (k_0) dX10_requireWord_6 ?_
    refine xg_X10_86 C hW (k_3) hf dX10_requireWord_9 (fun q1 hk_q1 hf => ?_)
    refine xg_X10_89 C hW hk_q1 dX10_requireWord_12 ?_
    refine x_cmplt (tgt := 29) C hf dX10_requireWord_15 (by decide) (fun hf => ?_) (fun hf => ?_)
    · obtain rfl := Option.some.inj hf
      refine vx_ret ?_
      exact x_vret C hW dX10_requireWord_29 rfl
    · exact j_X10_requireWord_18 C hex hlt hW (lv_sub hl [0, 1] rfl) hf
set_option maxRecDepth 20000 in
set_option maxHeartbeats 1000000 in
theorem c_X10_wordField {l : Launch} {Z : ZT} {g : va_W} {h : Hp} {p1 : Int32} {p2 : Int32} (hlt : l.stackTraces = false) {out : Nat × Int32} (hf : f_X10_wordField h p1 p2 = some out) : vx_Met l yX10_wordField (wY yX10_wordField cX10_wordField 4 (some .int)) (rmC 9 (kn out.1)) (va_Pc [.ref (Z.1 0), .int p1, .int p2] (Wd Z h g)) (va_Qi (fun r (_ : Unit) => out.1 = 0 ∧ r = out.2) (fun _ => Wd Z h g) (FR Z)) (XX Z h g out.1) (kn out.1) (6 * kn out.1) (FR Z) := by
  refine metXX RX10 rfl (by decide +kernel) (Nat.le_of_ble_eq_true rfl) ?_
  intro p e s m args below meth c C hex hW ls hl
  have hl : lv_has ls 4 [(0, .ref (Z.1 0)), (1, .int p1), (2, .int p2)] := hl
  unfold f_X10_wordField at hf
  refine lv_aload_n C.1 C.2.1 dX10_wordField_0 rfl (lv_at hl 0 rfl) ?_
  refine lv_iload_n C.1 C.2.1 dX10_wordField_1 rfl (lv_at hl 1 rfl) ?_
  obtain ⟨u1, hcu1, hf⟩ := bnd_t hf
  rcases Classical.em (u1.1 = 0) with hn | hn
  · have hf := (if_pos hn).symm.trans hf
    refine x_thN hW (x_runVx C hW hl (wk8 (k_0)) rfl rfl (c_X10_requireWord (out := u1) hlt hcu1) cw_X10_128 ci_X10_requireWord cs_X10_requireWord (rm_okX (by decide) (by decide)) (kn_z hn) (As := [.int p1]) rfl rfl (Nat.le_of_ble_eq_true rfl) dX10_wordField_2) hn (fun H locs hW => ?_)
    refine lv_aload_n C.1 C.2.1 dX10_wordField_5 rfl (lv_at hl 0 rfl) ?_
    refine xg_X10_19 C hW (k_0) dX10_wordField_6 ?_
    refine xg_X10_86 C hW (k_3) hf dX10_wordField_9 (fun q2 hk_q2 hf => ?_)
    refine lv_astore_n (lv' := [(3, .ref (Z.1 q2)), (0, .ref (Z.1 0)), (1, .int p1), (2, .int p2)]) C.1 C.2.1 dX10_wordField_12 rfl hl (by decide) rfl (fun ls hl => ?_)
    refine lv_iload_n C.1 C.2.1 dX10_wordField_13 rfl (lv_at hl 3 rfl) ?_
    rcases Classical.em (p2 = 0) with q0 | q0
    · rw [if_pos q0] at hf
      refine x_swin (tgt := 52) C q0 dX10_wordField_14 (by decide) (by decide) rfl (by decide) ?_
      refine lv_aload_n C.1 C.2.1 dX10_wordField_52 rfl (lv_at hl 0 rfl) ?_
      refine xg_X10_131 C hW hk_q2 dX10_wordField_53 ?_
      refine lv_iload_n C.1 C.2.1 dX10_wordField_56 rfl (lv_at hl 2 rfl) ?_
      refine x_ialdC C hW (o_X4_6 hk_q2) hf dX10_wordField_57 (fun hf => ?_)
      obtain rfl := Option.some.inj hf
      refine vx_ret ?_
      exact x_iret C hW dX10_wordField_58 ⟨rfl, rfl⟩
    · rw [if_neg q0] at hf
      rcases Classical.em (p2 = 1) with q1 | q1
      · rw [if_pos q1] at hf
        refine x_swin (tgt := 59) C q1 dX10_wordField_14 (by decide) (by decide) rfl (by decide) ?_
        refine lv_aload_n C.1 C.2.1 dX10_wordField_59 rfl (lv_at hl 0 rfl) ?_
        refine xg_X10_135 C hW hk_q2 dX10_wordField_60 ?_
        refine lv_iload_n C.1 C.2.1 dX10_wordField_63 rfl (lv_at hl 2 rfl) ?_
        refine x_ialdC C hW (o_X4_7 hk_q2) hf dX10_wordField_64 (fun hf => ?_)
        obtain rfl := Option.some.inj hf
        refine vx_ret ?_
        exact x_iret C hW dX10_wordField_65 ⟨rfl, rfl⟩
      · rw [if_neg q1] at hf
        rcases Classical.em (p2 = 2) with q2 | q2
        · rw [if_pos q2] at hf
          refine x_swin (tgt := 66) C q2 dX10_wordField_14 (by decide) (by decide) rfl (by decide) ?_
          refine lv_aload_n C.1 C.2.1 dX10_wordField_66 rfl (lv_at hl 0 rfl) ?_
          refine xg_X10_138 C hW hk_q2 dX10_wordField_67 ?_
          refine lv_iload_n C.1 C.2.1 dX10_wordField_70 rfl (lv_at hl 2 rfl) ?_
          refine x_ialdC C hW (o_X4_8 hk_q2) hf dX10_wordField_71 (fun hf => ?_)
          obtain rfl := Option.some.inj hf
          refine vx_ret ?_
          exact x_iret C hW dX10_wordField_72 ⟨rfl, rfl⟩
        · rw [if_neg q2] at hf
          rcases Classical.em (p2 = 3) with q3 | q3
          · rw [if_pos q3] at hf
            refine x_swin (tgt := 73) C q3 dX10_wordField_14 (by decide) (by decide) rfl (by decide) ?_
            refine lv_aload_n C.1 C.2.1 dX10_wordField_73 rfl (lv_at hl 0 rfl) ?_
            refine xg_X10_141 C hW hk_q2 dX10_wordField_74 ?_
            refine lv_iload_n C.1 C.2.1 dX10_wordField_77 rfl (lv_at hl 2 rfl) ?_
            refine x_ialdC C hW (o_X4_9 hk_q2) hf dX10_wordField_78 (fun hf => ?_)
            obtain rfl := Option.some.inj hf
            refine vx_ret ?_
            exact x_iret C hW dX10_wordField_79 ⟨rfl, rfl⟩
          · rw [if_neg q3] at hf
            rcases Classical.em (p2 = 4) with q4 | q4
            · rw [if_pos q4] at hf
              refine x_swin (tgt := 80) C q4 dX10_wordField_14 (by decide) (by decide) rfl (by decide) ?_
              refine lv_aload_n C.1 C.2.1 dX10_wordField_80 rfl (lv_at hl 1 rfl) ?_
              refine xg_X10_19 C hW (k_0) dX10_wordField_81 ?_
              refine lv_iload_n C.1 C.2.1 dX10_wordField_84 rfl (lv_at hl 2 rfl) ?_
              obtain ⟨u3, hcu3, hf⟩ := bnd_t hf
              refine x_calli hW (x_runV C hW hl (wk1 (k_3)) rfl rfl (c_X1_stateOf hcu3) (cw_X10_144) ci_X1_stateOf cs_X1_stateOf (rm_okC (by decide) (by decide)) ⟨Nat.zero_le _, Nat.zero_le _⟩ (As := [.int p1]) rfl rfl (Nat.le_of_ble_eq_true rfl) dX10_wordField_85) (fun H locs hW => ?_)
              obtain rfl := Option.some.inj hf
              refine vx_ret ?_
              exact x_iret C hW dX10_wordField_88 ⟨rfl, rfl⟩
            · rw [if_neg q4] at hf
              rcases Classical.em (p2 = 5) with q5 | q5
              · rw [if_pos q5] at hf
                refine x_swin (tgt := 89) C q5 dX10_wordField_14 (by decide) (by decide) rfl (by decide) ?_
                refine lv_aload_n C.1 C.2.1 dX10_wordField_89 rfl (lv_at hl 0 rfl) ?_
                refine lv_iload_n C.1 C.2.1 dX10_wordField_90 rfl (lv_at hl 2 rfl) ?_
                obtain ⟨u4, hcu4, hf⟩ := bnd_t hf
                refine x_calli hW (x_runV C hW hl (wk4 hk_q2) rfl rfl (c_X4_countOverlapping hk_q2 hcu4) (cw_X10_148) ci_X4_countOverlapping cs_X4_countOverlapping (rm_okC (by decide) (by decide)) ⟨Nat.zero_le _, Nat.zero_le _⟩ (As := [.int p1]) rfl rfl (Nat.le_of_ble_eq_true rfl) dX10_wordField_91) (fun H locs hW => ?_)
                obtain rfl := Option.some.inj hf
                refine vx_ret ?_
                exact x_iret C hW dX10_wordField_94 ⟨rfl, rfl⟩
              · rw [if_neg q5] at hf
                refine lv_tableOut (tgt := 95) C.1 C.2.1 dX10_wordField_14 (x_nN (n := 5) (fun k hk => by
                  rcases (show k = 0 ∨ k = 1 ∨ k = 2 ∨ k = 3 ∨ k = 4 ∨ k = 5 by omega) with rfl | rfl | rfl | rfl | rfl | rfl
                  · exact q0
                  · exact q1
                  · exact q2
                  · exact q3
                  · exact q4
                  · exact q5
                  ) (by decide)) (by decide) ?_
                refine lv_iconst (v := -1) C.1 C.2.1 dX10_wordField_95 (by decide) ?_
                obtain rfl := Option.some.inj hf
                refine vx_ret ?_
                exact x_iret C hW dX10_wordField_96 ⟨rfl, rfl⟩
  · obtain rfl := Option.some.inj ((if_neg hn).symm.trans hf)
    exact x_thE C hex hW (x_runVx C hW hl (wk8 (k_0)) rfl rfl (c_X10_requireWord (out := u1) hlt hcu1) cw_X10_128 ci_X10_requireWord cs_X10_requireWord (rm_okX (by decide) (by decide)) kn_s (As := [.int p1]) rfl rfl (Nat.le_of_ble_eq_true rfl) dX10_wordField_2) hn kn_n
set_option maxRecDepth 20000 in
set_option maxHeartbeats 1000000 in
theorem j_X10_requireBlock_18 {l : Launch} {Z : ZT} {g : va_W} {h : Hp} {p1 : Int32} {p : Program} {e : Env} {s : State} {m : MethodId} {args : Array Value} {below : List Frame} {meth : Method} {c : Code} (C : CX p s m args meth c cX10_requireBlock RX10 2 none Z g) {out : Nat × Int32} (hex : ∀ x ∈ c.exceptionTable.toList, False) (hlt : l.stackTraces = false) {ls : Array Slot} {H : Heap} {locs : List Loc} (hW : XW Z h g s.heap H locs) (hl : lv_has ls 2 [(0, .ref (Z.1 0)), (1, .int p1)]) (hf : J_X10_requireBlock_18 h p1 = some out) : W p l e (rmC 8 (kn out.1)) s m args below meth c H locs 0 0 (vx_MQ below (va_Qv (fun (_ : Unit) => out.1 = 0) (fun _ => Wd Z h g) (FR Z)) (XX Z h g out.1) args s (kn out.1) (6 * kn out.1) (FR Z)) (F0 m 18 ls []) := by
  obtain rfl := Option.some.inj hf
  exact x_throwW (tag := 1) C hex hlt hW hl (by decide) th_X10_356 ms_X10_357 dX10_requireBlock_18 dX10_requireBlock_21 dX10_requireBlock_22 dX10_requireBlock_25 dX10_requireBlock_28 (rm_thr (by decide)) (Nat.le_of_ble_eq_true rfl) (kn_thr (by show (1 : Nat) ≠ 0; decide)) (kn_thn (by show (1 : Nat) ≠ 0; decide))
set_option maxRecDepth 20000 in
set_option maxHeartbeats 1000000 in
theorem c_X10_requireBlock {l : Launch} {Z : ZT} {g : va_W} {h : Hp} {p1 : Int32} (hlt : l.stackTraces = false) {out : Nat × Int32} (hf : f_X10_requireBlock h p1 = some out) : vx_Met l yX10_requireBlock (wY yX10_requireBlock cX10_requireBlock 2 none) (rmC 8 (kn out.1)) (va_Pc [.ref (Z.1 0), .int p1] (Wd Z h g)) (va_Qv (fun (_ : Unit) => out.1 = 0) (fun _ => Wd Z h g) (FR Z)) (XX Z h g out.1) (kn out.1) (6 * kn out.1) (FR Z) := by
  refine metXX RX10 rfl (by decide +kernel) (Nat.le_of_ble_eq_true rfl) ?_
  intro p e s m args below meth c C hex hW ls hl
  have hl : lv_has ls 2 [(0, .ref (Z.1 0)), (1, .int p1)] := hl
  unfold f_X10_requireBlock at hf
  refine lv_iload_n C.1 C.2.1 dX10_requireBlock_0 rfl (lv_at hl 1 rfl) ?_
  refine x_iflt (tgt := 18) C hf dX10_requireBlock_1 (by decide) (fun hf => ?_) (fun hf => ?_)
  · exact j_X10_requireBlock_18 C hex hlt hW (lv_sub hl [0, 1] rfl) hf
  · refine lv_iload_n C.1 C.2.1 dX10_requireBlock_4 rfl (lv_at hl 1 rfl) ?_
    refine lv_aload_n C.1 C.2.1 dX10_requireBlock_5 rfl (lv_at hl 0 rfl) ?_
    refine xg_X10_19 C hW (k_0) dX10_requireBlock_6 ?_
    refine xg_X10_86 C hW (k_3) hf dX10_requireBlock_9 (fun q1 hk_q1 hf => ?_)
    refine xg_X10_119 C hW hk_q1 dX10_requireBlock_12 ?_
    refine x_cmplt (tgt := 29) C hf dX10_requireBlock_15 (by decide) (fun hf => ?_) (fun hf => ?_)
    · obtain rfl := Option.some.inj hf
      refine vx_ret ?_
      exact x_vret C hW dX10_requireBlock_29 rfl
    · exact j_X10_requireBlock_18 C hex hlt hW (lv_sub hl [0, 1] rfl) hf
set_option maxRecDepth 20000 in
set_option maxHeartbeats 1000000 in
theorem c_X10_blockField {l : Launch} {Z : ZT} {g : va_W} {h : Hp} {p1 : Int32} {p2 : Int32} (hlt : l.stackTraces = false) {out : Nat × Int32} (hf : f_X10_blockField h p1 p2 = some out) : vx_Met l yX10_blockField (wY yX10_blockField cX10_blockField 4 (some .int)) (rmC 9 (kn out.1)) (va_Pc [.ref (Z.1 0), .int p1, .int p2] (Wd Z h g)) (va_Qi (fun r (_ : Unit) => out.1 = 0 ∧ r = out.2) (fun _ => Wd Z h g) (FR Z)) (XX Z h g out.1) (kn out.1) (6 * kn out.1) (FR Z) := by
  refine metXX RX10 rfl (by decide +kernel) (Nat.le_of_ble_eq_true rfl) ?_
  intro p e s m args below meth c C hex hW ls hl
  have hl : lv_has ls 4 [(0, .ref (Z.1 0)), (1, .int p1), (2, .int p2)] := hl
  unfold f_X10_blockField at hf
  refine lv_aload_n C.1 C.2.1 dX10_blockField_0 rfl (lv_at hl 0 rfl) ?_
  refine lv_iload_n C.1 C.2.1 dX10_blockField_1 rfl (lv_at hl 1 rfl) ?_
  obtain ⟨u1, hcu1, hf⟩ := bnd_t hf
  rcases Classical.em (u1.1 = 0) with hn | hn
  · have hf := (if_pos hn).symm.trans hf
    refine x_thN hW (x_runVx C hW hl (wk8 (k_0)) rfl rfl (c_X10_requireBlock (out := u1) hlt hcu1) cw_X10_162 ci_X10_requireBlock cs_X10_requireBlock (rm_okX (by decide) (by decide)) (kn_z hn) (As := [.int p1]) rfl rfl (Nat.le_of_ble_eq_true rfl) dX10_blockField_2) hn (fun H locs hW => ?_)
    refine lv_aload_n C.1 C.2.1 dX10_blockField_5 rfl (lv_at hl 0 rfl) ?_
    refine xg_X10_19 C hW (k_0) dX10_blockField_6 ?_
    refine xg_X10_86 C hW (k_3) hf dX10_blockField_9 (fun q2 hk_q2 hf => ?_)
    refine lv_astore_n (lv' := [(3, .ref (Z.1 q2)), (0, .ref (Z.1 0)), (1, .int p1), (2, .int p2)]) C.1 C.2.1 dX10_blockField_12 rfl hl (by decide) rfl (fun ls hl => ?_)
    refine lv_iload_n C.1 C.2.1 dX10_blockField_13 rfl (lv_at hl 3 rfl) ?_
    rcases Classical.em (p2 = 0) with q0 | q0
    · rw [if_pos q0] at hf
      refine x_swin (tgt := 64) C q0 dX10_blockField_14 (by decide) (by decide) rfl (by decide) ?_
      refine lv_aload_n C.1 C.2.1 dX10_blockField_64 rfl (lv_at hl 0 rfl) ?_
      refine xg_X10_165 C hW hk_q2 dX10_blockField_65 ?_
      refine lv_iload_n C.1 C.2.1 dX10_blockField_68 rfl (lv_at hl 2 rfl) ?_
      refine x_ialdC C hW (o_X4_15 hk_q2) hf dX10_blockField_69 (fun hf => ?_)
      obtain rfl := Option.some.inj hf
      refine vx_ret ?_
      exact x_iret C hW dX10_blockField_70 ⟨rfl, rfl⟩
    · rw [if_neg q0] at hf
      rcases Classical.em (p2 = 1) with q1 | q1
      · rw [if_pos q1] at hf
        refine x_swin (tgt := 71) C q1 dX10_blockField_14 (by decide) (by decide) rfl (by decide) ?_
        refine lv_aload_n C.1 C.2.1 dX10_blockField_71 rfl (lv_at hl 0 rfl) ?_
        refine xg_X10_168 C hW hk_q2 dX10_blockField_72 ?_
        refine lv_iload_n C.1 C.2.1 dX10_blockField_75 rfl (lv_at hl 2 rfl) ?_
        refine x_ialdC C hW (o_X4_16 hk_q2) hf dX10_blockField_76 (fun hf => ?_)
        obtain rfl := Option.some.inj hf
        refine vx_ret ?_
        exact x_iret C hW dX10_blockField_77 ⟨rfl, rfl⟩
      · rw [if_neg q1] at hf
        rcases Classical.em (p2 = 2) with q2 | q2
        · rw [if_pos q2] at hf
          refine x_swin (tgt := 78) C q2 dX10_blockField_14 (by decide) (by decide) rfl (by decide) ?_
          refine lv_aload_n C.1 C.2.1 dX10_blockField_78 rfl (lv_at hl 0 rfl) ?_
          refine xg_X10_171 C hW hk_q2 dX10_blockField_79 ?_
          refine lv_iload_n C.1 C.2.1 dX10_blockField_82 rfl (lv_at hl 2 rfl) ?_
          refine lv_iconst (v := 1) C.1 C.2.1 dX10_blockField_83 (by decide) ?_
          refine lv_iadd C.1 C.2.1 dX10_blockField_84 ?_
          refine x_ialdC C hW (o_X4_14 hk_q2) hf dX10_blockField_85 (fun hf => ?_)
          refine lv_aload_n C.1 C.2.1 dX10_blockField_86 rfl (lv_at hl 0 rfl) ?_
          refine xg_X10_171 C hW hk_q2 dX10_blockField_87 ?_
          refine lv_iload_n C.1 C.2.1 dX10_blockField_90 rfl (lv_at hl 2 rfl) ?_
          refine x_ialdC C hW (o_X4_14 hk_q2) hf dX10_blockField_91 (fun hf => ?_)
          refine lv_isub C.1 C.2.1 dX10_blockField_92 ?_
          obtain rfl := Option.some.inj hf
          refine vx_ret ?_
          exact x_iret C hW dX10_blockField_93 ⟨rfl, rfl⟩
        · rw [if_neg q2] at hf
          rcases Classical.em (p2 = 3) with q3 | q3
          · rw [if_pos q3] at hf
            refine x_swin (tgt := 94) C q3 dX10_blockField_14 (by decide) (by decide) rfl (by decide) ?_
            refine lv_aload_n C.1 C.2.1 dX10_blockField_94 rfl (lv_at hl 1 rfl) ?_
            refine xg_X10_19 C hW (k_0) dX10_blockField_95 ?_
            refine lv_iload_n C.1 C.2.1 dX10_blockField_98 rfl (lv_at hl 2 rfl) ?_
            obtain ⟨u3, hcu3, hf⟩ := bnd_t hf
            refine x_calli hW (x_runV C hW hl (wk1 (k_3)) rfl rfl (c_X1_countKept hcu3) (cw_X10_174) ci_X1_countKept cs_X1_countKept (rm_okC (by decide) (by decide)) ⟨Nat.zero_le _, Nat.zero_le _⟩ (As := [.int p1]) rfl rfl (Nat.le_of_ble_eq_true rfl) dX10_blockField_99) (fun H locs hW => ?_)
            obtain rfl := Option.some.inj hf
            refine vx_ret ?_
            exact x_iret C hW dX10_blockField_102 ⟨rfl, rfl⟩
          · rw [if_neg q3] at hf
            rcases Classical.em (p2 = 4) with q4 | q4
            · rw [if_pos q4] at hf
              refine x_swin (tgt := 103) C q4 dX10_blockField_14 (by decide) (by decide) rfl (by decide) ?_
              refine lv_aload_n C.1 C.2.1 dX10_blockField_103 rfl (lv_at hl 0 rfl) ?_
              refine lv_iload_n C.1 C.2.1 dX10_blockField_104 rfl (lv_at hl 2 rfl) ?_
              obtain ⟨u4, hcu4, hf⟩ := bnd_t hf
              refine x_calli hW (x_runV C hW hl (wk4 hk_q2) rfl rfl (c_X4_rangeStart hk_q2 hcu4) (cw_X10_177) ci_X4_rangeStart cs_X4_rangeStart (rm_okC (by decide) (by decide)) ⟨Nat.zero_le _, Nat.zero_le _⟩ (As := [.int p1]) rfl rfl (Nat.le_of_ble_eq_true rfl) dX10_blockField_105) (fun H locs hW => ?_)
              obtain rfl := Option.some.inj hf
              refine vx_ret ?_
              exact x_iret C hW dX10_blockField_108 ⟨rfl, rfl⟩
            · rw [if_neg q4] at hf
              rcases Classical.em (p2 = 5) with q5 | q5
              · rw [if_pos q5] at hf
                refine x_swin (tgt := 109) C q5 dX10_blockField_14 (by decide) (by decide) rfl (by decide) ?_
                refine lv_aload_n C.1 C.2.1 dX10_blockField_109 rfl (lv_at hl 0 rfl) ?_
                refine xg_X10_180 C hW hk_q2 dX10_blockField_110 ?_
                refine lv_iload_n C.1 C.2.1 dX10_blockField_113 rfl (lv_at hl 2 rfl) ?_
                refine x_ialdC C hW (o_X4_17 hk_q2) hf dX10_blockField_114 (fun hf => ?_)
                obtain rfl := Option.some.inj hf
                refine vx_ret ?_
                exact x_iret C hW dX10_blockField_115 ⟨rfl, rfl⟩
              · rw [if_neg q5] at hf
                rcases Classical.em (p2 = 6) with q6 | q6
                · rw [if_pos q6] at hf
                  refine x_swin (tgt := 116) C q6 dX10_blockField_14 (by decide) (by decide) rfl (by decide) ?_
                  refine lv_aload_n C.1 C.2.1 dX10_blockField_116 rfl (lv_at hl 1 rfl) ?_
                  refine xg_X10_19 C hW (k_0) dX10_blockField_117 ?_
                  refine xg_X10_183 C hW (k_3) dX10_blockField_120 ?_
                  refine xg_X10_187 C hW (k_18) dX10_blockField_123 ?_
                  refine lv_iload_n C.1 C.2.1 dX10_blockField_126 rfl (lv_at hl 2 rfl) ?_
                  refine x_ialdC C hW (o_X0_3 (by decide)) hf dX10_blockField_127 (fun hf => ?_)
                  obtain rfl := Option.some.inj hf
                  refine vx_ret ?_
                  exact x_iret C hW dX10_blockField_128 ⟨rfl, rfl⟩
                · rw [if_neg q6] at hf
                  rcases Classical.em (p2 = 7) with q7 | q7
                  · rw [if_pos q7] at hf
                    refine x_swin (tgt := 129) C q7 dX10_blockField_14 (by decide) (by decide) rfl (by decide) ?_
                    refine lv_aload_n C.1 C.2.1 dX10_blockField_129 rfl (lv_at hl 1 rfl) ?_
                    refine xg_X10_19 C hW (k_0) dX10_blockField_130 ?_
                    refine xg_X10_183 C hW (k_3) dX10_blockField_133 ?_
                    refine xg_X10_192 C hW (k_18) dX10_blockField_136 ?_
                    refine lv_iload_n C.1 C.2.1 dX10_blockField_139 rfl (lv_at hl 2 rfl) ?_
                    refine x_ialdC C hW (o_X0_4 (by decide)) hf dX10_blockField_140 (fun hf => ?_)
                    obtain rfl := Option.some.inj hf
                    refine vx_ret ?_
                    exact x_iret C hW dX10_blockField_141 ⟨rfl, rfl⟩
                  · rw [if_neg q7] at hf
                    rcases Classical.em (p2 = 8) with q8 | q8
                    · rw [if_pos q8] at hf
                      refine x_swin (tgt := 142) C q8 dX10_blockField_14 (by decide) (by decide) rfl (by decide) ?_
                      refine lv_aload_n C.1 C.2.1 dX10_blockField_142 rfl (lv_at hl 1 rfl) ?_
                      refine xg_X10_19 C hW (k_0) dX10_blockField_143 ?_
                      refine xg_X10_195 C hW (k_3) dX10_blockField_146 ?_
                      refine lv_iload_n C.1 C.2.1 dX10_blockField_149 rfl (lv_at hl 2 rfl) ?_
                      refine x_ialdC C hW a_8 hf dX10_blockField_150 (fun hf => ?_)
                      obtain rfl := Option.some.inj hf
                      refine vx_ret ?_
                      exact x_iret C hW dX10_blockField_151 ⟨rfl, rfl⟩
                    · rw [if_neg q8] at hf
                      refine lv_tableOut (tgt := 152) C.1 C.2.1 dX10_blockField_14 (x_nN (n := 8) (fun k hk => by
                        rcases (show k = 0 ∨ k = 1 ∨ k = 2 ∨ k = 3 ∨ k = 4 ∨ k = 5 ∨ k = 6 ∨ k = 7 ∨ k = 8 by omega) with rfl | rfl | rfl | rfl | rfl | rfl | rfl | rfl | rfl
                        · exact q0
                        · exact q1
                        · exact q2
                        · exact q3
                        · exact q4
                        · exact q5
                        · exact q6
                        · exact q7
                        · exact q8
                        ) (by decide)) (by decide) ?_
                      refine lv_iconst (v := -1) C.1 C.2.1 dX10_blockField_152 (by decide) ?_
                      obtain rfl := Option.some.inj hf
                      refine vx_ret ?_
                      exact x_iret C hW dX10_blockField_153 ⟨rfl, rfl⟩
  · obtain rfl := Option.some.inj ((if_neg hn).symm.trans hf)
    exact x_thE C hex hW (x_runVx C hW hl (wk8 (k_0)) rfl rfl (c_X10_requireBlock (out := u1) hlt hcu1) cw_X10_162 ci_X10_requireBlock cs_X10_requireBlock (rm_okX (by decide) (by decide)) kn_s (As := [.int p1]) rfl rfl (Nat.le_of_ble_eq_true rfl) dX10_blockField_2) hn kn_n
set_option maxRecDepth 20000 in
set_option maxHeartbeats 1000000 in
theorem j_X10_requireShot_18 {l : Launch} {Z : ZT} {g : va_W} {h : Hp} {p1 : Int32} {p : Program} {e : Env} {s : State} {m : MethodId} {args : Array Value} {below : List Frame} {meth : Method} {c : Code} (C : CX p s m args meth c cX10_requireShot RX10 2 none Z g) {out : Nat × Int32} (hex : ∀ x ∈ c.exceptionTable.toList, False) (hlt : l.stackTraces = false) {ls : Array Slot} {H : Heap} {locs : List Loc} (hW : XW Z h g s.heap H locs) (hl : lv_has ls 2 [(0, .ref (Z.1 0)), (1, .int p1)]) (hf : J_X10_requireShot_18 h p1 = some out) : W p l e (rmC 8 (kn out.1)) s m args below meth c H locs 0 0 (vx_MQ below (va_Qv (fun (_ : Unit) => out.1 = 0) (fun _ => Wd Z h g) (FR Z)) (XX Z h g out.1) args s (kn out.1) (6 * kn out.1) (FR Z)) (F0 m 18 ls []) := by
  obtain rfl := Option.some.inj hf
  exact x_throwW (tag := 1) C hex hlt hW hl (by decide) th_X10_356 ms_X10_361 dX10_requireShot_18 dX10_requireShot_21 dX10_requireShot_22 dX10_requireShot_25 dX10_requireShot_28 (rm_thr (by decide)) (Nat.le_of_ble_eq_true rfl) (kn_thr (by show (1 : Nat) ≠ 0; decide)) (kn_thn (by show (1 : Nat) ≠ 0; decide))
set_option maxRecDepth 20000 in
set_option maxHeartbeats 1000000 in
theorem c_X10_requireShot {l : Launch} {Z : ZT} {g : va_W} {h : Hp} {p1 : Int32} (hlt : l.stackTraces = false) {out : Nat × Int32} (hf : f_X10_requireShot h p1 = some out) : vx_Met l yX10_requireShot (wY yX10_requireShot cX10_requireShot 2 none) (rmC 8 (kn out.1)) (va_Pc [.ref (Z.1 0), .int p1] (Wd Z h g)) (va_Qv (fun (_ : Unit) => out.1 = 0) (fun _ => Wd Z h g) (FR Z)) (XX Z h g out.1) (kn out.1) (6 * kn out.1) (FR Z) := by
  refine metXX RX10 rfl (by decide +kernel) (Nat.le_of_ble_eq_true rfl) ?_
  intro p e s m args below meth c C hex hW ls hl
  have hl : lv_has ls 2 [(0, .ref (Z.1 0)), (1, .int p1)] := hl
  unfold f_X10_requireShot at hf
  refine lv_iload_n C.1 C.2.1 dX10_requireShot_0 rfl (lv_at hl 1 rfl) ?_
  refine x_iflt (tgt := 18) C hf dX10_requireShot_1 (by decide) (fun hf => ?_) (fun hf => ?_)
  · exact j_X10_requireShot_18 C hex hlt hW (lv_sub hl [0, 1] rfl) hf
  · refine lv_iload_n C.1 C.2.1 dX10_requireShot_4 rfl (lv_at hl 1 rfl) ?_
    refine lv_aload_n C.1 C.2.1 dX10_requireShot_5 rfl (lv_at hl 0 rfl) ?_
    refine xg_X10_19 C hW (k_0) dX10_requireShot_6 ?_
    refine xg_X10_183 C hW (k_3) dX10_requireShot_9 ?_
    refine xg_X10_208 C hW (k_18) dX10_requireShot_12 ?_
    refine x_cmplt (tgt := 29) C hf dX10_requireShot_15 (by decide) (fun hf => ?_) (fun hf => ?_)
    · obtain rfl := Option.some.inj hf
      refine vx_ret ?_
      exact x_vret C hW dX10_requireShot_29 rfl
    · exact j_X10_requireShot_18 C hex hlt hW (lv_sub hl [0, 1] rfl) hf
set_option maxRecDepth 20000 in
set_option maxHeartbeats 1000000 in
theorem c_X10_blockOf {l : Launch} {Z : ZT} {g : va_W} {h : Hp} {p1 : Int32} (hlt : l.stackTraces = false) {out : Nat × Int32} (hf : f_X10_blockOf h p1 = some out) : vx_Met l yX10_blockOf (wY yX10_blockOf cX10_blockOf 2 (some .int)) (rmC 9 (kn out.1)) (va_Pc [.ref (Z.1 0), .int p1] (Wd Z h g)) (va_Qi (fun r (_ : Unit) => out.1 = 0 ∧ r = out.2) (fun _ => Wd Z h g) (FR Z)) (XX Z h g out.1) (kn out.1) (6 * kn out.1) (FR Z) := by
  refine metXX RX10 rfl (by decide +kernel) (Nat.le_of_ble_eq_true rfl) ?_
  intro p e s m args below meth c C hex hW ls hl
  have hl : lv_has ls 2 [(0, .ref (Z.1 0)), (1, .int p1)] := hl
  unfold f_X10_blockOf at hf
  refine lv_aload_n C.1 C.2.1 dX10_blockOf_0 rfl (lv_at hl 0 rfl) ?_
  refine lv_iload_n C.1 C.2.1 dX10_blockOf_1 rfl (lv_at hl 1 rfl) ?_
  obtain ⟨u1, hcu1, hf⟩ := bnd_t hf
  rcases Classical.em (u1.1 = 0) with hn | hn
  · have hf := (if_pos hn).symm.trans hf
    refine x_thN hW (x_runVx C hW hl (wk8 (k_0)) rfl rfl (c_X10_requireShot (out := u1) hlt hcu1) cw_X10_211 ci_X10_requireShot cs_X10_requireShot (rm_okX (by decide) (by decide)) (kn_z hn) (As := [.int p1]) rfl rfl (Nat.le_of_ble_eq_true rfl) dX10_blockOf_2) hn (fun H locs hW => ?_)
    refine lv_aload_n C.1 C.2.1 dX10_blockOf_5 rfl (lv_at hl 0 rfl) ?_
    refine xg_X10_19 C hW (k_0) dX10_blockOf_6 ?_
    refine xg_X10_183 C hW (k_3) dX10_blockOf_9 ?_
    refine xg_X10_214 C hW (k_18) dX10_blockOf_12 ?_
    refine lv_iload_n C.1 C.2.1 dX10_blockOf_15 rfl (lv_at hl 1 rfl) ?_
    refine x_ialdC C hW (o_X0_2 (by decide)) hf dX10_blockOf_16 (fun hf => ?_)
    obtain rfl := Option.some.inj hf
    refine vx_ret ?_
    exact x_iret C hW dX10_blockOf_17 ⟨rfl, rfl⟩
  · obtain rfl := Option.some.inj ((if_neg hn).symm.trans hf)
    exact x_thE C hex hW (x_runVx C hW hl (wk8 (k_0)) rfl rfl (c_X10_requireShot (out := u1) hlt hcu1) cw_X10_211 ci_X10_requireShot cs_X10_requireShot (rm_okX (by decide) (by decide)) kn_s (As := [.int p1]) rfl rfl (Nat.le_of_ble_eq_true rfl) dX10_blockOf_2) hn kn_n
set_option maxRecDepth 20000 in
set_option maxHeartbeats 1000000 in
theorem c_X10_shotField {l : Launch} {Z : ZT} {g : va_W} {h : Hp} {p1 : Int32} {p2 : Int32} (hlt : l.stackTraces = false) {out : Nat × Int32} (hf : f_X10_shotField h p1 p2 = some out) : vx_Met l yX10_shotField (wY yX10_shotField cX10_shotField 3 (some .int)) (rmC 9 (kn out.1)) (va_Pc [.ref (Z.1 0), .int p1, .int p2] (Wd Z h g)) (va_Qi (fun r (_ : Unit) => out.1 = 0 ∧ r = out.2) (fun _ => Wd Z h g) (FR Z)) (XX Z h g out.1) (kn out.1) (6 * kn out.1) (FR Z) := by
  refine metXX RX10 rfl (by decide +kernel) (Nat.le_of_ble_eq_true rfl) ?_
  intro p e s m args below meth c C hex hW ls hl
  have hl : lv_has ls 3 [(0, .ref (Z.1 0)), (1, .int p1), (2, .int p2)] := hl
  unfold f_X10_shotField at hf
  refine lv_aload_n C.1 C.2.1 dX10_shotField_0 rfl (lv_at hl 0 rfl) ?_
  refine lv_iload_n C.1 C.2.1 dX10_shotField_1 rfl (lv_at hl 1 rfl) ?_
  obtain ⟨u1, hcu1, hf⟩ := bnd_t hf
  rcases Classical.em (u1.1 = 0) with hn | hn
  · have hf := (if_pos hn).symm.trans hf
    refine x_thN hW (x_runVx C hW hl (wk8 (k_0)) rfl rfl (c_X10_requireShot (out := u1) hlt hcu1) cw_X10_211 ci_X10_requireShot cs_X10_requireShot (rm_okX (by decide) (by decide)) (kn_z hn) (As := [.int p1]) rfl rfl (Nat.le_of_ble_eq_true rfl) dX10_shotField_2) hn (fun H locs hW => ?_)
    refine lv_iload_n C.1 C.2.1 dX10_shotField_5 rfl (lv_at hl 2 rfl) ?_
    rcases Classical.em (p2 = 0) with q0 | q0
    · rw [if_pos q0] at hf
      refine x_swin (tgt := 32) C q0 dX10_shotField_6 (by decide) (by decide) rfl (by decide) ?_
      refine lv_aload_n C.1 C.2.1 dX10_shotField_32 rfl (lv_at hl 0 rfl) ?_
      refine xg_X10_19 C hW (k_0) dX10_shotField_33 ?_
      refine xg_X10_217 C hW (k_3) dX10_shotField_36 ?_
      refine lv_iload_n C.1 C.2.1 dX10_shotField_39 rfl (lv_at hl 1 rfl) ?_
      refine x_ialdC C hW a_4 hf dX10_shotField_40 (fun hf => ?_)
      obtain rfl := Option.some.inj hf
      refine vx_ret ?_
      exact x_iret C hW dX10_shotField_41 ⟨rfl, rfl⟩
    · rw [if_neg q0] at hf
      rcases Classical.em (p2 = 1) with q1 | q1
      · rw [if_pos q1] at hf
        refine x_swin (tgt := 42) C q1 dX10_shotField_6 (by decide) (by decide) rfl (by decide) ?_
        refine lv_aload_n C.1 C.2.1 dX10_shotField_42 rfl (lv_at hl 0 rfl) ?_
        refine xg_X10_19 C hW (k_0) dX10_shotField_43 ?_
        refine xg_X10_220 C hW (k_3) dX10_shotField_46 ?_
        refine lv_iload_n C.1 C.2.1 dX10_shotField_49 rfl (lv_at hl 1 rfl) ?_
        refine x_ialdC C hW a_5 hf dX10_shotField_50 (fun hf => ?_)
        obtain rfl := Option.some.inj hf
        refine vx_ret ?_
        exact x_iret C hW dX10_shotField_51 ⟨rfl, rfl⟩
      · rw [if_neg q1] at hf
        rcases Classical.em (p2 = 2) with q2 | q2
        · rw [if_pos q2] at hf
          refine x_swin (tgt := 52) C q2 dX10_shotField_6 (by decide) (by decide) rfl (by decide) ?_
          refine lv_aload_n C.1 C.2.1 dX10_shotField_52 rfl (lv_at hl 0 rfl) ?_
          refine xg_X10_19 C hW (k_0) dX10_shotField_53 ?_
          refine xg_X10_223 C hW (k_3) dX10_shotField_56 ?_
          refine lv_iload_n C.1 C.2.1 dX10_shotField_59 rfl (lv_at hl 1 rfl) ?_
          refine x_ialdC C hW a_6 hf dX10_shotField_60 (fun hf => ?_)
          obtain rfl := Option.some.inj hf
          refine vx_ret ?_
          exact x_iret C hW dX10_shotField_61 ⟨rfl, rfl⟩
        · rw [if_neg q2] at hf
          refine lv_tableOut (tgt := 62) C.1 C.2.1 dX10_shotField_6 (x_nN (n := 2) (fun k hk => by
            rcases (show k = 0 ∨ k = 1 ∨ k = 2 by omega) with rfl | rfl | rfl
            · exact q0
            · exact q1
            · exact q2
            ) (by decide)) (by decide) ?_
          refine lv_iconst (v := -1) C.1 C.2.1 dX10_shotField_62 (by decide) ?_
          obtain rfl := Option.some.inj hf
          refine vx_ret ?_
          exact x_iret C hW dX10_shotField_63 ⟨rfl, rfl⟩
  · obtain rfl := Option.some.inj ((if_neg hn).symm.trans hf)
    exact x_thE C hex hW (x_runVx C hW hl (wk8 (k_0)) rfl rfl (c_X10_requireShot (out := u1) hlt hcu1) cw_X10_211 ci_X10_requireShot cs_X10_requireShot (rm_okX (by decide) (by decide)) kn_s (As := [.int p1]) rfl rfl (Nat.le_of_ble_eq_true rfl) dX10_shotField_2) hn kn_n
set_option maxRecDepth 20000 in
set_option maxHeartbeats 1000000 in
theorem c_X10_placeOf {l : Launch} {Z : ZT} {g : va_W} {h : Hp} {p1 : Int32} (hlt : l.stackTraces = false) {out : Nat × Int32} (hf : f_X10_placeOf h p1 = some out) : vx_Met l yX10_placeOf (wY yX10_placeOf cX10_placeOf 2 (some .int)) (rmC 9 (kn out.1)) (va_Pc [.ref (Z.1 0), .int p1] (Wd Z h g)) (va_Qi (fun r (_ : Unit) => out.1 = 0 ∧ r = out.2) (fun _ => Wd Z h g) (FR Z)) (XX Z h g out.1) (kn out.1) (6 * kn out.1) (FR Z) := by
  refine metXX RX10 rfl (by decide +kernel) (Nat.le_of_ble_eq_true rfl) ?_
  intro p e s m args below meth c C hex hW ls hl
  have hl : lv_has ls 2 [(0, .ref (Z.1 0)), (1, .int p1)] := hl
  unfold f_X10_placeOf at hf
  refine lv_aload_n C.1 C.2.1 dX10_placeOf_0 rfl (lv_at hl 0 rfl) ?_
  refine lv_iload_n C.1 C.2.1 dX10_placeOf_1 rfl (lv_at hl 1 rfl) ?_
  obtain ⟨u1, hcu1, hf⟩ := bnd_t hf
  rcases Classical.em (u1.1 = 0) with hn | hn
  · have hf := (if_pos hn).symm.trans hf
    refine x_thN hW (x_runVx C hW hl (wk8 (k_0)) rfl rfl (c_X10_requireWord (out := u1) hlt hcu1) cw_X10_128 ci_X10_requireWord cs_X10_requireWord (rm_okX (by decide) (by decide)) (kn_z hn) (As := [.int p1]) rfl rfl (Nat.le_of_ble_eq_true rfl) dX10_placeOf_2) hn (fun H locs hW => ?_)
    refine lv_aload_n C.1 C.2.1 dX10_placeOf_5 rfl (lv_at hl 0 rfl) ?_
    refine xg_X10_19 C hW (k_0) dX10_placeOf_6 ?_
    refine xg_X10_263 C hW (k_3) dX10_placeOf_9 ?_
    refine lv_iload_n C.1 C.2.1 dX10_placeOf_12 rfl (lv_at hl 1 rfl) ?_
    refine x_ialdC C hW a_10 hf dX10_placeOf_13 (fun hf => ?_)
    obtain rfl := Option.some.inj hf
    refine vx_ret ?_
    exact x_iret C hW dX10_placeOf_14 ⟨rfl, rfl⟩
  · obtain rfl := Option.some.inj ((if_neg hn).symm.trans hf)
    exact x_thE C hex hW (x_runVx C hW hl (wk8 (k_0)) rfl rfl (c_X10_requireWord (out := u1) hlt hcu1) cw_X10_128 ci_X10_requireWord cs_X10_requireWord (rm_okX (by decide) (by decide)) kn_s (As := [.int p1]) rfl rfl (Nat.le_of_ble_eq_true rfl) dX10_placeOf_2) hn kn_n
set_option maxRecDepth 20000 in
set_option maxHeartbeats 1000000 in
theorem j_X10_requirePlaces_20 {l : Launch} {Z : ZT} {g : va_W} {h : Hp} {p1 : Int32} {p2 : Int32} {p : Program} {e : Env} {s : State} {m : MethodId} {args : Array Value} {below : List Frame} {meth : Method} {c : Code} (C : CX p s m args meth c cX10_requirePlaces RX10 3 none Z g) {out : Nat × Int32} (hex : ∀ x ∈ c.exceptionTable.toList, False) (hlt : l.stackTraces = false) {ls : Array Slot} {H : Heap} {locs : List Loc} (hW : XW Z h g s.heap H locs) (hl : lv_has ls 3 [(0, .ref (Z.1 0)), (1, .int p1), (2, .int p2)]) (hf : J_X10_requirePlaces_20 h p1 p2 = some out) : W p l e (rmC 8 (kn out.1)) s m args below meth c H locs 0 0 (vx_MQ below (va_Qv (fun (_ : Unit) => out.1 = 0) (fun _ => Wd Z h g) (FR Z)) (XX Z h g out.1) args s (kn out.1) (6 * kn out.1) (FR Z)) (F0 m 20 ls []) := by
  obtain rfl := Option.some.inj hf
  exact x_throwW (tag := 2) C hex hlt hW hl (by decide) th_X10_76 ms_X10_363 dX10_requirePlaces_20 dX10_requirePlaces_23 dX10_requirePlaces_24 dX10_requirePlaces_27 dX10_requirePlaces_30 (rm_thr (by decide)) (Nat.le_of_ble_eq_true rfl) (kn_thr (by show (2 : Nat) ≠ 0; decide)) (kn_thn (by show (2 : Nat) ≠ 0; decide))
set_option maxRecDepth 20000 in
set_option maxHeartbeats 1000000 in
theorem c_X10_requirePlaces {l : Launch} {Z : ZT} {g : va_W} {h : Hp} {p1 : Int32} {p2 : Int32} (hlt : l.stackTraces = false) {out : Nat × Int32} (hf : f_X10_requirePlaces h p1 p2 = some out) : vx_Met l yX10_requirePlaces (wY yX10_requirePlaces cX10_requirePlaces 3 none) (rmC 8 (kn out.1)) (va_Pc [.ref (Z.1 0), .int p1, .int p2] (Wd Z h g)) (va_Qv (fun (_ : Unit) => out.1 = 0) (fun _ => Wd Z h g) (FR Z)) (XX Z h g out.1) (kn out.1) (6 * kn out.1) (FR Z) := by
  refine metXX RX10 rfl (by decide +kernel) (Nat.le_of_ble_eq_true rfl) ?_
  intro p e s m args below meth c C hex hW ls hl
  have hl : lv_has ls 3 [(0, .ref (Z.1 0)), (1, .int p1), (2, .int p2)] := hl
  unfold f_X10_requirePlaces at hf
  refine lv_iload_n C.1 C.2.1 dX10_requirePlaces_0 rfl (lv_at hl 1 rfl) ?_
  refine x_iflt (tgt := 20) C hf dX10_requirePlaces_1 (by decide) (fun hf => ?_) (fun hf => ?_)
  · exact j_X10_requirePlaces_20 C hex hlt hW (lv_sub hl [0, 1, 2] rfl) hf
  · refine lv_iload_n C.1 C.2.1 dX10_requirePlaces_4 rfl (lv_at hl 2 rfl) ?_
    refine lv_iload_n C.1 C.2.1 dX10_requirePlaces_5 rfl (lv_at hl 1 rfl) ?_
    refine x_cmplt (tgt := 20) C hf dX10_requirePlaces_6 (by decide) (fun hf => ?_) (fun hf => ?_)
    · exact j_X10_requirePlaces_20 C hex hlt hW (lv_sub hl [0, 1, 2] rfl) hf
    · refine lv_iload_n C.1 C.2.1 dX10_requirePlaces_9 rfl (lv_at hl 2 rfl) ?_
      refine lv_aload_n C.1 C.2.1 dX10_requirePlaces_10 rfl (lv_at hl 0 rfl) ?_
      refine xg_X10_19 C hW (k_0) dX10_requirePlaces_11 ?_
      refine xg_X10_257 C hW (k_3) dX10_requirePlaces_14 ?_
      refine x_cmplt (tgt := 31) C hf dX10_requirePlaces_17 (by decide) (fun hf => ?_) (fun hf => ?_)
      · obtain rfl := Option.some.inj hf
        refine vx_ret ?_
        exact x_vret C hW dX10_requirePlaces_31 rfl
      · exact j_X10_requirePlaces_20 C hex hlt hW (lv_sub hl [0, 1, 2] rfl) hf
set_option maxRecDepth 20000 in
set_option maxHeartbeats 1000000 in
theorem c_X10_cut {l : Launch} {Z : ZT} {g : va_W} {h : Hp} {p1 : Int32} {p2 : Int32} (hlt : l.stackTraces = false) {out : Nat × (Int32 × Hp)} (hf : f_X10_cut h p1 p2 = some out) : vx_Met l yX10_cut (wY yX10_cut cX10_cut 4 (some .int)) (rmC 9 (kn out.1)) (va_Pc [.ref (Z.1 0), .int p1, .int p2] (Wd Z h g)) (va_Qi (fun r (_ : Unit) => out.1 = 0 ∧ r = out.2.1) (fun _ => Wd Z out.2.2 g) (FR Z)) (XX Z out.2.2 g out.1) (kn out.1) (6 * kn out.1) (FR Z) := by
  refine metXX RX10 rfl (by decide +kernel) (Nat.le_of_ble_eq_true rfl) ?_
  intro p e s m args below meth c C hex hW ls hl
  have hl : lv_has ls 4 [(0, .ref (Z.1 0)), (1, .int p1), (2, .int p2)] := hl
  unfold f_X10_cut at hf
  refine lv_aload_n C.1 C.2.1 dX10_cut_0 rfl (lv_at hl 0 rfl) ?_
  refine lv_iload_n C.1 C.2.1 dX10_cut_1 rfl (lv_at hl 1 rfl) ?_
  refine lv_iload_n C.1 C.2.1 dX10_cut_2 rfl (lv_at hl 2 rfl) ?_
  obtain ⟨u1, hcu1, hf⟩ := bnd_t hf
  rcases Classical.em (u1.1 = 0) with hn | hn
  · have hf := (if_pos hn).symm.trans hf
    refine x_thN hW (x_runVx C hW hl (wk8 (k_0)) rfl rfl (c_X10_requirePlaces (out := u1) hlt hcu1) cw_X10_275 ci_X10_requirePlaces cs_X10_requirePlaces (rm_okX (by decide) (by decide)) (kn_z hn) (As := [.int p1, .int p2]) rfl rfl (Nat.le_of_ble_eq_true rfl) dX10_cut_3) hn (fun H locs hW => ?_)
    refine lv_aload_n C.1 C.2.1 dX10_cut_6 rfl (lv_at hl 0 rfl) ?_
    refine xg_X10_26 C hW (k_0) dX10_cut_7 ?_
    refine lv_aload_n C.1 C.2.1 dX10_cut_10 rfl (lv_at hl 0 rfl) ?_
    refine xg_X10_19 C hW (k_0) dX10_cut_11 ?_
    refine xg_X10_183 C hW (k_3) dX10_cut_14 ?_
    obtain ⟨u2, hcu2, hf⟩ := bnd_t hf
    refine x_callv hW (x_runV C hW hl (wk3 (k_13)) rfl rfl (c_X3_record (k_18) hcu2) (cw_X10_288) ci_X3_record cs_X3_record (rm_okC (by decide) (by decide)) ⟨Nat.zero_le _, Nat.zero_le _⟩ (As := [.ref (Z.1 18)]) rfl rfl (Nat.le_of_ble_eq_true rfl) dX10_cut_17) (fun H locs hW => ?_)
    refine lv_aload_n C.1 C.2.1 dX10_cut_20 rfl (lv_at hl 0 rfl) ?_
    refine xg_X10_19 C hW (k_0) dX10_cut_21 ?_
    refine xg_X10_226 C hW (k_3) dX10_cut_24 ?_
    refine x_istn C hf dX10_cut_27 rfl hl (by decide) (fun v3 => [(3, .int v3), (0, .ref (Z.1 0)), (1, .int p1), (2, .int p2)]) (fun _ => rfl) (fun v3 ls hf hl => ?_)
    refine lv_aload_n C.1 C.2.1 dX10_cut_28 rfl (lv_at hl 1 rfl) ?_
    refine xg_X10_19 C hW (k_0) dX10_cut_29 ?_
    refine lv_iload_n C.1 C.2.1 dX10_cut_32 rfl (lv_at hl 2 rfl) ?_
    refine lv_iload_n C.1 C.2.1 dX10_cut_33 rfl (lv_at hl 3 rfl) ?_
    obtain ⟨u4, hcu4, hf⟩ := bnd_t hf
    refine x_callv hW (x_runV C hW hl (wk1 (k_3)) rfl rfl (c_X1_cutPlaces hcu4) (cw_X10_292) ci_X1_cutPlaces cs_X1_cutPlaces (rm_okC (by decide) (by decide)) ⟨Nat.zero_le _, Nat.zero_le _⟩ (As := [.int p1, .int p2]) rfl rfl (Nat.le_of_ble_eq_true rfl) dX10_cut_34) (fun H locs hW => ?_)
    refine lv_iload_n C.1 C.2.1 dX10_cut_37 rfl (lv_at hl 0 rfl) ?_
    refine lv_aload_n C.1 C.2.1 dX10_cut_38 rfl (lv_at hl 1 rfl) ?_
    refine xg_X10_19 C hW (k_0) dX10_cut_39 ?_
    refine xg_X10_226 C hW (k_3) dX10_cut_42 ?_
    refine lv_isub C.1 C.2.1 dX10_cut_45 ?_
    obtain rfl := Option.some.inj hf
    refine vx_ret ?_
    exact x_iret C hW dX10_cut_46 ⟨rfl, rfl⟩
  · obtain rfl := Option.some.inj ((if_neg hn).symm.trans hf)
    exact x_thE C hex hW (x_runVx C hW hl (wk8 (k_0)) rfl rfl (c_X10_requirePlaces (out := u1) hlt hcu1) cw_X10_275 ci_X10_requirePlaces cs_X10_requirePlaces (rm_okX (by decide) (by decide)) kn_s (As := [.int p1, .int p2]) rfl rfl (Nat.le_of_ble_eq_true rfl) dX10_cut_3) hn kn_n
set_option maxRecDepth 20000 in
set_option maxHeartbeats 1000000 in
theorem c_X10_cutWord {l : Launch} {Z : ZT} {g : va_W} {h : Hp} {p1 : Int32} (hlt : l.stackTraces = false) {out : Nat × (Int32 × Hp)} (hf : f_X10_cutWord h p1 = some out) : vx_Met l yX10_cutWord (wY yX10_cutWord cX10_cutWord 3 (some .int)) (rmC 9 (kn out.1)) (va_Pc [.ref (Z.1 0), .int p1] (Wd Z h g)) (va_Qi (fun r (_ : Unit) => out.1 = 0 ∧ r = out.2.1) (fun _ => Wd Z out.2.2 g) (FR Z)) (XX Z out.2.2 g out.1) (kn out.1) (6 * kn out.1) (FR Z) := by
  refine metXX RX10 rfl (by decide +kernel) (Nat.le_of_ble_eq_true rfl) ?_
  intro p e s m args below meth c C hex hW ls hl
  have hl : lv_has ls 3 [(0, .ref (Z.1 0)), (1, .int p1)] := hl
  unfold f_X10_cutWord at hf
  refine lv_aload_n C.1 C.2.1 dX10_cutWord_0 rfl (lv_at hl 0 rfl) ?_
  refine lv_iload_n C.1 C.2.1 dX10_cutWord_1 rfl (lv_at hl 1 rfl) ?_
  obtain ⟨u1, hcu1, hf⟩ := bnd_t hf
  rcases Classical.em (u1.1 = 0) with hn | hn
  · have hf := (if_pos hn).symm.trans hf
    refine x_thN hW (x_runVx C hW hl (wk8 (k_0)) rfl rfl (c_X10_requireWord (out := u1) hlt hcu1) cw_X10_128 ci_X10_requireWord cs_X10_requireWord (rm_okX (by decide) (by decide)) (kn_z hn) (As := [.int p1]) rfl rfl (Nat.le_of_ble_eq_true rfl) dX10_cutWord_2) hn (fun H locs hW => ?_)
    refine lv_aload_n C.1 C.2.1 dX10_cutWord_5 rfl (lv_at hl 0 rfl) ?_
    refine xg_X10_19 C hW (k_0) dX10_cutWord_6 ?_
    refine xg_X10_263 C hW (k_3) dX10_cutWord_9 ?_
    refine lv_iload_n C.1 C.2.1 dX10_cutWord_12 rfl (lv_at hl 1 rfl) ?_
    refine x_ialdC C hW a_10 hf dX10_cutWord_13 (fun hf => ?_)
    refine x_istn C hf dX10_cutWord_14 rfl hl (by decide) (fun v2 => [(2, .int v2), (0, .ref (Z.1 0)), (1, .int p1)]) (fun _ => rfl) (fun v2 ls hf hl => ?_)
    refine lv_iload_n C.1 C.2.1 dX10_cutWord_15 rfl (lv_at hl 0 rfl) ?_
    refine lv_iconst (v := -1) C.1 C.2.1 dX10_cutWord_16 (by decide) ?_
    refine x_cmpne (tgt := 31) C hf dX10_cutWord_17 (by decide) (fun hf => ?_) (fun hf => ?_)
    · refine lv_aload_n C.1 C.2.1 dX10_cutWord_31 rfl (lv_at hl 1 rfl) ?_
      refine xg_X10_26 C hW (k_0) dX10_cutWord_32 ?_
      refine lv_aload_n C.1 C.2.1 dX10_cutWord_35 rfl (lv_at hl 1 rfl) ?_
      refine xg_X10_19 C hW (k_0) dX10_cutWord_36 ?_
      refine xg_X10_183 C hW (k_3) dX10_cutWord_39 ?_
      obtain ⟨u3, hcu3, hf⟩ := bnd_t hf
      refine x_callv hW (x_runV C hW hl (wk3 (k_13)) rfl rfl (c_X3_record (k_18) hcu3) (cw_X10_288) ci_X3_record cs_X3_record (rm_okC (by decide) (by decide)) ⟨Nat.zero_le _, Nat.zero_le _⟩ (As := [.ref (Z.1 18)]) rfl rfl (Nat.le_of_ble_eq_true rfl) dX10_cutWord_42) (fun H locs hW => ?_)
      refine lv_aload_n C.1 C.2.1 dX10_cutWord_45 rfl (lv_at hl 1 rfl) ?_
      refine xg_X10_19 C hW (k_0) dX10_cutWord_46 ?_
      refine lv_iload_n C.1 C.2.1 dX10_cutWord_49 rfl (lv_at hl 0 rfl) ?_
      refine lv_iload_n C.1 C.2.1 dX10_cutWord_50 rfl (lv_at hl 0 rfl) ?_
      obtain ⟨u4, hcu4, hf⟩ := bnd_t hf
      refine x_callv hW (x_runV C hW hl (wk1 (k_3)) rfl rfl (c_X1_cutPlaces hcu4) (cw_X10_292) ci_X1_cutPlaces cs_X1_cutPlaces (rm_okC (by decide) (by decide)) ⟨Nat.zero_le _, Nat.zero_le _⟩ (As := [.int v2, .int v2]) rfl rfl (Nat.le_of_ble_eq_true rfl) dX10_cutWord_51) (fun H locs hW => ?_)
      refine lv_aload_n C.1 C.2.1 dX10_cutWord_54 rfl (lv_at hl 1 rfl) ?_
      refine xg_X10_19 C hW (k_0) dX10_cutWord_55 ?_
      refine lv_iload_n C.1 C.2.1 dX10_cutWord_58 rfl (lv_at hl 2 rfl) ?_
      obtain ⟨u5, hcu5, hf⟩ := bnd_t hf
      refine x_calli hW (x_runV C hW hl (wk1 (k_3)) rfl rfl (c_X1_stateOf hcu5) (cw_X10_144) ci_X1_stateOf cs_X1_stateOf (rm_okC (by decide) (by decide)) ⟨Nat.zero_le _, Nat.zero_le _⟩ (As := [.int p1]) rfl rfl (Nat.le_of_ble_eq_true rfl) dX10_cutWord_59) (fun H locs hW => ?_)
      obtain rfl := Option.some.inj hf
      refine vx_ret ?_
      exact x_iret C hW dX10_cutWord_62 ⟨rfl, rfl⟩
    · obtain rfl := Option.some.inj hf
      exact x_throwW (tag := 3) C hex hlt hW hl (by decide) th_X10_299 ms_X10_297 dX10_cutWord_20 dX10_cutWord_23 dX10_cutWord_24 dX10_cutWord_27 dX10_cutWord_30 (rm_thr (by decide)) (Nat.le_of_ble_eq_true rfl) (kn_thr (by show (3 : Nat) ≠ 0; decide)) (kn_thn (by show (3 : Nat) ≠ 0; decide))
  · obtain rfl := Option.some.inj ((if_neg hn).symm.trans hf)
    exact x_thE C hex hW (x_runVx C hW hl (wk8 (k_0)) rfl rfl (c_X10_requireWord (out := u1) hlt hcu1) cw_X10_128 ci_X10_requireWord cs_X10_requireWord (rm_okX (by decide) (by decide)) kn_s (As := [.int p1]) rfl rfl (Nat.le_of_ble_eq_true rfl) dX10_cutWord_2) hn kn_n
set_option maxRecDepth 20000 in
set_option maxHeartbeats 1000000 in
theorem c_X10_restore {l : Launch} {Z : ZT} {g : va_W} {h : Hp} {p1 : Int32} {p2 : Int32} (hlt : l.stackTraces = false) {out : Nat × (Int32 × Hp)} (hf : f_X10_restore h p1 p2 = some out) : vx_Met l yX10_restore (wY yX10_restore cX10_restore 3 (some .int)) (rmC 9 (kn out.1)) (va_Pc [.ref (Z.1 0), .int p1, .int p2] (Wd Z h g)) (va_Qi (fun r (_ : Unit) => out.1 = 0 ∧ r = out.2.1) (fun _ => Wd Z out.2.2 g) (FR Z)) (XX Z out.2.2 g out.1) (kn out.1) (6 * kn out.1) (FR Z) := by
  refine metXX RX10 rfl (by decide +kernel) (Nat.le_of_ble_eq_true rfl) ?_
  intro p e s m args below meth c C hex hW ls hl
  have hl : lv_has ls 3 [(0, .ref (Z.1 0)), (1, .int p1), (2, .int p2)] := hl
  unfold f_X10_restore at hf
  refine lv_aload_n C.1 C.2.1 dX10_restore_0 rfl (lv_at hl 0 rfl) ?_
  refine lv_iload_n C.1 C.2.1 dX10_restore_1 rfl (lv_at hl 1 rfl) ?_
  obtain ⟨u1, hcu1, hf⟩ := bnd_t hf
  rcases Classical.em (u1.1 = 0) with hn | hn
  · have hf := (if_pos hn).symm.trans hf
    refine x_thN hW (x_runVx C hW hl (wk8 (k_0)) rfl rfl (c_X10_requireWord (out := u1) hlt hcu1) cw_X10_128 ci_X10_requireWord cs_X10_requireWord (rm_okX (by decide) (by decide)) (kn_z hn) (As := [.int p1]) rfl rfl (Nat.le_of_ble_eq_true rfl) dX10_restore_2) hn (fun H locs hW => ?_)
    refine lv_aload_n C.1 C.2.1 dX10_restore_5 rfl (lv_at hl 0 rfl) ?_
    refine lv_iload_n C.1 C.2.1 dX10_restore_6 rfl (lv_at hl 2 rfl) ?_
    obtain ⟨u2, hcu2, hf⟩ := bnd_t hf
    rcases Classical.em (u2.1 = 0) with hn | hn
    · have hf := (if_pos hn).symm.trans hf
      refine x_thN hW (x_runVx C hW hl (wk8 (k_0)) rfl rfl (c_X10_requireWord (out := u2) hlt hcu2) cw_X10_128 ci_X10_requireWord cs_X10_requireWord (rm_okX (by decide) (by decide)) (kn_z hn) (As := [.int p2]) rfl rfl (Nat.le_of_ble_eq_true rfl) dX10_restore_7) hn (fun H locs hW => ?_)
      refine lv_iload_n C.1 C.2.1 dX10_restore_10 rfl (lv_at hl 2 rfl) ?_
      refine lv_iload_n C.1 C.2.1 dX10_restore_11 rfl (lv_at hl 1 rfl) ?_
      refine x_cmpge (tgt := 26) C hf dX10_restore_12 (by decide) (fun hf => ?_) (fun hf => ?_)
      · refine lv_aload_n C.1 C.2.1 dX10_restore_26 rfl (lv_at hl 0 rfl) ?_
        refine xg_X10_26 C hW (k_0) dX10_restore_27 ?_
        refine lv_aload_n C.1 C.2.1 dX10_restore_30 rfl (lv_at hl 0 rfl) ?_
        refine xg_X10_19 C hW (k_0) dX10_restore_31 ?_
        refine xg_X10_183 C hW (k_3) dX10_restore_34 ?_
        obtain ⟨u3, hcu3, hf⟩ := bnd_t hf
        refine x_callv hW (x_runV C hW hl (wk3 (k_13)) rfl rfl (c_X3_record (k_18) hcu3) (cw_X10_288) ci_X3_record cs_X3_record (rm_okC (by decide) (by decide)) ⟨Nat.zero_le _, Nat.zero_le _⟩ (As := [.ref (Z.1 18)]) rfl rfl (Nat.le_of_ble_eq_true rfl) dX10_restore_37) (fun H locs hW => ?_)
        refine lv_aload_n C.1 C.2.1 dX10_restore_40 rfl (lv_at hl 0 rfl) ?_
        refine xg_X10_19 C hW (k_0) dX10_restore_41 ?_
        refine lv_iload_n C.1 C.2.1 dX10_restore_44 rfl (lv_at hl 1 rfl) ?_
        refine lv_iload_n C.1 C.2.1 dX10_restore_45 rfl (lv_at hl 2 rfl) ?_
        obtain ⟨u4, hcu4, hf⟩ := bnd_t hf
        refine x_calli hW (x_runV C hW hl (wk1 (k_3)) rfl rfl (c_X1_keepAgain hcu4) (cw_X10_302) ci_X1_keepAgain cs_X1_keepAgain (rm_okC (by decide) (by decide)) ⟨Nat.zero_le _, Nat.zero_le _⟩ (As := [.int p1, .int p2]) rfl rfl (Nat.le_of_ble_eq_true rfl) dX10_restore_46) (fun H locs hW => ?_)
        obtain rfl := Option.some.inj hf
        refine vx_ret ?_
        exact x_iret C hW dX10_restore_49 ⟨rfl, rfl⟩
      · obtain rfl := Option.some.inj hf
        exact x_throwW (tag := 2) C hex hlt hW hl (by decide) th_X10_76 ms_X10_300 dX10_restore_15 dX10_restore_18 dX10_restore_19 dX10_restore_22 dX10_restore_25 (rm_thr (by decide)) (Nat.le_of_ble_eq_true rfl) (kn_thr (by show (2 : Nat) ≠ 0; decide)) (kn_thn (by show (2 : Nat) ≠ 0; decide))
    · obtain rfl := Option.some.inj ((if_neg hn).symm.trans hf)
      exact x_thE C hex hW (x_runVx C hW hl (wk8 (k_0)) rfl rfl (c_X10_requireWord (out := u2) hlt hcu2) cw_X10_128 ci_X10_requireWord cs_X10_requireWord (rm_okX (by decide) (by decide)) kn_s (As := [.int p2]) rfl rfl (Nat.le_of_ble_eq_true rfl) dX10_restore_7) hn kn_n
  · obtain rfl := Option.some.inj ((if_neg hn).symm.trans hf)
    exact x_thE C hex hW (x_runVx C hW hl (wk8 (k_0)) rfl rfl (c_X10_requireWord (out := u1) hlt hcu1) cw_X10_128 ci_X10_requireWord cs_X10_requireWord (rm_okX (by decide) (by decide)) kn_s (As := [.int p1]) rfl rfl (Nat.le_of_ble_eq_true rfl) dX10_restore_2) hn kn_n
set_option maxRecDepth 20000 in
set_option maxHeartbeats 1000000 in
theorem j_X10_move_45 {l : Launch} {Z : ZT} {g : va_W} {p1 : Int32} {p2 : Int32} {p3 : Int32} {h : Hp} {p : Program} {e : Env} {s : State} {m : MethodId} {args : Array Value} {below : List Frame} {meth : Method} {c : Code} (C : CX p s m args meth c cX10_move RX10 4 (some .int) Z g) {out : Nat × (Int32 × Hp)} (hex : ∀ x ∈ c.exceptionTable.toList, False) (hlt : l.stackTraces = false) {ls : Array Slot} {H : Heap} {locs : List Loc} (hW : XW Z h g s.heap H locs) (hl : lv_has ls 4 [(0, .ref (Z.1 0)), (1, .int p1), (2, .int p2), (3, .int p3)]) (hf : J_X10_move_45 p1 p2 p3 h = some out) : W p l e (rmC 9 (kn out.1)) s m args below meth c H locs 0 0 (vx_MQ below (va_Qi (fun r (_ : Unit) => out.1 = 0 ∧ r = out.2.1) (fun _ => Wd Z out.2.2 g) (FR Z)) (XX Z out.2.2 g out.1) args s (kn out.1) (6 * kn out.1) (FR Z)) (F0 m 45 ls []) := by
  obtain rfl := Option.some.inj hf
  exact x_throwW (tag := 2) C hex hlt hW hl (by decide) th_X10_76 ms_X10_307 dX10_move_45 dX10_move_48 dX10_move_49 dX10_move_52 dX10_move_55 (rm_thr (by decide)) (Nat.le_of_ble_eq_true rfl) (kn_thr (by show (2 : Nat) ≠ 0; decide)) (kn_thn (by show (2 : Nat) ≠ 0; decide))
set_option maxRecDepth 20000 in
set_option maxHeartbeats 1000000 in
theorem j_X10_move_77 {l : Launch} {Z : ZT} {g : va_W} {p1 : Int32} {p2 : Int32} {p3 : Int32} {h : Hp} {p : Program} {e : Env} {s : State} {m : MethodId} {args : Array Value} {below : List Frame} {meth : Method} {c : Code} (C : CX p s m args meth c cX10_move RX10 4 (some .int) Z g) {out : Nat × (Int32 × Hp)} (hex : ∀ x ∈ c.exceptionTable.toList, False) (hlt : l.stackTraces = false) {ls : Array Slot} {H : Heap} {locs : List Loc} (hW : XW Z h g s.heap H locs) (hl : lv_has ls 4 [(0, .ref (Z.1 0)), (1, .int p1), (2, .int p2), (3, .int p3)]) (hf : J_X10_move_77 p1 p2 p3 h = some out) : W p l e (rmC 9 (kn out.1)) s m args below meth c H locs 0 0 (vx_MQ below (va_Qi (fun r (_ : Unit) => out.1 = 0 ∧ r = out.2.1) (fun _ => Wd Z out.2.2 g) (FR Z)) (XX Z out.2.2 g out.1) args s (kn out.1) (6 * kn out.1) (FR Z)) (F0 m 77 ls []) := by
  rw [J_X10_move_77] at hf
  refine lv_aload_n C.1 C.2.1 dX10_move_77 rfl (lv_at hl 0 rfl) ?_
  refine xg_X10_26 C hW (k_0) dX10_move_78 ?_
  refine lv_aload_n C.1 C.2.1 dX10_move_81 rfl (lv_at hl 0 rfl) ?_
  refine xg_X10_19 C hW (k_0) dX10_move_82 ?_
  refine xg_X10_183 C hW (k_3) dX10_move_85 ?_
  obtain ⟨u1, hcu1, hf⟩ := bnd_t hf
  refine x_callv hW (x_runV C hW hl (wk3 (k_13)) rfl rfl (c_X3_record (k_18) hcu1) (cw_X10_288) ci_X3_record cs_X3_record (rm_okC (by decide) (by decide)) ⟨Nat.zero_le _, Nat.zero_le _⟩ (As := [.ref (Z.1 18)]) rfl rfl (Nat.le_of_ble_eq_true rfl) dX10_move_88) (fun H locs hW => ?_)
  refine lv_aload_n C.1 C.2.1 dX10_move_91 rfl (lv_at hl 0 rfl) ?_
  refine xg_X10_19 C hW (k_0) dX10_move_92 ?_
  refine lv_iload_n C.1 C.2.1 dX10_move_95 rfl (lv_at hl 1 rfl) ?_
  refine lv_iload_n C.1 C.2.1 dX10_move_96 rfl (lv_at hl 2 rfl) ?_
  refine lv_iload_n C.1 C.2.1 dX10_move_97 rfl (lv_at hl 3 rfl) ?_
  obtain ⟨u2, hcu2, hf⟩ := bnd_t hf
  refine x_calli hW (x_runV C hW hl (wk1 (k_3)) rfl rfl (c_X1_carryShots hcu2) (cw_X10_311) ci_X1_carryShots cs_X1_carryShots (rm_okC (by decide) (by decide)) ⟨Nat.zero_le _, Nat.zero_le _⟩ (As := [.int p1, .int p2, .int p3]) rfl rfl (Nat.le_of_ble_eq_true rfl) dX10_move_98) (fun H locs hW => ?_)
  obtain rfl := Option.some.inj hf
  refine vx_ret ?_
  exact x_iret C hW dX10_move_101 ⟨rfl, rfl⟩
set_option maxRecDepth 20000 in
set_option maxHeartbeats 1000000 in
theorem c_X10_move {l : Launch} {Z : ZT} {g : va_W} {h : Hp} {p1 : Int32} {p2 : Int32} {p3 : Int32} (hlt : l.stackTraces = false) {out : Nat × (Int32 × Hp)} (hf : f_X10_move h p1 p2 p3 = some out) : vx_Met l yX10_move (wY yX10_move cX10_move 4 (some .int)) (rmC 9 (kn out.1)) (va_Pc [.ref (Z.1 0), .int p1, .int p2, .int p3] (Wd Z h g)) (va_Qi (fun r (_ : Unit) => out.1 = 0 ∧ r = out.2.1) (fun _ => Wd Z out.2.2 g) (FR Z)) (XX Z out.2.2 g out.1) (kn out.1) (6 * kn out.1) (FR Z) := by
  refine metXX RX10 rfl (by decide +kernel) (Nat.le_of_ble_eq_true rfl) ?_
  intro p e s m args below meth c C hex hW ls hl
  have hl : lv_has ls 4 [(0, .ref (Z.1 0)), (1, .int p1), (2, .int p2), (3, .int p3)] := hl
  unfold f_X10_move at hf
  refine lv_aload_n C.1 C.2.1 dX10_move_0 rfl (lv_at hl 0 rfl) ?_
  refine lv_iload_n C.1 C.2.1 dX10_move_1 rfl (lv_at hl 1 rfl) ?_
  obtain ⟨u3, hcu3, hf⟩ := bnd_t hf
  rcases Classical.em (u3.1 = 0) with hn | hn
  · have hf := (if_pos hn).symm.trans hf
    refine x_thN hW (x_runVx C hW hl (wk8 (k_0)) rfl rfl (c_X10_requireShot (out := u3) hlt hcu3) cw_X10_211 ci_X10_requireShot cs_X10_requireShot (rm_okX (by decide) (by decide)) (kn_z hn) (As := [.int p1]) rfl rfl (Nat.le_of_ble_eq_true rfl) dX10_move_2) hn (fun H locs hW => ?_)
    refine lv_aload_n C.1 C.2.1 dX10_move_5 rfl (lv_at hl 0 rfl) ?_
    refine lv_iload_n C.1 C.2.1 dX10_move_6 rfl (lv_at hl 2 rfl) ?_
    obtain ⟨u4, hcu4, hf⟩ := bnd_t hf
    rcases Classical.em (u4.1 = 0) with hn | hn
    · have hf := (if_pos hn).symm.trans hf
      refine x_thN hW (x_runVx C hW hl (wk8 (k_0)) rfl rfl (c_X10_requireShot (out := u4) hlt hcu4) cw_X10_211 ci_X10_requireShot cs_X10_requireShot (rm_okX (by decide) (by decide)) (kn_z hn) (As := [.int p2]) rfl rfl (Nat.le_of_ble_eq_true rfl) dX10_move_7) hn (fun H locs hW => ?_)
      refine lv_iload_n C.1 C.2.1 dX10_move_10 rfl (lv_at hl 2 rfl) ?_
      refine lv_iload_n C.1 C.2.1 dX10_move_11 rfl (lv_at hl 1 rfl) ?_
      refine x_cmpge (tgt := 26) C hf dX10_move_12 (by decide) (fun hf => ?_) (fun hf => ?_)
      · refine lv_iload_n C.1 C.2.1 dX10_move_26 rfl (lv_at hl 3 rfl) ?_
        refine lv_iconst (v := -1) C.1 C.2.1 dX10_move_27 (by decide) ?_
        refine x_cmplt (tgt := 45) C hf dX10_move_28 (by decide) (fun hf => ?_) (fun hf => ?_)
        · exact j_X10_move_45 C hex hlt hW (lv_sub hl [0, 1, 2, 3] rfl) hf
        · refine lv_iload_n C.1 C.2.1 dX10_move_31 rfl (lv_at hl 3 rfl) ?_
          refine lv_aload_n C.1 C.2.1 dX10_move_32 rfl (lv_at hl 0 rfl) ?_
          refine xg_X10_19 C hW (k_0) dX10_move_33 ?_
          refine xg_X10_183 C hW (k_3) dX10_move_36 ?_
          refine xg_X10_208 C hW (k_18) dX10_move_39 ?_
          refine x_cmplt (tgt := 56) C hf dX10_move_42 (by decide) (fun hf => ?_) (fun hf => ?_)
          · refine lv_iload_n C.1 C.2.1 dX10_move_56 rfl (lv_at hl 3 rfl) ?_
            refine lv_iload_n C.1 C.2.1 dX10_move_57 rfl (lv_at hl 1 rfl) ?_
            refine x_cmplt (tgt := 77) C hf dX10_move_58 (by decide) (fun hf => ?_) (fun hf => ?_)
            · exact j_X10_move_77 C hex hlt hW (lv_sub hl [0, 1, 2, 3] rfl) hf
            · refine lv_iload_n C.1 C.2.1 dX10_move_61 rfl (lv_at hl 3 rfl) ?_
              refine lv_iload_n C.1 C.2.1 dX10_move_62 rfl (lv_at hl 2 rfl) ?_
              refine x_cmpgt (tgt := 77) C hf dX10_move_63 (by decide) (fun hf => ?_) (fun hf => ?_)
              · exact j_X10_move_77 C hex hlt hW (lv_sub hl [0, 1, 2, 3] rfl) hf
              · obtain rfl := Option.some.inj hf
                exact x_throwW (tag := 2) C hex hlt hW hl (by decide) th_X10_76 ms_X10_309 dX10_move_66 dX10_move_69 dX10_move_70 dX10_move_73 dX10_move_76 (rm_thr (by decide)) (Nat.le_of_ble_eq_true rfl) (kn_thr (by show (2 : Nat) ≠ 0; decide)) (kn_thn (by show (2 : Nat) ≠ 0; decide))
          · exact j_X10_move_45 C hex hlt hW (lv_sub hl [0, 1, 2, 3] rfl) hf
      · obtain rfl := Option.some.inj hf
        exact x_throwW (tag := 2) C hex hlt hW hl (by decide) th_X10_76 ms_X10_305 dX10_move_15 dX10_move_18 dX10_move_19 dX10_move_22 dX10_move_25 (rm_thr (by decide)) (Nat.le_of_ble_eq_true rfl) (kn_thr (by show (2 : Nat) ≠ 0; decide)) (kn_thn (by show (2 : Nat) ≠ 0; decide))
    · obtain rfl := Option.some.inj ((if_neg hn).symm.trans hf)
      exact x_thE C hex hW (x_runVx C hW hl (wk8 (k_0)) rfl rfl (c_X10_requireShot (out := u4) hlt hcu4) cw_X10_211 ci_X10_requireShot cs_X10_requireShot (rm_okX (by decide) (by decide)) kn_s (As := [.int p2]) rfl rfl (Nat.le_of_ble_eq_true rfl) dX10_move_7) hn kn_n
  · obtain rfl := Option.some.inj ((if_neg hn).symm.trans hf)
    exact x_thE C hex hW (x_runVx C hW hl (wk8 (k_0)) rfl rfl (c_X10_requireShot (out := u3) hlt hcu3) cw_X10_211 ci_X10_requireShot cs_X10_requireShot (rm_okX (by decide) (by decide)) kn_s (As := [.int p1]) rfl rfl (Nat.le_of_ble_eq_true rfl) dX10_move_2) hn kn_n
set_option maxRecDepth 20000 in
set_option maxHeartbeats 1000000 in
theorem j_X10_setHandles_27 {l : Launch} {Z : ZT} {g : va_W} {p1 : Int32} {p2 : Int32} {p3 : Int32} {h : Hp} {p : Program} {e : Env} {s : State} {m : MethodId} {args : Array Value} {below : List Frame} {meth : Method} {c : Code} (C : CX p s m args meth c cX10_setHandles RX10 5 (some .int) Z g) {out : Nat × (Int32 × Hp)} (hex : ∀ x ∈ c.exceptionTable.toList, False) (hlt : l.stackTraces = false) {ls : Array Slot} {H : Heap} {locs : List Loc} (hW : XW Z h g s.heap H locs) (hl : lv_has ls 5 [(0, .ref (Z.1 0)), (1, .int p1), (2, .int p2), (3, .int p3)]) (hf : J_X10_setHandles_27 p1 p2 p3 h = some out) : W p l e (rmC 9 (kn out.1)) s m args below meth c H locs 0 0 (vx_MQ below (va_Qi (fun r (_ : Unit) => out.1 = 0 ∧ r = out.2.1) (fun _ => Wd Z out.2.2 g) (FR Z)) (XX Z out.2.2 g out.1) args s (kn out.1) (6 * kn out.1) (FR Z)) (F0 m 27 ls []) := by
  obtain rfl := Option.some.inj hf
  exact x_throwW (tag := 2) C hex hlt hW hl (by decide) th_X10_76 ms_X10_315 dX10_setHandles_27 dX10_setHandles_30 dX10_setHandles_31 dX10_setHandles_34 dX10_setHandles_37 (rm_thr (by decide)) (Nat.le_of_ble_eq_true rfl) (kn_thr (by show (2 : Nat) ≠ 0; decide)) (kn_thn (by show (2 : Nat) ≠ 0; decide))
set_option maxRecDepth 20000 in
set_option maxHeartbeats 1000000 in
theorem c_X10_setHandles {l : Launch} {Z : ZT} {g : va_W} {h : Hp} {p1 : Int32} {p2 : Int32} {p3 : Int32} (hlt : l.stackTraces = false) {out : Nat × (Int32 × Hp)} (hf : f_X10_setHandles h p1 p2 p3 = some out) : vx_Met l yX10_setHandles (wY yX10_setHandles cX10_setHandles 5 (some .int)) (rmC 9 (kn out.1)) (va_Pc [.ref (Z.1 0), .int p1, .int p2, .int p3] (Wd Z h g)) (va_Qi (fun r (_ : Unit) => out.1 = 0 ∧ r = out.2.1) (fun _ => Wd Z out.2.2 g) (FR Z)) (XX Z out.2.2 g out.1) (kn out.1) (6 * kn out.1) (FR Z) := by
  refine metXX RX10 rfl (by decide +kernel) (Nat.le_of_ble_eq_true rfl) ?_
  intro p e s m args below meth c C hex hW ls hl
  have hl : lv_has ls 5 [(0, .ref (Z.1 0)), (1, .int p1), (2, .int p2), (3, .int p3)] := hl
  unfold f_X10_setHandles at hf
  refine lv_aload_n C.1 C.2.1 dX10_setHandles_0 rfl (lv_at hl 0 rfl) ?_
  refine lv_iload_n C.1 C.2.1 dX10_setHandles_1 rfl (lv_at hl 1 rfl) ?_
  obtain ⟨u1, hcu1, hf⟩ := bnd_t hf
  rcases Classical.em (u1.1 = 0) with hn | hn
  · have hf := (if_pos hn).symm.trans hf
    refine x_thN hW (x_runVx C hW hl (wk8 (k_0)) rfl rfl (c_X10_requireBlock (out := u1) hlt hcu1) cw_X10_162 ci_X10_requireBlock cs_X10_requireBlock (rm_okX (by decide) (by decide)) (kn_z hn) (As := [.int p1]) rfl rfl (Nat.le_of_ble_eq_true rfl) dX10_setHandles_2) hn (fun H locs hW => ?_)
    refine lv_iload_n C.1 C.2.1 dX10_setHandles_5 rfl (lv_at hl 2 rfl) ?_
    refine x_iflt (tgt := 27) C hf dX10_setHandles_6 (by decide) (fun hf => ?_) (fun hf => ?_)
    · exact j_X10_setHandles_27 C hex hlt hW (lv_sub hl [0, 1, 2, 3] rfl) hf
    · refine lv_iload_n C.1 C.2.1 dX10_setHandles_9 rfl (lv_at hl 2 rfl) ?_
      refine lv_sipush (v := 999) C.1 C.2.1 dX10_setHandles_10 (by decide) ?_
      refine x_cmpgt (tgt := 27) C hf dX10_setHandles_13 (by decide) (fun hf => ?_) (fun hf => ?_)
      · exact j_X10_setHandles_27 C hex hlt hW (lv_sub hl [0, 1, 2, 3] rfl) hf
      · refine lv_iload_n C.1 C.2.1 dX10_setHandles_16 rfl (lv_at hl 3 rfl) ?_
        refine x_iflt (tgt := 27) C hf dX10_setHandles_17 (by decide) (fun hf => ?_) (fun hf => ?_)
        · exact j_X10_setHandles_27 C hex hlt hW (lv_sub hl [0, 1, 2, 3] rfl) hf
        · refine lv_iload_n C.1 C.2.1 dX10_setHandles_20 rfl (lv_at hl 3 rfl) ?_
          refine lv_sipush (v := 999) C.1 C.2.1 dX10_setHandles_21 (by decide) ?_
          refine x_cmple (tgt := 38) C hf dX10_setHandles_24 (by decide) (fun hf => ?_) (fun hf => ?_)
          · refine lv_aload_n C.1 C.2.1 dX10_setHandles_38 rfl (lv_at hl 0 rfl) ?_
            refine xg_X10_26 C hW (k_0) dX10_setHandles_39 ?_
            refine lv_aload_n C.1 C.2.1 dX10_setHandles_42 rfl (lv_at hl 0 rfl) ?_
            refine xg_X10_19 C hW (k_0) dX10_setHandles_43 ?_
            refine xg_X10_183 C hW (k_3) dX10_setHandles_46 ?_
            obtain ⟨u2, hcu2, hf⟩ := bnd_t hf
            refine x_callv hW (x_runV C hW hl (wk3 (k_13)) rfl rfl (c_X3_record (k_18) hcu2) (cw_X10_288) ci_X3_record cs_X3_record (rm_okC (by decide) (by decide)) ⟨Nat.zero_le _, Nat.zero_le _⟩ (As := [.ref (Z.1 18)]) rfl rfl (Nat.le_of_ble_eq_true rfl) dX10_setHandles_49) (fun H locs hW => ?_)
            refine lv_aload_n C.1 C.2.1 dX10_setHandles_52 rfl (lv_at hl 0 rfl) ?_
            refine xg_X10_19 C hW (k_0) dX10_setHandles_53 ?_
            refine xg_X10_183 C hW (k_3) dX10_setHandles_56 ?_
            refine xg_X10_187 C hW (k_18) dX10_setHandles_59 ?_
            refine lv_iload_n C.1 C.2.1 dX10_setHandles_62 rfl (lv_at hl 1 rfl) ?_
            refine lv_iload_n C.1 C.2.1 dX10_setHandles_63 rfl (lv_at hl 2 rfl) ?_
            refine x_iastC C hW (o_X0_3 (by decide)) hf dX10_setHandles_64 (fun h3 H locs hf hW => ?_)
            refine lv_aload_n C.1 C.2.1 dX10_setHandles_65 rfl (lv_at hl 0 rfl) ?_
            refine xg_X10_19 C hW (k_0) dX10_setHandles_66 ?_
            refine xg_X10_183 C hW (k_3) dX10_setHandles_69 ?_
            refine xg_X10_192 C hW (k_18) dX10_setHandles_72 ?_
            refine lv_iload_n C.1 C.2.1 dX10_setHandles_75 rfl (lv_at hl 1 rfl) ?_
            refine lv_iload_n C.1 C.2.1 dX10_setHandles_76 rfl (lv_at hl 3 rfl) ?_
            refine x_iastC C hW (o_X0_4 (by decide)) hf dX10_setHandles_77 (fun h4 H locs hf hW => ?_)
            refine lv_aload_n C.1 C.2.1 dX10_setHandles_78 rfl (lv_at hl 0 rfl) ?_
            refine xg_X10_19 C hW (k_0) dX10_setHandles_79 ?_
            obtain ⟨u5, hcu5, hf⟩ := bnd_t hf
            refine x_callv hW (x_runV C hW hl (wk1 (k_3)) rfl rfl (c_X1_layOut hcu5) (cw_X10_317) ci_X1_layOut cs_X1_layOut (rm_okC (by decide) (by decide)) ⟨Nat.zero_le _, Nat.zero_le _⟩ (As := []) rfl rfl (Nat.le_of_ble_eq_true rfl) dX10_setHandles_82) (fun H locs hW => ?_)
            refine lv_aload_n C.1 C.2.1 dX10_setHandles_85 rfl (lv_at hl 0 rfl) ?_
            refine xg_X10_19 C hW (k_0) dX10_setHandles_86 ?_
            refine xg_X10_195 C hW (k_3) dX10_setHandles_89 ?_
            refine lv_iload_n C.1 C.2.1 dX10_setHandles_92 rfl (lv_at hl 1 rfl) ?_
            refine x_ialdC C hW a_8 hf dX10_setHandles_93 (fun hf => ?_)
            refine x_ist C hf dX10_setHandles_94 hl (by decide) (fun v6 => [(4, .int v6), (0, .ref (Z.1 0)), (1, .int p1), (2, .int p2), (3, .int p3)]) (fun _ => rfl) (fun v6 ls hf hl => ?_)
            refine lv_iload C.1 C.2.1 dX10_setHandles_96 (lv_at hl 0 rfl) ?_
            refine lv_iconst (v := -1) C.1 C.2.1 dX10_setHandles_98 (by decide) ?_
            refine x_cmpne (tgt := 106) C hf dX10_setHandles_99 (by decide) (fun hf => ?_) (fun hf => ?_)
            · refine lv_aload_n C.1 C.2.1 dX10_setHandles_106 rfl (lv_at hl 1 rfl) ?_
              refine xg_X10_19 C hW (k_0) dX10_setHandles_107 ?_
              refine lv_iload C.1 C.2.1 dX10_setHandles_110 (lv_at hl 0 rfl) ?_
              obtain ⟨u7, hcu7, hf⟩ := bnd_t hf
              refine x_calli hW (x_runV C hW hl (wk1 (k_3)) rfl rfl (c_X1_framesOfShot hcu7) (cw_X10_320) ci_X1_framesOfShot cs_X1_framesOfShot (rm_okC (by decide) (by decide)) ⟨Nat.zero_le _, Nat.zero_le _⟩ (As := [.int v6]) rfl rfl (Nat.le_of_ble_eq_true rfl) dX10_setHandles_112) (fun H locs hW => ?_)
              obtain rfl := Option.some.inj hf
              refine vx_ret ?_
              exact x_iret C hW dX10_setHandles_115 ⟨rfl, rfl⟩
            · refine lv_iconst (v := 0) C.1 C.2.1 dX10_setHandles_102 (by decide) ?_
              refine lv_goto (tgt := 115) C.1 C.2.1 dX10_setHandles_103 (by decide) ?_
              obtain rfl := Option.some.inj hf
              refine vx_ret ?_
              exact x_iret C hW dX10_setHandles_115 ⟨rfl, rfl⟩
          · exact j_X10_setHandles_27 C hex hlt hW (lv_sub hl [0, 1, 2, 3] rfl) hf
  · obtain rfl := Option.some.inj ((if_neg hn).symm.trans hf)
    exact x_thE C hex hW (x_runVx C hW hl (wk8 (k_0)) rfl rfl (c_X10_requireBlock (out := u1) hlt hcu1) cw_X10_162 ci_X10_requireBlock cs_X10_requireBlock (rm_okX (by decide) (by decide)) kn_s (As := [.int p1]) rfl rfl (Nat.le_of_ble_eq_true rfl) dX10_setHandles_2) hn kn_n
