abbrev cX1_findClips : ByteArray := prog_3_method_4_code
def yX1_findClips : MethodName := ⟨RX1, "findClips", "()V"⟩
theorem dX1_findClips_0 : decode cX1_findClips 0 = .ok (.aload_n 0, 1) := by decide +kernel
theorem dX1_findClips_1 : decode cX1_findClips 1 = .ok (.iconst 0, 1) := by decide +kernel
theorem dX1_findClips_2 : decode cX1_findClips 2 = .ok (.putfield 106, 3) := by decide +kernel
theorem dX1_findClips_5 : decode cX1_findClips 5 = .ok (.iconst 0, 1) := by decide +kernel
theorem dX1_findClips_6 : decode cX1_findClips 6 = .ok (.istore_n 1, 1) := by decide +kernel
theorem dX1_findClips_7 : decode cX1_findClips 7 = .ok (.iload_n 1, 1) := by decide +kernel
theorem dX1_findClips_8 : decode cX1_findClips 8 = .ok (.aload_n 0, 1) := by decide +kernel
theorem dX1_findClips_9 : decode cX1_findClips 9 = .ok (.getfield 21, 3) := by decide +kernel
theorem dX1_findClips_12 : decode cX1_findClips 12 = .ok (.getfield 70, 3) := by decide +kernel
theorem dX1_findClips_15 : decode cX1_findClips 15 = .ok (.if_icmp .ge 50, 3) := by decide +kernel
theorem dX1_findClips_18 : decode cX1_findClips 18 = .ok (.iload_n 1, 1) := by decide +kernel
theorem dX1_findClips_19 : decode cX1_findClips 19 = .ok (.ifCond .eq 20, 3) := by decide +kernel
theorem dX1_findClips_22 : decode cX1_findClips 22 = .ok (.aload_n 0, 1) := by decide +kernel
theorem dX1_findClips_23 : decode cX1_findClips 23 = .ok (.getfield 25, 3) := by decide +kernel
theorem dX1_findClips_26 : decode cX1_findClips 26 = .ok (.iload_n 1, 1) := by decide +kernel
theorem dX1_findClips_27 : decode cX1_findClips 27 = .ok (.iaload, 1) := by decide +kernel
theorem dX1_findClips_28 : decode cX1_findClips 28 = .ok (.aload_n 0, 1) := by decide +kernel
theorem dX1_findClips_29 : decode cX1_findClips 29 = .ok (.getfield 29, 3) := by decide +kernel
theorem dX1_findClips_32 : decode cX1_findClips 32 = .ok (.iload_n 1, 1) := by decide +kernel
theorem dX1_findClips_33 : decode cX1_findClips 33 = .ok (.iconst 1, 1) := by decide +kernel
theorem dX1_findClips_34 : decode cX1_findClips 34 = .ok (.isub, 1) := by decide +kernel
theorem dX1_findClips_35 : decode cX1_findClips 35 = .ok (.iaload, 1) := by decide +kernel
theorem dX1_findClips_36 : decode cX1_findClips 36 = .ok (.if_icmp .eq 23, 3) := by decide +kernel
theorem dX1_findClips_39 : decode cX1_findClips 39 = .ok (.aload_n 0, 1) := by decide +kernel
theorem dX1_findClips_40 : decode cX1_findClips 40 = .ok (.getfield 47, 3) := by decide +kernel
theorem dX1_findClips_43 : decode cX1_findClips 43 = .ok (.aload_n 0, 1) := by decide +kernel
theorem dX1_findClips_44 : decode cX1_findClips 44 = .ok (.getfield 106, 3) := by decide +kernel
theorem dX1_findClips_47 : decode cX1_findClips 47 = .ok (.iload_n 1, 1) := by decide +kernel
theorem dX1_findClips_48 : decode cX1_findClips 48 = .ok (.iastore, 1) := by decide +kernel
theorem dX1_findClips_49 : decode cX1_findClips 49 = .ok (.aload_n 0, 1) := by decide +kernel
theorem dX1_findClips_50 : decode cX1_findClips 50 = .ok (.dup, 1) := by decide +kernel
theorem dX1_findClips_51 : decode cX1_findClips 51 = .ok (.getfield 106, 3) := by decide +kernel
theorem dX1_findClips_54 : decode cX1_findClips 54 = .ok (.iconst 1, 1) := by decide +kernel
theorem dX1_findClips_55 : decode cX1_findClips 55 = .ok (.iadd, 1) := by decide +kernel
theorem dX1_findClips_56 : decode cX1_findClips 56 = .ok (.putfield 106, 3) := by decide +kernel
theorem dX1_findClips_59 : decode cX1_findClips 59 = .ok (.iinc 1 1, 3) := by decide +kernel
theorem dX1_findClips_62 : decode cX1_findClips 62 = .ok (.goto (-55), 3) := by decide +kernel
theorem dX1_findClips_65 : decode cX1_findClips 65 = .ok (.aload_n 0, 1) := by decide +kernel
theorem dX1_findClips_66 : decode cX1_findClips 66 = .ok (.getfield 47, 3) := by decide +kernel
theorem dX1_findClips_69 : decode cX1_findClips 69 = .ok (.aload_n 0, 1) := by decide +kernel
theorem dX1_findClips_70 : decode cX1_findClips 70 = .ok (.getfield 106, 3) := by decide +kernel
theorem dX1_findClips_73 : decode cX1_findClips 73 = .ok (.aload_n 0, 1) := by decide +kernel
theorem dX1_findClips_74 : decode cX1_findClips 74 = .ok (.getfield 21, 3) := by decide +kernel
theorem dX1_findClips_77 : decode cX1_findClips 77 = .ok (.getfield 70, 3) := by decide +kernel
theorem dX1_findClips_80 : decode cX1_findClips 80 = .ok (.iastore, 1) := by decide +kernel
theorem dX1_findClips_81 : decode cX1_findClips 81 = .ok (.return_, 1) := by decide +kernel
theorem ci_X1_findClips : Cond.instanceMethod yX1_findClips ∈ TW := TW_of 994 (by decide +kernel) (by decide +kernel)
theorem cs_X1_findClips : Cond.selects yX1_findClips.cls yX1_findClips yX1_findClips ∈ TW := TW_of 6 (by decide +kernel) (by decide +kernel)
abbrev cX1_framesOfShot : ByteArray := prog_3_method_8_code
def yX1_framesOfShot : MethodName := ⟨RX1, "framesOfShot", "(I)I"⟩
theorem dX1_framesOfShot_0 : decode cX1_framesOfShot 0 = .ok (.aload_n 0, 1) := by decide +kernel
theorem dX1_framesOfShot_1 : decode cX1_framesOfShot 1 = .ok (.getfield 29, 3) := by decide +kernel
theorem dX1_framesOfShot_4 : decode cX1_framesOfShot 4 = .ok (.iload_n 1, 1) := by decide +kernel
theorem dX1_framesOfShot_5 : decode cX1_framesOfShot 5 = .ok (.iaload, 1) := by decide +kernel
theorem dX1_framesOfShot_6 : decode cX1_framesOfShot 6 = .ok (.aload_n 0, 1) := by decide +kernel
theorem dX1_framesOfShot_7 : decode cX1_framesOfShot 7 = .ok (.getfield 25, 3) := by decide +kernel
theorem dX1_framesOfShot_10 : decode cX1_framesOfShot 10 = .ok (.iload_n 1, 1) := by decide +kernel
theorem dX1_framesOfShot_11 : decode cX1_framesOfShot 11 = .ok (.iaload, 1) := by decide +kernel
theorem dX1_framesOfShot_12 : decode cX1_framesOfShot 12 = .ok (.isub, 1) := by decide +kernel
theorem dX1_framesOfShot_13 : decode cX1_framesOfShot 13 = .ok (.ireturn, 1) := by decide +kernel
theorem ci_X1_framesOfShot : Cond.instanceMethod yX1_framesOfShot ∈ TW := TW_of 989 (by decide +kernel) (by decide +kernel)
theorem cs_X1_framesOfShot : Cond.selects yX1_framesOfShot.cls yX1_framesOfShot yX1_framesOfShot ∈ TW := TW_of 990 (by decide +kernel) (by decide +kernel)
abbrev cX1_measureSilence : ByteArray := prog_3_method_5_code
def yX1_measureSilence : MethodName := ⟨RX1, "measureSilence", "()V"⟩
theorem dX1_measureSilence_0 : decode cX1_measureSilence 0 = .ok (.aload_n 0, 1) := by decide +kernel
theorem dX1_measureSilence_1 : decode cX1_measureSilence 1 = .ok (.iconst 0, 1) := by decide +kernel
theorem dX1_measureSilence_2 : decode cX1_measureSilence 2 = .ok (.putfield 109, 3) := by decide +kernel
theorem dX1_measureSilence_5 : decode cX1_measureSilence 5 = .ok (.aload_n 0, 1) := by decide +kernel
theorem dX1_measureSilence_6 : decode cX1_measureSilence 6 = .ok (.iconst 0, 1) := by decide +kernel
theorem dX1_measureSilence_7 : decode cX1_measureSilence 7 = .ok (.putfield 112, 3) := by decide +kernel
theorem dX1_measureSilence_10 : decode cX1_measureSilence 10 = .ok (.iconst 0, 1) := by decide +kernel
theorem dX1_measureSilence_11 : decode cX1_measureSilence 11 = .ok (.istore_n 1, 1) := by decide +kernel
theorem dX1_measureSilence_12 : decode cX1_measureSilence 12 = .ok (.iconst 0, 1) := by decide +kernel
theorem dX1_measureSilence_13 : decode cX1_measureSilence 13 = .ok (.istore_n 2, 1) := by decide +kernel
theorem dX1_measureSilence_14 : decode cX1_measureSilence 14 = .ok (.iload_n 2, 1) := by decide +kernel
theorem dX1_measureSilence_15 : decode cX1_measureSilence 15 = .ok (.aload_n 0, 1) := by decide +kernel
theorem dX1_measureSilence_16 : decode cX1_measureSilence 16 = .ok (.getfield 21, 3) := by decide +kernel
theorem dX1_measureSilence_19 : decode cX1_measureSilence 19 = .ok (.getfield 70, 3) := by decide +kernel
theorem dX1_measureSilence_22 : decode cX1_measureSilence 22 = .ok (.if_icmp .ge 141, 3) := by decide +kernel
theorem dX1_measureSilence_25 : decode cX1_measureSilence 25 = .ok (.aload_n 0, 1) := by decide +kernel
theorem dX1_measureSilence_26 : decode cX1_measureSilence 26 = .ok (.getfield 25, 3) := by decide +kernel
theorem dX1_measureSilence_29 : decode cX1_measureSilence 29 = .ok (.iload_n 2, 1) := by decide +kernel
theorem dX1_measureSilence_30 : decode cX1_measureSilence 30 = .ok (.iaload, 1) := by decide +kernel
theorem dX1_measureSilence_31 : decode cX1_measureSilence 31 = .ok (.istore_n 3, 1) := by decide +kernel
theorem dX1_measureSilence_32 : decode cX1_measureSilence 32 = .ok (.aload_n 0, 1) := by decide +kernel
theorem dX1_measureSilence_33 : decode cX1_measureSilence 33 = .ok (.getfield 35, 3) := by decide +kernel
theorem dX1_measureSilence_36 : decode cX1_measureSilence 36 = .ok (.iload_n 2, 1) := by decide +kernel
theorem dX1_measureSilence_37 : decode cX1_measureSilence 37 = .ok (.iaload, 1) := by decide +kernel
theorem dX1_measureSilence_38 : decode cX1_measureSilence 38 = .ok (.istore 4, 2) := by decide +kernel
theorem dX1_measureSilence_40 : decode cX1_measureSilence 40 = .ok (.iload 4, 2) := by decide +kernel
theorem dX1_measureSilence_42 : decode cX1_measureSilence 42 = .ok (.aload_n 0, 1) := by decide +kernel
theorem dX1_measureSilence_43 : decode cX1_measureSilence 43 = .ok (.getfield 35, 3) := by decide +kernel
theorem dX1_measureSilence_46 : decode cX1_measureSilence 46 = .ok (.iload_n 2, 1) := by decide +kernel
theorem dX1_measureSilence_47 : decode cX1_measureSilence 47 = .ok (.iconst 1, 1) := by decide +kernel
theorem dX1_measureSilence_48 : decode cX1_measureSilence 48 = .ok (.iadd, 1) := by decide +kernel
theorem dX1_measureSilence_49 : decode cX1_measureSilence 49 = .ok (.iaload, 1) := by decide +kernel
theorem dX1_measureSilence_50 : decode cX1_measureSilence 50 = .ok (.if_icmp .ge 79, 3) := by decide +kernel
theorem dX1_measureSilence_53 : decode cX1_measureSilence 53 = .ok (.aload_n 0, 1) := by decide +kernel
theorem dX1_measureSilence_54 : decode cX1_measureSilence 54 = .ok (.getfield 41, 3) := by decide +kernel
theorem dX1_measureSilence_57 : decode cX1_measureSilence 57 = .ok (.iload 4, 2) := by decide +kernel
theorem dX1_measureSilence_59 : decode cX1_measureSilence 59 = .ok (.iaload, 1) := by decide +kernel
theorem dX1_measureSilence_60 : decode cX1_measureSilence 60 = .ok (.istore 5, 2) := by decide +kernel
theorem dX1_measureSilence_62 : decode cX1_measureSilence 62 = .ok (.iconst 0, 1) := by decide +kernel
theorem dX1_measureSilence_63 : decode cX1_measureSilence 63 = .ok (.aload_n 0, 1) := by decide +kernel
theorem dX1_measureSilence_64 : decode cX1_measureSilence 64 = .ok (.getfield 12, 3) := by decide +kernel
theorem dX1_measureSilence_67 : decode cX1_measureSilence 67 = .ok (.getfield 115, 3) := by decide +kernel
theorem dX1_measureSilence_70 : decode cX1_measureSilence 70 = .ok (.iload 5, 2) := by decide +kernel
theorem dX1_measureSilence_72 : decode cX1_measureSilence 72 = .ok (.iaload, 1) := by decide +kernel
theorem dX1_measureSilence_73 : decode cX1_measureSilence 73 = .ok (.iload_n 3, 1) := by decide +kernel
theorem dX1_measureSilence_74 : decode cX1_measureSilence 74 = .ok (.isub, 1) := by decide +kernel
theorem dX1_measureSilence_75 : decode cX1_measureSilence 75 = .ok (.invokestatic 118, 3) := by decide +kernel
theorem dX1_measureSilence_78 : decode cX1_measureSilence 78 = .ok (.istore 6, 2) := by decide +kernel
theorem dX1_measureSilence_80 : decode cX1_measureSilence 80 = .ok (.aload_n 0, 1) := by decide +kernel
theorem dX1_measureSilence_81 : decode cX1_measureSilence 81 = .ok (.dup, 1) := by decide +kernel
theorem dX1_measureSilence_82 : decode cX1_measureSilence 82 = .ok (.getfield 109, 3) := by decide +kernel
theorem dX1_measureSilence_85 : decode cX1_measureSilence 85 = .ok (.iload 6, 2) := by decide +kernel
theorem dX1_measureSilence_87 : decode cX1_measureSilence 87 = .ok (.iadd, 1) := by decide +kernel
theorem dX1_measureSilence_88 : decode cX1_measureSilence 88 = .ok (.putfield 109, 3) := by decide +kernel
theorem dX1_measureSilence_91 : decode cX1_measureSilence 91 = .ok (.aload_n 0, 1) := by decide +kernel
theorem dX1_measureSilence_92 : decode cX1_measureSilence 92 = .ok (.aload_n 0, 1) := by decide +kernel
theorem dX1_measureSilence_93 : decode cX1_measureSilence 93 = .ok (.getfield 112, 3) := by decide +kernel
theorem dX1_measureSilence_96 : decode cX1_measureSilence 96 = .ok (.iload_n 1, 1) := by decide +kernel
theorem dX1_measureSilence_97 : decode cX1_measureSilence 97 = .ok (.iload 6, 2) := by decide +kernel
theorem dX1_measureSilence_99 : decode cX1_measureSilence 99 = .ok (.iadd, 1) := by decide +kernel
theorem dX1_measureSilence_100 : decode cX1_measureSilence 100 = .ok (.invokestatic 118, 3) := by decide +kernel
theorem dX1_measureSilence_103 : decode cX1_measureSilence 103 = .ok (.putfield 112, 3) := by decide +kernel
theorem dX1_measureSilence_106 : decode cX1_measureSilence 106 = .ok (.iconst 0, 1) := by decide +kernel
theorem dX1_measureSilence_107 : decode cX1_measureSilence 107 = .ok (.istore_n 1, 1) := by decide +kernel
theorem dX1_measureSilence_108 : decode cX1_measureSilence 108 = .ok (.iload_n 3, 1) := by decide +kernel
theorem dX1_measureSilence_109 : decode cX1_measureSilence 109 = .ok (.aload_n 0, 1) := by decide +kernel
theorem dX1_measureSilence_110 : decode cX1_measureSilence 110 = .ok (.getfield 12, 3) := by decide +kernel
theorem dX1_measureSilence_113 : decode cX1_measureSilence 113 = .ok (.getfield 123, 3) := by decide +kernel
theorem dX1_measureSilence_116 : decode cX1_measureSilence 116 = .ok (.iload 5, 2) := by decide +kernel
theorem dX1_measureSilence_118 : decode cX1_measureSilence 118 = .ok (.iaload, 1) := by decide +kernel
theorem dX1_measureSilence_119 : decode cX1_measureSilence 119 = .ok (.invokestatic 118, 3) := by decide +kernel
theorem dX1_measureSilence_122 : decode cX1_measureSilence 122 = .ok (.istore_n 3, 1) := by decide +kernel
theorem dX1_measureSilence_123 : decode cX1_measureSilence 123 = .ok (.iinc 4 1, 3) := by decide +kernel
theorem dX1_measureSilence_126 : decode cX1_measureSilence 126 = .ok (.goto (-86), 3) := by decide +kernel
theorem dX1_measureSilence_129 : decode cX1_measureSilence 129 = .ok (.iload_n 1, 1) := by decide +kernel
theorem dX1_measureSilence_130 : decode cX1_measureSilence 130 = .ok (.aload_n 0, 1) := by decide +kernel
theorem dX1_measureSilence_131 : decode cX1_measureSilence 131 = .ok (.getfield 29, 3) := by decide +kernel
theorem dX1_measureSilence_134 : decode cX1_measureSilence 134 = .ok (.iload_n 2, 1) := by decide +kernel
theorem dX1_measureSilence_135 : decode cX1_measureSilence 135 = .ok (.iaload, 1) := by decide +kernel
theorem dX1_measureSilence_136 : decode cX1_measureSilence 136 = .ok (.iload_n 3, 1) := by decide +kernel
theorem dX1_measureSilence_137 : decode cX1_measureSilence 137 = .ok (.isub, 1) := by decide +kernel
theorem dX1_measureSilence_138 : decode cX1_measureSilence 138 = .ok (.iadd, 1) := by decide +kernel
theorem dX1_measureSilence_139 : decode cX1_measureSilence 139 = .ok (.istore_n 1, 1) := by decide +kernel
theorem dX1_measureSilence_140 : decode cX1_measureSilence 140 = .ok (.aload_n 0, 1) := by decide +kernel
theorem dX1_measureSilence_141 : decode cX1_measureSilence 141 = .ok (.dup, 1) := by decide +kernel
theorem dX1_measureSilence_142 : decode cX1_measureSilence 142 = .ok (.getfield 109, 3) := by decide +kernel
theorem dX1_measureSilence_145 : decode cX1_measureSilence 145 = .ok (.aload_n 0, 1) := by decide +kernel
theorem dX1_measureSilence_146 : decode cX1_measureSilence 146 = .ok (.getfield 29, 3) := by decide +kernel
theorem dX1_measureSilence_149 : decode cX1_measureSilence 149 = .ok (.iload_n 2, 1) := by decide +kernel
theorem dX1_measureSilence_150 : decode cX1_measureSilence 150 = .ok (.iaload, 1) := by decide +kernel
theorem dX1_measureSilence_151 : decode cX1_measureSilence 151 = .ok (.iload_n 3, 1) := by decide +kernel
theorem dX1_measureSilence_152 : decode cX1_measureSilence 152 = .ok (.isub, 1) := by decide +kernel
theorem dX1_measureSilence_153 : decode cX1_measureSilence 153 = .ok (.iadd, 1) := by decide +kernel
theorem dX1_measureSilence_154 : decode cX1_measureSilence 154 = .ok (.putfield 109, 3) := by decide +kernel
theorem dX1_measureSilence_157 : decode cX1_measureSilence 157 = .ok (.iinc 2 1, 3) := by decide +kernel
theorem dX1_measureSilence_160 : decode cX1_measureSilence 160 = .ok (.goto (-146), 3) := by decide +kernel
theorem dX1_measureSilence_163 : decode cX1_measureSilence 163 = .ok (.aload_n 0, 1) := by decide +kernel
theorem dX1_measureSilence_164 : decode cX1_measureSilence 164 = .ok (.aload_n 0, 1) := by decide +kernel
theorem dX1_measureSilence_165 : decode cX1_measureSilence 165 = .ok (.getfield 112, 3) := by decide +kernel
theorem dX1_measureSilence_168 : decode cX1_measureSilence 168 = .ok (.iload_n 1, 1) := by decide +kernel
theorem dX1_measureSilence_169 : decode cX1_measureSilence 169 = .ok (.invokestatic 118, 3) := by decide +kernel
theorem dX1_measureSilence_172 : decode cX1_measureSilence 172 = .ok (.putfield 112, 3) := by decide +kernel
theorem dX1_measureSilence_175 : decode cX1_measureSilence 175 = .ok (.return_, 1) := by decide +kernel
theorem ci_X1_measureSilence : Cond.instanceMethod yX1_measureSilence ∈ TW := TW_of 998 (by decide +kernel) (by decide +kernel)
theorem cs_X1_measureSilence : Cond.selects yX1_measureSilence.cls yX1_measureSilence yX1_measureSilence ∈ TW := TW_of 7 (by decide +kernel) (by decide +kernel)
abbrev cX1_layOut : ByteArray := prog_3_method_3_code
def yX1_layOut : MethodName := ⟨RX1, "layOut", "()V"⟩
theorem dX1_layOut_0 : decode cX1_layOut 0 = .ok (.aload_n 0, 1) := by decide +kernel
theorem dX1_layOut_1 : decode cX1_layOut 1 = .ok (.iconst 0, 1) := by decide +kernel
theorem dX1_layOut_2 : decode cX1_layOut 2 = .ok (.putfield 64, 3) := by decide +kernel
theorem dX1_layOut_5 : decode cX1_layOut 5 = .ok (.aload_n 0, 1) := by decide +kernel
theorem dX1_layOut_6 : decode cX1_layOut 6 = .ok (.iconst 0, 1) := by decide +kernel
theorem dX1_layOut_7 : decode cX1_layOut 7 = .ok (.putfield 67, 3) := by decide +kernel
theorem dX1_layOut_10 : decode cX1_layOut 10 = .ok (.iconst 0, 1) := by decide +kernel
theorem dX1_layOut_11 : decode cX1_layOut 11 = .ok (.istore_n 1, 1) := by decide +kernel
theorem dX1_layOut_12 : decode cX1_layOut 12 = .ok (.iload_n 1, 1) := by decide +kernel
theorem dX1_layOut_13 : decode cX1_layOut 13 = .ok (.bipush 40, 2) := by decide +kernel
theorem dX1_layOut_15 : decode cX1_layOut 15 = .ok (.if_icmp .ge 23, 3) := by decide +kernel
theorem dX1_layOut_18 : decode cX1_layOut 18 = .ok (.aload_n 0, 1) := by decide +kernel
theorem dX1_layOut_19 : decode cX1_layOut 19 = .ok (.getfield 38, 3) := by decide +kernel
theorem dX1_layOut_22 : decode cX1_layOut 22 = .ok (.iload_n 1, 1) := by decide +kernel
theorem dX1_layOut_23 : decode cX1_layOut 23 = .ok (.iconst (-1), 1) := by decide +kernel
theorem dX1_layOut_24 : decode cX1_layOut 24 = .ok (.iastore, 1) := by decide +kernel
theorem dX1_layOut_25 : decode cX1_layOut 25 = .ok (.aload_n 0, 1) := by decide +kernel
theorem dX1_layOut_26 : decode cX1_layOut 26 = .ok (.getfield 44, 3) := by decide +kernel
theorem dX1_layOut_29 : decode cX1_layOut 29 = .ok (.iload_n 1, 1) := by decide +kernel
theorem dX1_layOut_30 : decode cX1_layOut 30 = .ok (.iconst (-1), 1) := by decide +kernel
theorem dX1_layOut_31 : decode cX1_layOut 31 = .ok (.iastore, 1) := by decide +kernel
theorem dX1_layOut_32 : decode cX1_layOut 32 = .ok (.iinc 1 1, 3) := by decide +kernel
theorem dX1_layOut_35 : decode cX1_layOut 35 = .ok (.goto (-23), 3) := by decide +kernel
theorem dX1_layOut_38 : decode cX1_layOut 38 = .ok (.iconst 0, 1) := by decide +kernel
theorem dX1_layOut_39 : decode cX1_layOut 39 = .ok (.istore_n 1, 1) := by decide +kernel
theorem dX1_layOut_40 : decode cX1_layOut 40 = .ok (.iload_n 1, 1) := by decide +kernel
theorem dX1_layOut_41 : decode cX1_layOut 41 = .ok (.aload_n 0, 1) := by decide +kernel
theorem dX1_layOut_42 : decode cX1_layOut 42 = .ok (.getfield 21, 3) := by decide +kernel
theorem dX1_layOut_45 : decode cX1_layOut 45 = .ok (.getfield 70, 3) := by decide +kernel
theorem dX1_layOut_48 : decode cX1_layOut 48 = .ok (.if_icmp .ge 179, 3) := by decide +kernel
theorem dX1_layOut_51 : decode cX1_layOut 51 = .ok (.aload_n 0, 1) := by decide +kernel
theorem dX1_layOut_52 : decode cX1_layOut 52 = .ok (.getfield 21, 3) := by decide +kernel
theorem dX1_layOut_55 : decode cX1_layOut 55 = .ok (.getfield 73, 3) := by decide +kernel
theorem dX1_layOut_58 : decode cX1_layOut 58 = .ok (.iload_n 1, 1) := by decide +kernel
theorem dX1_layOut_59 : decode cX1_layOut 59 = .ok (.iaload, 1) := by decide +kernel
theorem dX1_layOut_60 : decode cX1_layOut 60 = .ok (.istore_n 2, 1) := by decide +kernel
theorem dX1_layOut_61 : decode cX1_layOut 61 = .ok (.aload_n 0, 1) := by decide +kernel
theorem dX1_layOut_62 : decode cX1_layOut 62 = .ok (.getfield 38, 3) := by decide +kernel
theorem dX1_layOut_65 : decode cX1_layOut 65 = .ok (.iload_n 2, 1) := by decide +kernel
theorem dX1_layOut_66 : decode cX1_layOut 66 = .ok (.iload_n 1, 1) := by decide +kernel
theorem dX1_layOut_67 : decode cX1_layOut 67 = .ok (.iastore, 1) := by decide +kernel
theorem dX1_layOut_68 : decode cX1_layOut 68 = .ok (.aload_n 0, 1) := by decide +kernel
theorem dX1_layOut_69 : decode cX1_layOut 69 = .ok (.getfield 25, 3) := by decide +kernel
theorem dX1_layOut_72 : decode cX1_layOut 72 = .ok (.iload_n 1, 1) := by decide +kernel
theorem dX1_layOut_73 : decode cX1_layOut 73 = .ok (.aload_n 0, 1) := by decide +kernel
theorem dX1_layOut_74 : decode cX1_layOut 74 = .ok (.getfield 12, 3) := by decide +kernel
theorem dX1_layOut_77 : decode cX1_layOut 77 = .ok (.iload_n 2, 1) := by decide +kernel
theorem dX1_layOut_78 : decode cX1_layOut 78 = .ok (.aload_n 0, 1) := by decide +kernel
theorem dX1_layOut_79 : decode cX1_layOut 79 = .ok (.getfield 21, 3) := by decide +kernel
theorem dX1_layOut_82 : decode cX1_layOut 82 = .ok (.getfield 76, 3) := by decide +kernel
theorem dX1_layOut_85 : decode cX1_layOut 85 = .ok (.iload_n 2, 1) := by decide +kernel
theorem dX1_layOut_86 : decode cX1_layOut 86 = .ok (.iaload, 1) := by decide +kernel
theorem dX1_layOut_87 : decode cX1_layOut 87 = .ok (.invokevirtual 79, 3) := by decide +kernel
theorem dX1_layOut_90 : decode cX1_layOut 90 = .ok (.iastore, 1) := by decide +kernel
theorem dX1_layOut_91 : decode cX1_layOut 91 = .ok (.aload_n 0, 1) := by decide +kernel
theorem dX1_layOut_92 : decode cX1_layOut 92 = .ok (.getfield 29, 3) := by decide +kernel
theorem dX1_layOut_95 : decode cX1_layOut 95 = .ok (.iload_n 1, 1) := by decide +kernel
theorem dX1_layOut_96 : decode cX1_layOut 96 = .ok (.aload_n 0, 1) := by decide +kernel
theorem dX1_layOut_97 : decode cX1_layOut 97 = .ok (.getfield 12, 3) := by decide +kernel
theorem dX1_layOut_100 : decode cX1_layOut 100 = .ok (.iload_n 2, 1) := by decide +kernel
theorem dX1_layOut_101 : decode cX1_layOut 101 = .ok (.aload_n 0, 1) := by decide +kernel
theorem dX1_layOut_102 : decode cX1_layOut 102 = .ok (.getfield 21, 3) := by decide +kernel
theorem dX1_layOut_105 : decode cX1_layOut 105 = .ok (.getfield 83, 3) := by decide +kernel
theorem dX1_layOut_108 : decode cX1_layOut 108 = .ok (.iload_n 2, 1) := by decide +kernel
theorem dX1_layOut_109 : decode cX1_layOut 109 = .ok (.iaload, 1) := by decide +kernel
theorem dX1_layOut_110 : decode cX1_layOut 110 = .ok (.invokevirtual 86, 3) := by decide +kernel
theorem dX1_layOut_113 : decode cX1_layOut 113 = .ok (.iastore, 1) := by decide +kernel
theorem dX1_layOut_114 : decode cX1_layOut 114 = .ok (.aload_n 0, 1) := by decide +kernel
theorem dX1_layOut_115 : decode cX1_layOut 115 = .ok (.getfield 32, 3) := by decide +kernel
theorem dX1_layOut_118 : decode cX1_layOut 118 = .ok (.iload_n 1, 1) := by decide +kernel
theorem dX1_layOut_119 : decode cX1_layOut 119 = .ok (.aload_n 0, 1) := by decide +kernel
theorem dX1_layOut_120 : decode cX1_layOut 120 = .ok (.getfield 64, 3) := by decide +kernel
theorem dX1_layOut_123 : decode cX1_layOut 123 = .ok (.iastore, 1) := by decide +kernel
theorem dX1_layOut_124 : decode cX1_layOut 124 = .ok (.aload_n 0, 1) := by decide +kernel
theorem dX1_layOut_125 : decode cX1_layOut 125 = .ok (.dup, 1) := by decide +kernel
theorem dX1_layOut_126 : decode cX1_layOut 126 = .ok (.getfield 64, 3) := by decide +kernel
theorem dX1_layOut_129 : decode cX1_layOut 129 = .ok (.aload_n 0, 1) := by decide +kernel
theorem dX1_layOut_130 : decode cX1_layOut 130 = .ok (.iload_n 1, 1) := by decide +kernel
theorem dX1_layOut_131 : decode cX1_layOut 131 = .ok (.invokevirtual 89, 3) := by decide +kernel
theorem dX1_layOut_134 : decode cX1_layOut 134 = .ok (.iadd, 1) := by decide +kernel
theorem dX1_layOut_135 : decode cX1_layOut 135 = .ok (.putfield 64, 3) := by decide +kernel
theorem dX1_layOut_138 : decode cX1_layOut 138 = .ok (.aload_n 0, 1) := by decide +kernel
theorem dX1_layOut_139 : decode cX1_layOut 139 = .ok (.getfield 35, 3) := by decide +kernel
theorem dX1_layOut_142 : decode cX1_layOut 142 = .ok (.iload_n 1, 1) := by decide +kernel
theorem dX1_layOut_143 : decode cX1_layOut 143 = .ok (.aload_n 0, 1) := by decide +kernel
theorem dX1_layOut_144 : decode cX1_layOut 144 = .ok (.getfield 67, 3) := by decide +kernel
theorem dX1_layOut_147 : decode cX1_layOut 147 = .ok (.iastore, 1) := by decide +kernel
theorem dX1_layOut_148 : decode cX1_layOut 148 = .ok (.aload_n 0, 1) := by decide +kernel
theorem dX1_layOut_149 : decode cX1_layOut 149 = .ok (.getfield 12, 3) := by decide +kernel
theorem dX1_layOut_152 : decode cX1_layOut 152 = .ok (.getfield 93, 3) := by decide +kernel
theorem dX1_layOut_155 : decode cX1_layOut 155 = .ok (.iload_n 2, 1) := by decide +kernel
theorem dX1_layOut_156 : decode cX1_layOut 156 = .ok (.iaload, 1) := by decide +kernel
theorem dX1_layOut_157 : decode cX1_layOut 157 = .ok (.istore_n 3, 1) := by decide +kernel
theorem dX1_layOut_158 : decode cX1_layOut 158 = .ok (.iload_n 3, 1) := by decide +kernel
theorem dX1_layOut_159 : decode cX1_layOut 159 = .ok (.aload_n 0, 1) := by decide +kernel
theorem dX1_layOut_160 : decode cX1_layOut 160 = .ok (.getfield 12, 3) := by decide +kernel
theorem dX1_layOut_163 : decode cX1_layOut 163 = .ok (.getfield 93, 3) := by decide +kernel
theorem dX1_layOut_166 : decode cX1_layOut 166 = .ok (.iload_n 2, 1) := by decide +kernel
theorem dX1_layOut_167 : decode cX1_layOut 167 = .ok (.iconst 1, 1) := by decide +kernel
theorem dX1_layOut_168 : decode cX1_layOut 168 = .ok (.iadd, 1) := by decide +kernel
theorem dX1_layOut_169 : decode cX1_layOut 169 = .ok (.iaload, 1) := by decide +kernel
theorem dX1_layOut_170 : decode cX1_layOut 170 = .ok (.if_icmp .ge 51, 3) := by decide +kernel
theorem dX1_layOut_173 : decode cX1_layOut 173 = .ok (.aload_n 0, 1) := by decide +kernel
theorem dX1_layOut_174 : decode cX1_layOut 174 = .ok (.getfield 21, 3) := by decide +kernel
theorem dX1_layOut_177 : decode cX1_layOut 177 = .ok (.getfield 96, 3) := by decide +kernel
theorem dX1_layOut_180 : decode cX1_layOut 180 = .ok (.iload_n 3, 1) := by decide +kernel
theorem dX1_layOut_181 : decode cX1_layOut 181 = .ok (.baload, 1) := by decide +kernel
theorem dX1_layOut_182 : decode cX1_layOut 182 = .ok (.ifCond .eq 33, 3) := by decide +kernel
theorem dX1_layOut_185 : decode cX1_layOut 185 = .ok (.aload_n 0, 1) := by decide +kernel
theorem dX1_layOut_186 : decode cX1_layOut 186 = .ok (.getfield 44, 3) := by decide +kernel
theorem dX1_layOut_189 : decode cX1_layOut 189 = .ok (.iload_n 3, 1) := by decide +kernel
theorem dX1_layOut_190 : decode cX1_layOut 190 = .ok (.aload_n 0, 1) := by decide +kernel
theorem dX1_layOut_191 : decode cX1_layOut 191 = .ok (.getfield 67, 3) := by decide +kernel
theorem dX1_layOut_194 : decode cX1_layOut 194 = .ok (.iastore, 1) := by decide +kernel
theorem dX1_layOut_195 : decode cX1_layOut 195 = .ok (.aload_n 0, 1) := by decide +kernel
theorem dX1_layOut_196 : decode cX1_layOut 196 = .ok (.getfield 41, 3) := by decide +kernel
theorem dX1_layOut_199 : decode cX1_layOut 199 = .ok (.aload_n 0, 1) := by decide +kernel
theorem dX1_layOut_200 : decode cX1_layOut 200 = .ok (.getfield 67, 3) := by decide +kernel
theorem dX1_layOut_203 : decode cX1_layOut 203 = .ok (.iload_n 3, 1) := by decide +kernel
theorem dX1_layOut_204 : decode cX1_layOut 204 = .ok (.iastore, 1) := by decide +kernel
theorem dX1_layOut_205 : decode cX1_layOut 205 = .ok (.aload_n 0, 1) := by decide +kernel
theorem dX1_layOut_206 : decode cX1_layOut 206 = .ok (.dup, 1) := by decide +kernel
theorem dX1_layOut_207 : decode cX1_layOut 207 = .ok (.getfield 67, 3) := by decide +kernel
theorem dX1_layOut_210 : decode cX1_layOut 210 = .ok (.iconst 1, 1) := by decide +kernel
theorem dX1_layOut_211 : decode cX1_layOut 211 = .ok (.iadd, 1) := by decide +kernel
theorem dX1_layOut_212 : decode cX1_layOut 212 = .ok (.putfield 67, 3) := by decide +kernel
theorem dX1_layOut_215 : decode cX1_layOut 215 = .ok (.iinc 3 1, 3) := by decide +kernel
theorem dX1_layOut_218 : decode cX1_layOut 218 = .ok (.goto (-60), 3) := by decide +kernel
theorem dX1_layOut_221 : decode cX1_layOut 221 = .ok (.iinc 1 1, 3) := by decide +kernel
theorem dX1_layOut_224 : decode cX1_layOut 224 = .ok (.goto (-184), 3) := by decide +kernel
theorem dX1_layOut_227 : decode cX1_layOut 227 = .ok (.aload_n 0, 1) := by decide +kernel
theorem dX1_layOut_228 : decode cX1_layOut 228 = .ok (.getfield 35, 3) := by decide +kernel
theorem dX1_layOut_231 : decode cX1_layOut 231 = .ok (.aload_n 0, 1) := by decide +kernel
theorem dX1_layOut_232 : decode cX1_layOut 232 = .ok (.getfield 21, 3) := by decide +kernel
theorem dX1_layOut_235 : decode cX1_layOut 235 = .ok (.getfield 70, 3) := by decide +kernel
theorem dX1_layOut_238 : decode cX1_layOut 238 = .ok (.aload_n 0, 1) := by decide +kernel
theorem dX1_layOut_239 : decode cX1_layOut 239 = .ok (.getfield 67, 3) := by decide +kernel
theorem dX1_layOut_242 : decode cX1_layOut 242 = .ok (.iastore, 1) := by decide +kernel
theorem dX1_layOut_243 : decode cX1_layOut 243 = .ok (.aload_n 0, 1) := by decide +kernel
theorem dX1_layOut_244 : decode cX1_layOut 244 = .ok (.invokevirtual 100, 3) := by decide +kernel
theorem dX1_layOut_247 : decode cX1_layOut 247 = .ok (.aload_n 0, 1) := by decide +kernel
theorem dX1_layOut_248 : decode cX1_layOut 248 = .ok (.invokevirtual 103, 3) := by decide +kernel
theorem dX1_layOut_251 : decode cX1_layOut 251 = .ok (.return_, 1) := by decide +kernel
theorem ci_X1_layOut : Cond.instanceMethod yX1_layOut ∈ TW := TW_of 977 (by decide +kernel) (by decide +kernel)
theorem cs_X1_layOut : Cond.selects yX1_layOut.cls yX1_layOut yX1_layOut ∈ TW := TW_of 978 (by decide +kernel) (by decide +kernel)
abbrev cX1_exchangeRecording : ByteArray := prog_3_method_2_code
def yX1_exchangeRecording : MethodName := ⟨RX1, "exchangeRecording", "(LTranscriptCutter$Recording;)LTranscriptCutter$Recording;"⟩
theorem dX1_exchangeRecording_0 : decode cX1_exchangeRecording 0 = .ok (.aload_n 0, 1) := by decide +kernel
theorem dX1_exchangeRecording_1 : decode cX1_exchangeRecording 1 = .ok (.getfield 12, 3) := by decide +kernel
theorem dX1_exchangeRecording_4 : decode cX1_exchangeRecording 4 = .ok (.astore_n 2, 1) := by decide +kernel
theorem dX1_exchangeRecording_5 : decode cX1_exchangeRecording 5 = .ok (.aload_n 0, 1) := by decide +kernel
theorem dX1_exchangeRecording_6 : decode cX1_exchangeRecording 6 = .ok (.aload_n 1, 1) := by decide +kernel
theorem dX1_exchangeRecording_7 : decode cX1_exchangeRecording 7 = .ok (.putfield 12, 3) := by decide +kernel
theorem dX1_exchangeRecording_10 : decode cX1_exchangeRecording 10 = .ok (.aload_n 0, 1) := by decide +kernel
theorem dX1_exchangeRecording_11 : decode cX1_exchangeRecording 11 = .ok (.getfield 21, 3) := by decide +kernel
theorem dX1_exchangeRecording_14 : decode cX1_exchangeRecording 14 = .ok (.aload_n 1, 1) := by decide +kernel
theorem dX1_exchangeRecording_15 : decode cX1_exchangeRecording 15 = .ok (.getfield 53, 3) := by decide +kernel
theorem dX1_exchangeRecording_18 : decode cX1_exchangeRecording 18 = .ok (.invokevirtual 57, 3) := by decide +kernel
theorem dX1_exchangeRecording_21 : decode cX1_exchangeRecording 21 = .ok (.aload_n 0, 1) := by decide +kernel
theorem dX1_exchangeRecording_22 : decode cX1_exchangeRecording 22 = .ok (.invokevirtual 61, 3) := by decide +kernel
theorem dX1_exchangeRecording_25 : decode cX1_exchangeRecording 25 = .ok (.aload_n 2, 1) := by decide +kernel
theorem dX1_exchangeRecording_26 : decode cX1_exchangeRecording 26 = .ok (.areturn, 1) := by decide +kernel
theorem ci_X1_exchangeRecording : Cond.instanceMethod yX1_exchangeRecording ∈ TW := TW_of 969 (by decide +kernel) (by decide +kernel)
theorem cs_X1_exchangeRecording : Cond.selects yX1_exchangeRecording.cls yX1_exchangeRecording yX1_exchangeRecording ∈ TW := TW_of 970 (by decide +kernel) (by decide +kernel)
abbrev cX1_stateOf : ByteArray := prog_3_method_6_code
def yX1_stateOf : MethodName := ⟨RX1, "stateOf", "(I)I"⟩
theorem dX1_stateOf_0 : decode cX1_stateOf 0 = .ok (.aload_n 0, 1) := by decide +kernel
theorem dX1_stateOf_1 : decode cX1_stateOf 1 = .ok (.getfield 21, 3) := by decide +kernel
theorem dX1_stateOf_4 : decode cX1_stateOf 4 = .ok (.getfield 96, 3) := by decide +kernel
theorem dX1_stateOf_7 : decode cX1_stateOf 7 = .ok (.iload_n 1, 1) := by decide +kernel
theorem dX1_stateOf_8 : decode cX1_stateOf 8 = .ok (.baload, 1) := by decide +kernel
theorem dX1_stateOf_9 : decode cX1_stateOf 9 = .ok (.ifCond .eq 5, 3) := by decide +kernel
theorem dX1_stateOf_12 : decode cX1_stateOf 12 = .ok (.iconst 0, 1) := by decide +kernel
theorem dX1_stateOf_13 : decode cX1_stateOf 13 = .ok (.ireturn, 1) := by decide +kernel
theorem dX1_stateOf_14 : decode cX1_stateOf 14 = .ok (.aload_n 0, 1) := by decide +kernel
theorem dX1_stateOf_15 : decode cX1_stateOf 15 = .ok (.getfield 38, 3) := by decide +kernel
theorem dX1_stateOf_18 : decode cX1_stateOf 18 = .ok (.aload_n 0, 1) := by decide +kernel
theorem dX1_stateOf_19 : decode cX1_stateOf 19 = .ok (.getfield 12, 3) := by decide +kernel
theorem dX1_stateOf_22 : decode cX1_stateOf 22 = .ok (.getfield 126, 3) := by decide +kernel
theorem dX1_stateOf_25 : decode cX1_stateOf 25 = .ok (.iload_n 1, 1) := by decide +kernel
theorem dX1_stateOf_26 : decode cX1_stateOf 26 = .ok (.iaload, 1) := by decide +kernel
theorem dX1_stateOf_27 : decode cX1_stateOf 27 = .ok (.iaload, 1) := by decide +kernel
theorem dX1_stateOf_28 : decode cX1_stateOf 28 = .ok (.iconst (-1), 1) := by decide +kernel
theorem dX1_stateOf_29 : decode cX1_stateOf 29 = .ok (.if_icmp .ne 7, 3) := by decide +kernel
theorem dX1_stateOf_32 : decode cX1_stateOf 32 = .ok (.iconst 2, 1) := by decide +kernel
theorem dX1_stateOf_33 : decode cX1_stateOf 33 = .ok (.goto 4, 3) := by decide +kernel
theorem dX1_stateOf_36 : decode cX1_stateOf 36 = .ok (.iconst 1, 1) := by decide +kernel
theorem dX1_stateOf_37 : decode cX1_stateOf 37 = .ok (.ireturn, 1) := by decide +kernel
theorem ci_X1_stateOf : Cond.instanceMethod yX1_stateOf ∈ TW := TW_of 1026 (by decide +kernel) (by decide +kernel)
theorem cs_X1_stateOf : Cond.selects yX1_stateOf.cls yX1_stateOf yX1_stateOf ∈ TW := TW_of 1027 (by decide +kernel) (by decide +kernel)
abbrev cX1_countKept : ByteArray := prog_3_method_7_code
def yX1_countKept : MethodName := ⟨RX1, "countKept", "(I)I"⟩
theorem dX1_countKept_0 : decode cX1_countKept 0 = .ok (.iconst 0, 1) := by decide +kernel
theorem dX1_countKept_1 : decode cX1_countKept 1 = .ok (.istore_n 2, 1) := by decide +kernel
theorem dX1_countKept_2 : decode cX1_countKept 2 = .ok (.aload_n 0, 1) := by decide +kernel
theorem dX1_countKept_3 : decode cX1_countKept 3 = .ok (.getfield 12, 3) := by decide +kernel
theorem dX1_countKept_6 : decode cX1_countKept 6 = .ok (.getfield 93, 3) := by decide +kernel
theorem dX1_countKept_9 : decode cX1_countKept 9 = .ok (.iload_n 1, 1) := by decide +kernel
theorem dX1_countKept_10 : decode cX1_countKept 10 = .ok (.iaload, 1) := by decide +kernel
theorem dX1_countKept_11 : decode cX1_countKept 11 = .ok (.istore_n 3, 1) := by decide +kernel
theorem dX1_countKept_12 : decode cX1_countKept 12 = .ok (.iload_n 3, 1) := by decide +kernel
theorem dX1_countKept_13 : decode cX1_countKept 13 = .ok (.aload_n 0, 1) := by decide +kernel
theorem dX1_countKept_14 : decode cX1_countKept 14 = .ok (.getfield 12, 3) := by decide +kernel
theorem dX1_countKept_17 : decode cX1_countKept 17 = .ok (.getfield 93, 3) := by decide +kernel
theorem dX1_countKept_20 : decode cX1_countKept 20 = .ok (.iload_n 1, 1) := by decide +kernel
theorem dX1_countKept_21 : decode cX1_countKept 21 = .ok (.iconst 1, 1) := by decide +kernel
theorem dX1_countKept_22 : decode cX1_countKept 22 = .ok (.iadd, 1) := by decide +kernel
theorem dX1_countKept_23 : decode cX1_countKept 23 = .ok (.iaload, 1) := by decide +kernel
theorem dX1_countKept_24 : decode cX1_countKept 24 = .ok (.if_icmp .ge 24, 3) := by decide +kernel
theorem dX1_countKept_27 : decode cX1_countKept 27 = .ok (.aload_n 0, 1) := by decide +kernel
theorem dX1_countKept_28 : decode cX1_countKept 28 = .ok (.getfield 21, 3) := by decide +kernel
theorem dX1_countKept_31 : decode cX1_countKept 31 = .ok (.getfield 96, 3) := by decide +kernel
theorem dX1_countKept_34 : decode cX1_countKept 34 = .ok (.iload_n 3, 1) := by decide +kernel
theorem dX1_countKept_35 : decode cX1_countKept 35 = .ok (.baload, 1) := by decide +kernel
theorem dX1_countKept_36 : decode cX1_countKept 36 = .ok (.ifCond .eq 6, 3) := by decide +kernel
theorem dX1_countKept_39 : decode cX1_countKept 39 = .ok (.iinc 2 1, 3) := by decide +kernel
theorem dX1_countKept_42 : decode cX1_countKept 42 = .ok (.iinc 3 1, 3) := by decide +kernel
theorem dX1_countKept_45 : decode cX1_countKept 45 = .ok (.goto (-33), 3) := by decide +kernel
theorem dX1_countKept_48 : decode cX1_countKept 48 = .ok (.iload_n 2, 1) := by decide +kernel
theorem dX1_countKept_49 : decode cX1_countKept 49 = .ok (.ireturn, 1) := by decide +kernel
theorem ci_X1_countKept : Cond.instanceMethod yX1_countKept ∈ TW := TW_of 1047 (by decide +kernel) (by decide +kernel)
theorem cs_X1_countKept : Cond.selects yX1_countKept.cls yX1_countKept yX1_countKept ∈ TW := TW_of 1048 (by decide +kernel) (by decide +kernel)
abbrev cX1_cutPlaces : ByteArray := prog_3_method_23_code
def yX1_cutPlaces : MethodName := ⟨RX1, "cutPlaces", "(II)V"⟩
theorem dX1_cutPlaces_0 : decode cX1_cutPlaces 0 = .ok (.iload_n 1, 1) := by decide +kernel
theorem dX1_cutPlaces_1 : decode cX1_cutPlaces 1 = .ok (.istore_n 3, 1) := by decide +kernel
theorem dX1_cutPlaces_2 : decode cX1_cutPlaces 2 = .ok (.iload_n 3, 1) := by decide +kernel
theorem dX1_cutPlaces_3 : decode cX1_cutPlaces 3 = .ok (.iload_n 2, 1) := by decide +kernel
theorem dX1_cutPlaces_4 : decode cX1_cutPlaces 4 = .ok (.if_icmp .gt 32, 3) := by decide +kernel
theorem dX1_cutPlaces_7 : decode cX1_cutPlaces 7 = .ok (.iload_n 3, 1) := by decide +kernel
theorem dX1_cutPlaces_8 : decode cX1_cutPlaces 8 = .ok (.aload_n 0, 1) := by decide +kernel
theorem dX1_cutPlaces_9 : decode cX1_cutPlaces 9 = .ok (.getfield 67, 3) := by decide +kernel
theorem dX1_cutPlaces_12 : decode cX1_cutPlaces 12 = .ok (.if_icmp .ge 24, 3) := by decide +kernel
theorem dX1_cutPlaces_15 : decode cX1_cutPlaces 15 = .ok (.aload_n 0, 1) := by decide +kernel
theorem dX1_cutPlaces_16 : decode cX1_cutPlaces 16 = .ok (.getfield 21, 3) := by decide +kernel
theorem dX1_cutPlaces_19 : decode cX1_cutPlaces 19 = .ok (.getfield 96, 3) := by decide +kernel
theorem dX1_cutPlaces_22 : decode cX1_cutPlaces 22 = .ok (.aload_n 0, 1) := by decide +kernel
theorem dX1_cutPlaces_23 : decode cX1_cutPlaces 23 = .ok (.getfield 41, 3) := by decide +kernel
theorem dX1_cutPlaces_26 : decode cX1_cutPlaces 26 = .ok (.iload_n 3, 1) := by decide +kernel
theorem dX1_cutPlaces_27 : decode cX1_cutPlaces 27 = .ok (.iaload, 1) := by decide +kernel
theorem dX1_cutPlaces_28 : decode cX1_cutPlaces 28 = .ok (.iconst 0, 1) := by decide +kernel
theorem dX1_cutPlaces_29 : decode cX1_cutPlaces 29 = .ok (.bastore, 1) := by decide +kernel
theorem dX1_cutPlaces_30 : decode cX1_cutPlaces 30 = .ok (.iinc 3 1, 3) := by decide +kernel
theorem dX1_cutPlaces_33 : decode cX1_cutPlaces 33 = .ok (.goto (-31), 3) := by decide +kernel
theorem dX1_cutPlaces_36 : decode cX1_cutPlaces 36 = .ok (.iconst 0, 1) := by decide +kernel
theorem dX1_cutPlaces_37 : decode cX1_cutPlaces 37 = .ok (.istore_n 3, 1) := by decide +kernel
theorem dX1_cutPlaces_38 : decode cX1_cutPlaces 38 = .ok (.iconst 0, 1) := by decide +kernel
theorem dX1_cutPlaces_39 : decode cX1_cutPlaces 39 = .ok (.istore 4, 2) := by decide +kernel
theorem dX1_cutPlaces_41 : decode cX1_cutPlaces 41 = .ok (.iload 4, 2) := by decide +kernel
theorem dX1_cutPlaces_43 : decode cX1_cutPlaces 43 = .ok (.aload_n 0, 1) := by decide +kernel
theorem dX1_cutPlaces_44 : decode cX1_cutPlaces 44 = .ok (.getfield 21, 3) := by decide +kernel
theorem dX1_cutPlaces_47 : decode cX1_cutPlaces 47 = .ok (.getfield 70, 3) := by decide +kernel
theorem dX1_cutPlaces_50 : decode cX1_cutPlaces 50 = .ok (.if_icmp .ge 57, 3) := by decide +kernel
theorem dX1_cutPlaces_53 : decode cX1_cutPlaces 53 = .ok (.aload_n 0, 1) := by decide +kernel
theorem dX1_cutPlaces_54 : decode cX1_cutPlaces 54 = .ok (.getfield 35, 3) := by decide +kernel
theorem dX1_cutPlaces_57 : decode cX1_cutPlaces 57 = .ok (.iload 4, 2) := by decide +kernel
theorem dX1_cutPlaces_59 : decode cX1_cutPlaces 59 = .ok (.iaload, 1) := by decide +kernel
theorem dX1_cutPlaces_60 : decode cX1_cutPlaces 60 = .ok (.iload_n 1, 1) := by decide +kernel
theorem dX1_cutPlaces_61 : decode cX1_cutPlaces 61 = .ok (.if_icmp .lt 18, 3) := by decide +kernel
theorem dX1_cutPlaces_64 : decode cX1_cutPlaces 64 = .ok (.aload_n 0, 1) := by decide +kernel
theorem dX1_cutPlaces_65 : decode cX1_cutPlaces 65 = .ok (.getfield 35, 3) := by decide +kernel
theorem dX1_cutPlaces_68 : decode cX1_cutPlaces 68 = .ok (.iload 4, 2) := by decide +kernel
theorem dX1_cutPlaces_70 : decode cX1_cutPlaces 70 = .ok (.iconst 1, 1) := by decide +kernel
theorem dX1_cutPlaces_71 : decode cX1_cutPlaces 71 = .ok (.iadd, 1) := by decide +kernel
theorem dX1_cutPlaces_72 : decode cX1_cutPlaces 72 = .ok (.iaload, 1) := by decide +kernel
theorem dX1_cutPlaces_73 : decode cX1_cutPlaces 73 = .ok (.iconst 1, 1) := by decide +kernel
theorem dX1_cutPlaces_74 : decode cX1_cutPlaces 74 = .ok (.isub, 1) := by decide +kernel
theorem dX1_cutPlaces_75 : decode cX1_cutPlaces 75 = .ok (.iload_n 2, 1) := by decide +kernel
theorem dX1_cutPlaces_76 : decode cX1_cutPlaces 76 = .ok (.if_icmp .le 25, 3) := by decide +kernel
theorem dX1_cutPlaces_79 : decode cX1_cutPlaces 79 = .ok (.aload_n 0, 1) := by decide +kernel
theorem dX1_cutPlaces_80 : decode cX1_cutPlaces 80 = .ok (.getfield 21, 3) := by decide +kernel
theorem dX1_cutPlaces_83 : decode cX1_cutPlaces 83 = .ok (.getfield 73, 3) := by decide +kernel
theorem dX1_cutPlaces_86 : decode cX1_cutPlaces 86 = .ok (.iload_n 3, 1) := by decide +kernel
theorem dX1_cutPlaces_87 : decode cX1_cutPlaces 87 = .ok (.aload_n 0, 1) := by decide +kernel
theorem dX1_cutPlaces_88 : decode cX1_cutPlaces 88 = .ok (.getfield 21, 3) := by decide +kernel
theorem dX1_cutPlaces_91 : decode cX1_cutPlaces 91 = .ok (.getfield 73, 3) := by decide +kernel
theorem dX1_cutPlaces_94 : decode cX1_cutPlaces 94 = .ok (.iload 4, 2) := by decide +kernel
theorem dX1_cutPlaces_96 : decode cX1_cutPlaces 96 = .ok (.iaload, 1) := by decide +kernel
theorem dX1_cutPlaces_97 : decode cX1_cutPlaces 97 = .ok (.iastore, 1) := by decide +kernel
theorem dX1_cutPlaces_98 : decode cX1_cutPlaces 98 = .ok (.iinc 3 1, 3) := by decide +kernel
theorem dX1_cutPlaces_101 : decode cX1_cutPlaces 101 = .ok (.iinc 4 1, 3) := by decide +kernel
theorem dX1_cutPlaces_104 : decode cX1_cutPlaces 104 = .ok (.goto (-63), 3) := by decide +kernel
theorem dX1_cutPlaces_107 : decode cX1_cutPlaces 107 = .ok (.aload_n 0, 1) := by decide +kernel
theorem dX1_cutPlaces_108 : decode cX1_cutPlaces 108 = .ok (.getfield 21, 3) := by decide +kernel
theorem dX1_cutPlaces_111 : decode cX1_cutPlaces 111 = .ok (.iload_n 3, 1) := by decide +kernel
theorem dX1_cutPlaces_112 : decode cX1_cutPlaces 112 = .ok (.putfield 70, 3) := by decide +kernel
theorem dX1_cutPlaces_115 : decode cX1_cutPlaces 115 = .ok (.aload_n 0, 1) := by decide +kernel
theorem dX1_cutPlaces_116 : decode cX1_cutPlaces 116 = .ok (.invokevirtual 61, 3) := by decide +kernel
theorem dX1_cutPlaces_119 : decode cX1_cutPlaces 119 = .ok (.return_, 1) := by decide +kernel
theorem ci_X1_cutPlaces : Cond.instanceMethod yX1_cutPlaces ∈ TW := TW_of 1160 (by decide +kernel) (by decide +kernel)
theorem cs_X1_cutPlaces : Cond.selects yX1_cutPlaces.cls yX1_cutPlaces yX1_cutPlaces ∈ TW := TW_of 1161 (by decide +kernel) (by decide +kernel)
abbrev cX1_keepAgain : ByteArray := prog_3_method_24_code
def yX1_keepAgain : MethodName := ⟨RX1, "keepAgain", "(II)I"⟩
theorem dX1_keepAgain_0 : decode cX1_keepAgain 0 = .ok (.iconst 0, 1) := by decide +kernel
theorem dX1_keepAgain_1 : decode cX1_keepAgain 1 = .ok (.istore_n 3, 1) := by decide +kernel
theorem dX1_keepAgain_2 : decode cX1_keepAgain 2 = .ok (.iload_n 1, 1) := by decide +kernel
theorem dX1_keepAgain_3 : decode cX1_keepAgain 3 = .ok (.istore 4, 2) := by decide +kernel
theorem dX1_keepAgain_5 : decode cX1_keepAgain 5 = .ok (.iload 4, 2) := by decide +kernel
theorem dX1_keepAgain_7 : decode cX1_keepAgain 7 = .ok (.iload_n 2, 1) := by decide +kernel
theorem dX1_keepAgain_8 : decode cX1_keepAgain 8 = .ok (.if_icmp .gt 81, 3) := by decide +kernel
theorem dX1_keepAgain_11 : decode cX1_keepAgain 11 = .ok (.iload 4, 2) := by decide +kernel
theorem dX1_keepAgain_13 : decode cX1_keepAgain 13 = .ok (.aload_n 0, 1) := by decide +kernel
theorem dX1_keepAgain_14 : decode cX1_keepAgain 14 = .ok (.getfield 12, 3) := by decide +kernel
theorem dX1_keepAgain_17 : decode cX1_keepAgain 17 = .ok (.getfield 160, 3) := by decide +kernel
theorem dX1_keepAgain_20 : decode cX1_keepAgain 20 = .ok (.if_icmp .ge 69, 3) := by decide +kernel
theorem dX1_keepAgain_23 : decode cX1_keepAgain 23 = .ok (.aload_n 0, 1) := by decide +kernel
theorem dX1_keepAgain_24 : decode cX1_keepAgain 24 = .ok (.getfield 21, 3) := by decide +kernel
theorem dX1_keepAgain_27 : decode cX1_keepAgain 27 = .ok (.getfield 96, 3) := by decide +kernel
theorem dX1_keepAgain_30 : decode cX1_keepAgain 30 = .ok (.iload 4, 2) := by decide +kernel
theorem dX1_keepAgain_32 : decode cX1_keepAgain 32 = .ok (.baload, 1) := by decide +kernel
theorem dX1_keepAgain_33 : decode cX1_keepAgain 33 = .ok (.ifCond .ne 50, 3) := by decide +kernel
theorem dX1_keepAgain_36 : decode cX1_keepAgain 36 = .ok (.aload_n 0, 1) := by decide +kernel
theorem dX1_keepAgain_37 : decode cX1_keepAgain 37 = .ok (.getfield 21, 3) := by decide +kernel
theorem dX1_keepAgain_40 : decode cX1_keepAgain 40 = .ok (.getfield 96, 3) := by decide +kernel
theorem dX1_keepAgain_43 : decode cX1_keepAgain 43 = .ok (.iload 4, 2) := by decide +kernel
theorem dX1_keepAgain_45 : decode cX1_keepAgain 45 = .ok (.iconst 1, 1) := by decide +kernel
theorem dX1_keepAgain_46 : decode cX1_keepAgain 46 = .ok (.bastore, 1) := by decide +kernel
theorem dX1_keepAgain_47 : decode cX1_keepAgain 47 = .ok (.iinc 3 1, 3) := by decide +kernel
theorem dX1_keepAgain_50 : decode cX1_keepAgain 50 = .ok (.aload_n 0, 1) := by decide +kernel
theorem dX1_keepAgain_51 : decode cX1_keepAgain 51 = .ok (.getfield 12, 3) := by decide +kernel
theorem dX1_keepAgain_54 : decode cX1_keepAgain 54 = .ok (.getfield 126, 3) := by decide +kernel
theorem dX1_keepAgain_57 : decode cX1_keepAgain 57 = .ok (.iload 4, 2) := by decide +kernel
theorem dX1_keepAgain_59 : decode cX1_keepAgain 59 = .ok (.iaload, 1) := by decide +kernel
theorem dX1_keepAgain_60 : decode cX1_keepAgain 60 = .ok (.istore 5, 2) := by decide +kernel
theorem dX1_keepAgain_62 : decode cX1_keepAgain 62 = .ok (.aload_n 0, 1) := by decide +kernel
theorem dX1_keepAgain_63 : decode cX1_keepAgain 63 = .ok (.getfield 21, 3) := by decide +kernel
theorem dX1_keepAgain_66 : decode cX1_keepAgain 66 = .ok (.iload 5, 2) := by decide +kernel
theorem dX1_keepAgain_68 : decode cX1_keepAgain 68 = .ok (.invokevirtual 163, 3) := by decide +kernel
theorem dX1_keepAgain_71 : decode cX1_keepAgain 71 = .ok (.ifCond .ne 12, 3) := by decide +kernel
theorem dX1_keepAgain_74 : decode cX1_keepAgain 74 = .ok (.aload_n 0, 1) := by decide +kernel
theorem dX1_keepAgain_75 : decode cX1_keepAgain 75 = .ok (.getfield 21, 3) := by decide +kernel
theorem dX1_keepAgain_78 : decode cX1_keepAgain 78 = .ok (.iload 5, 2) := by decide +kernel
theorem dX1_keepAgain_80 : decode cX1_keepAgain 80 = .ok (.invokevirtual 167, 3) := by decide +kernel
theorem dX1_keepAgain_83 : decode cX1_keepAgain 83 = .ok (.iinc 4 1, 3) := by decide +kernel
theorem dX1_keepAgain_86 : decode cX1_keepAgain 86 = .ok (.goto (-81), 3) := by decide +kernel
theorem dX1_keepAgain_89 : decode cX1_keepAgain 89 = .ok (.aload_n 0, 1) := by decide +kernel
theorem dX1_keepAgain_90 : decode cX1_keepAgain 90 = .ok (.invokevirtual 61, 3) := by decide +kernel
theorem dX1_keepAgain_93 : decode cX1_keepAgain 93 = .ok (.iload_n 3, 1) := by decide +kernel
theorem dX1_keepAgain_94 : decode cX1_keepAgain 94 = .ok (.ireturn, 1) := by decide +kernel
theorem ci_X1_keepAgain : Cond.instanceMethod yX1_keepAgain ∈ TW := TW_of 1189 (by decide +kernel) (by decide +kernel)
theorem cs_X1_keepAgain : Cond.selects yX1_keepAgain.cls yX1_keepAgain yX1_keepAgain ∈ TW := TW_of 1190 (by decide +kernel) (by decide +kernel)
abbrev cX1_carryShots : ByteArray := prog_3_method_25_code
def yX1_carryShots : MethodName := ⟨RX1, "carryShots", "(III)I"⟩
theorem dX1_carryShots_0 : decode cX1_carryShots 0 = .ok (.aload_n 0, 1) := by decide +kernel
theorem dX1_carryShots_1 : decode cX1_carryShots 1 = .ok (.getfield 21, 3) := by decide +kernel
theorem dX1_carryShots_4 : decode cX1_carryShots 4 = .ok (.getfield 76, 3) := by decide +kernel
theorem dX1_carryShots_7 : decode cX1_carryShots 7 = .ok (.aload_n 0, 1) := by decide +kernel
theorem dX1_carryShots_8 : decode cX1_carryShots 8 = .ok (.getfield 21, 3) := by decide +kernel
theorem dX1_carryShots_11 : decode cX1_carryShots 11 = .ok (.getfield 73, 3) := by decide +kernel
theorem dX1_carryShots_14 : decode cX1_carryShots 14 = .ok (.iload_n 1, 1) := by decide +kernel
theorem dX1_carryShots_15 : decode cX1_carryShots 15 = .ok (.iaload, 1) := by decide +kernel
theorem dX1_carryShots_16 : decode cX1_carryShots 16 = .ok (.aload_n 0, 1) := by decide +kernel
theorem dX1_carryShots_17 : decode cX1_carryShots 17 = .ok (.getfield 12, 3) := by decide +kernel
theorem dX1_carryShots_20 : decode cX1_carryShots 20 = .ok (.getfield 170, 3) := by decide +kernel
theorem dX1_carryShots_23 : decode cX1_carryShots 23 = .ok (.iastore, 1) := by decide +kernel
theorem dX1_carryShots_24 : decode cX1_carryShots 24 = .ok (.aload_n 0, 1) := by decide +kernel
theorem dX1_carryShots_25 : decode cX1_carryShots 25 = .ok (.getfield 21, 3) := by decide +kernel
theorem dX1_carryShots_28 : decode cX1_carryShots 28 = .ok (.getfield 83, 3) := by decide +kernel
theorem dX1_carryShots_31 : decode cX1_carryShots 31 = .ok (.aload_n 0, 1) := by decide +kernel
theorem dX1_carryShots_32 : decode cX1_carryShots 32 = .ok (.getfield 21, 3) := by decide +kernel
theorem dX1_carryShots_35 : decode cX1_carryShots 35 = .ok (.getfield 73, 3) := by decide +kernel
theorem dX1_carryShots_38 : decode cX1_carryShots 38 = .ok (.iload_n 2, 1) := by decide +kernel
theorem dX1_carryShots_39 : decode cX1_carryShots 39 = .ok (.iaload, 1) := by decide +kernel
theorem dX1_carryShots_40 : decode cX1_carryShots 40 = .ok (.aload_n 0, 1) := by decide +kernel
theorem dX1_carryShots_41 : decode cX1_carryShots 41 = .ok (.getfield 12, 3) := by decide +kernel
theorem dX1_carryShots_44 : decode cX1_carryShots 44 = .ok (.getfield 170, 3) := by decide +kernel
theorem dX1_carryShots_47 : decode cX1_carryShots 47 = .ok (.iastore, 1) := by decide +kernel
theorem dX1_carryShots_48 : decode cX1_carryShots 48 = .ok (.iload_n 2, 1) := by decide +kernel
theorem dX1_carryShots_49 : decode cX1_carryShots 49 = .ok (.iload_n 1, 1) := by decide +kernel
theorem dX1_carryShots_50 : decode cX1_carryShots 50 = .ok (.isub, 1) := by decide +kernel
theorem dX1_carryShots_51 : decode cX1_carryShots 51 = .ok (.iconst 1, 1) := by decide +kernel
theorem dX1_carryShots_52 : decode cX1_carryShots 52 = .ok (.iadd, 1) := by decide +kernel
theorem dX1_carryShots_53 : decode cX1_carryShots 53 = .ok (.istore 4, 2) := by decide +kernel
theorem dX1_carryShots_55 : decode cX1_carryShots 55 = .ok (.iload_n 3, 1) := by decide +kernel
theorem dX1_carryShots_56 : decode cX1_carryShots 56 = .ok (.iload_n 1, 1) := by decide +kernel
theorem dX1_carryShots_57 : decode cX1_carryShots 57 = .ok (.if_icmp .ge 9, 3) := by decide +kernel
theorem dX1_carryShots_60 : decode cX1_carryShots 60 = .ok (.iload_n 3, 1) := by decide +kernel
theorem dX1_carryShots_61 : decode cX1_carryShots 61 = .ok (.iconst 1, 1) := by decide +kernel
theorem dX1_carryShots_62 : decode cX1_carryShots 62 = .ok (.iadd, 1) := by decide +kernel
theorem dX1_carryShots_63 : decode cX1_carryShots 63 = .ok (.goto 9, 3) := by decide +kernel
theorem dX1_carryShots_66 : decode cX1_carryShots 66 = .ok (.iload_n 3, 1) := by decide +kernel
theorem dX1_carryShots_67 : decode cX1_carryShots 67 = .ok (.iconst 1, 1) := by decide +kernel
theorem dX1_carryShots_68 : decode cX1_carryShots 68 = .ok (.iadd, 1) := by decide +kernel
theorem dX1_carryShots_69 : decode cX1_carryShots 69 = .ok (.iload 4, 2) := by decide +kernel
theorem dX1_carryShots_71 : decode cX1_carryShots 71 = .ok (.isub, 1) := by decide +kernel
theorem dX1_carryShots_72 : decode cX1_carryShots 72 = .ok (.istore 5, 2) := by decide +kernel
theorem dX1_carryShots_74 : decode cX1_carryShots 74 = .ok (.iconst 0, 1) := by decide +kernel
theorem dX1_carryShots_75 : decode cX1_carryShots 75 = .ok (.istore 6, 2) := by decide +kernel
theorem dX1_carryShots_77 : decode cX1_carryShots 77 = .ok (.iconst 0, 1) := by decide +kernel
theorem dX1_carryShots_78 : decode cX1_carryShots 78 = .ok (.istore 7, 2) := by decide +kernel
theorem dX1_carryShots_80 : decode cX1_carryShots 80 = .ok (.iload 7, 2) := by decide +kernel
theorem dX1_carryShots_82 : decode cX1_carryShots 82 = .ok (.aload_n 0, 1) := by decide +kernel
theorem dX1_carryShots_83 : decode cX1_carryShots 83 = .ok (.getfield 21, 3) := by decide +kernel
theorem dX1_carryShots_86 : decode cX1_carryShots 86 = .ok (.getfield 70, 3) := by decide +kernel
theorem dX1_carryShots_89 : decode cX1_carryShots 89 = .ok (.if_icmp .ge 81, 3) := by decide +kernel
theorem dX1_carryShots_92 : decode cX1_carryShots 92 = .ok (.iload 7, 2) := by decide +kernel
theorem dX1_carryShots_94 : decode cX1_carryShots 94 = .ok (.iload_n 1, 1) := by decide +kernel
theorem dX1_carryShots_95 : decode cX1_carryShots 95 = .ok (.if_icmp .lt 34, 3) := by decide +kernel
theorem dX1_carryShots_98 : decode cX1_carryShots 98 = .ok (.iload 7, 2) := by decide +kernel
theorem dX1_carryShots_100 : decode cX1_carryShots 100 = .ok (.iload_n 2, 1) := by decide +kernel
theorem dX1_carryShots_101 : decode cX1_carryShots 101 = .ok (.if_icmp .gt 28, 3) := by decide +kernel
theorem dX1_carryShots_104 : decode cX1_carryShots 104 = .ok (.aload_n 0, 1) := by decide +kernel
theorem dX1_carryShots_105 : decode cX1_carryShots 105 = .ok (.getfield 50, 3) := by decide +kernel
theorem dX1_carryShots_108 : decode cX1_carryShots 108 = .ok (.iload 5, 2) := by decide +kernel
theorem dX1_carryShots_110 : decode cX1_carryShots 110 = .ok (.iload 7, 2) := by decide +kernel
theorem dX1_carryShots_112 : decode cX1_carryShots 112 = .ok (.iadd, 1) := by decide +kernel
theorem dX1_carryShots_113 : decode cX1_carryShots 113 = .ok (.iload_n 1, 1) := by decide +kernel
theorem dX1_carryShots_114 : decode cX1_carryShots 114 = .ok (.isub, 1) := by decide +kernel
theorem dX1_carryShots_115 : decode cX1_carryShots 115 = .ok (.aload_n 0, 1) := by decide +kernel
theorem dX1_carryShots_116 : decode cX1_carryShots 116 = .ok (.getfield 21, 3) := by decide +kernel
theorem dX1_carryShots_119 : decode cX1_carryShots 119 = .ok (.getfield 73, 3) := by decide +kernel
theorem dX1_carryShots_122 : decode cX1_carryShots 122 = .ok (.iload 7, 2) := by decide +kernel
theorem dX1_carryShots_124 : decode cX1_carryShots 124 = .ok (.iaload, 1) := by decide +kernel
theorem dX1_carryShots_125 : decode cX1_carryShots 125 = .ok (.iastore, 1) := by decide +kernel
theorem dX1_carryShots_126 : decode cX1_carryShots 126 = .ok (.goto 38, 3) := by decide +kernel
theorem dX1_carryShots_129 : decode cX1_carryShots 129 = .ok (.aload_n 0, 1) := by decide +kernel
theorem dX1_carryShots_130 : decode cX1_carryShots 130 = .ok (.getfield 50, 3) := by decide +kernel
theorem dX1_carryShots_133 : decode cX1_carryShots 133 = .ok (.iload 6, 2) := by decide +kernel
theorem dX1_carryShots_135 : decode cX1_carryShots 135 = .ok (.iload 5, 2) := by decide +kernel
theorem dX1_carryShots_137 : decode cX1_carryShots 137 = .ok (.if_icmp .ge 8, 3) := by decide +kernel
theorem dX1_carryShots_140 : decode cX1_carryShots 140 = .ok (.iload 6, 2) := by decide +kernel
theorem dX1_carryShots_142 : decode cX1_carryShots 142 = .ok (.goto 8, 3) := by decide +kernel
theorem dX1_carryShots_145 : decode cX1_carryShots 145 = .ok (.iload 6, 2) := by decide +kernel
theorem dX1_carryShots_147 : decode cX1_carryShots 147 = .ok (.iload 4, 2) := by decide +kernel
theorem dX1_carryShots_149 : decode cX1_carryShots 149 = .ok (.iadd, 1) := by decide +kernel
theorem dX1_carryShots_150 : decode cX1_carryShots 150 = .ok (.aload_n 0, 1) := by decide +kernel
theorem dX1_carryShots_151 : decode cX1_carryShots 151 = .ok (.getfield 21, 3) := by decide +kernel
theorem dX1_carryShots_154 : decode cX1_carryShots 154 = .ok (.getfield 73, 3) := by decide +kernel
theorem dX1_carryShots_157 : decode cX1_carryShots 157 = .ok (.iload 7, 2) := by decide +kernel
theorem dX1_carryShots_159 : decode cX1_carryShots 159 = .ok (.iaload, 1) := by decide +kernel
theorem dX1_carryShots_160 : decode cX1_carryShots 160 = .ok (.iastore, 1) := by decide +kernel
theorem dX1_carryShots_161 : decode cX1_carryShots 161 = .ok (.iinc 6 1, 3) := by decide +kernel
theorem dX1_carryShots_164 : decode cX1_carryShots 164 = .ok (.iinc 7 1, 3) := by decide +kernel
theorem dX1_carryShots_167 : decode cX1_carryShots 167 = .ok (.goto (-87), 3) := by decide +kernel
theorem dX1_carryShots_170 : decode cX1_carryShots 170 = .ok (.aload_n 0, 1) := by decide +kernel
theorem dX1_carryShots_171 : decode cX1_carryShots 171 = .ok (.getfield 50, 3) := by decide +kernel
theorem dX1_carryShots_174 : decode cX1_carryShots 174 = .ok (.iconst 0, 1) := by decide +kernel
theorem dX1_carryShots_175 : decode cX1_carryShots 175 = .ok (.aload_n 0, 1) := by decide +kernel
theorem dX1_carryShots_176 : decode cX1_carryShots 176 = .ok (.getfield 21, 3) := by decide +kernel
theorem dX1_carryShots_179 : decode cX1_carryShots 179 = .ok (.getfield 73, 3) := by decide +kernel
theorem dX1_carryShots_182 : decode cX1_carryShots 182 = .ok (.iconst 0, 1) := by decide +kernel
theorem dX1_carryShots_183 : decode cX1_carryShots 183 = .ok (.aload_n 0, 1) := by decide +kernel
theorem dX1_carryShots_184 : decode cX1_carryShots 184 = .ok (.getfield 21, 3) := by decide +kernel
theorem dX1_carryShots_187 : decode cX1_carryShots 187 = .ok (.getfield 70, 3) := by decide +kernel
theorem dX1_carryShots_190 : decode cX1_carryShots 190 = .ok (.invokestatic 173, 3) := by decide +kernel
theorem dX1_carryShots_193 : decode cX1_carryShots 193 = .ok (.aload_n 0, 1) := by decide +kernel
theorem dX1_carryShots_194 : decode cX1_carryShots 194 = .ok (.invokevirtual 61, 3) := by decide +kernel
theorem dX1_carryShots_197 : decode cX1_carryShots 197 = .ok (.iload 5, 2) := by decide +kernel
theorem dX1_carryShots_199 : decode cX1_carryShots 199 = .ok (.ireturn, 1) := by decide +kernel
theorem ci_X1_carryShots : Cond.instanceMethod yX1_carryShots ∈ TW := TW_of 1212 (by decide +kernel) (by decide +kernel)
theorem cs_X1_carryShots : Cond.selects yX1_carryShots.cls yX1_carryShots yX1_carryShots ∈ TW := TW_of 1213 (by decide +kernel) (by decide +kernel)
theorem ml_X1_118 : Cond.methodLink RX1 118 Lib.Math.max.name ∈ TW := TW_of 1000 (by decide +kernel) (by decide +kernel)
theorem cw_X1_79 : CWd RX1 79 yX4_firstFrame cX4_firstFrame 3 (some .int) 2 := ⟨TW_of 980 (by decide +kernel) (by decide +kernel), TW_of 983 (by decide +kernel) (by decide +kernel), TW_of 19 (by decide +kernel) (by decide +kernel), by decide +kernel⟩
theorem cw_X1_86 : CWd RX1 86 yX4_frameBehind cX4_frameBehind 3 (some .int) 2 := ⟨TW_of 984 (by decide +kernel) (by decide +kernel), TW_of 987 (by decide +kernel) (by decide +kernel), TW_of 19 (by decide +kernel) (by decide +kernel), by decide +kernel⟩
theorem cw_X1_89 : CWd RX1 89 yX1_framesOfShot cX1_framesOfShot 2 (some .int) 1 := ⟨TW_of 988 (by decide +kernel) (by decide +kernel), TW_of 991 (by decide +kernel) (by decide +kernel), TW_of 18 (by decide +kernel) (by decide +kernel), by decide +kernel⟩
theorem cw_X1_100 : CWd RX1 100 yX1_findClips cX1_findClips 2 none 0 := ⟨TW_of 992 (by decide +kernel) (by decide +kernel), TW_of 995 (by decide +kernel) (by decide +kernel), TW_of 18 (by decide +kernel) (by decide +kernel), by decide +kernel⟩
theorem cw_X1_103 : CWd RX1 103 yX1_measureSilence cX1_measureSilence 7 none 0 := ⟨TW_of 996 (by decide +kernel) (by decide +kernel), TW_of 999 (by decide +kernel) (by decide +kernel), TW_of 18 (by decide +kernel) (by decide +kernel), by decide +kernel⟩
theorem cw_X1_57 : CWd RX1 57 yX0_keepEverything cX0_keepEverything 3 none 1 := ⟨TW_of 972 (by decide +kernel) (by decide +kernel), TW_of 975 (by decide +kernel) (by decide +kernel), TW_of 20 (by decide +kernel) (by decide +kernel), by decide +kernel⟩
theorem cw_X1_61 : CWd RX1 61 yX1_layOut cX1_layOut 4 none 0 := ⟨TW_of 976 (by decide +kernel) (by decide +kernel), TW_of 979 (by decide +kernel) (by decide +kernel), TW_of 18 (by decide +kernel) (by decide +kernel), by decide +kernel⟩
theorem cw_X1_163 : CWd RX1 163 yX0_holdsBlock cX0_holdsBlock 3 (some .boolean) 1 := ⟨TW_of 1192 (by decide +kernel) (by decide +kernel), TW_of 1195 (by decide +kernel) (by decide +kernel), TW_of 20 (by decide +kernel) (by decide +kernel), by decide +kernel⟩
theorem cw_X1_167 : CWd RX1 167 yX0_bringBackBlock cX0_bringBackBlock 4 none 1 := ⟨TW_of 1196 (by decide +kernel) (by decide +kernel), TW_of 1199 (by decide +kernel) (by decide +kernel), TW_of 20 (by decide +kernel) (by decide +kernel), by decide +kernel⟩
theorem ml_X1_173 : Cond.methodLink RX1 173 arraycopyName ∈ TW := TW_of 1215 (by decide +kernel) (by decide +kernel)
set_option maxRecDepth 20000 in
set_option maxHeartbeats 1000000 in
theorem j_X1_findClips_65 {l : Launch} {Z : ZT} {g : va_W} {h : Hp} {p : Program} {e : Env} {s : State} {m : MethodId} {args : Array Value} {below : List Frame} {meth : Method} {c : Code} (C : CX p s m args meth c cX1_findClips RX1 2 none Z g) {out : Hp} {ls : Array Slot} {H : Heap} {locs : List Loc} (hW : XW Z h g s.heap H locs) (hl : lv_has ls 2 [(0, .ref (Z.1 3))]) (hf : J_X1_findClips_65 h = some out) : W p l e (rmD 0) s m args below meth c H locs 0 0 (MQ below (va_Qv (fun (_ : Unit) => True) (fun _ => Wd Z out g) (FR Z)) args s 0 0 (FR Z)) (F0 m 65 ls []) := by
  refine lv_aload_n C.1 C.2.1 dX1_findClips_65 rfl (lv_at hl 0 rfl) ?_
  refine xg_X1_47 C hW (k_3) dX1_findClips_66 ?_
  refine lv_aload_n C.1 C.2.1 dX1_findClips_69 rfl (lv_at hl 0 rfl) ?_
  refine xg_X1_106 C hW (k_3) dX1_findClips_70 ?_
  refine lv_aload_n C.1 C.2.1 dX1_findClips_73 rfl (lv_at hl 0 rfl) ?_
  refine xg_X1_21 C hW (k_3) dX1_findClips_74 ?_
  refine xg_X1_70 C hW (k_18) dX1_findClips_77 ?_
  refine x_iastC C hW a_11 hf dX1_findClips_80 (fun h1 H locs hf hW => ?_)
  obtain rfl := Option.some.inj hf
  exact x_vret C hW dX1_findClips_81 trivial
set_option maxRecDepth 20000 in
set_option maxHeartbeats 1000000 in
theorem j_X1_findClips_59 {l : Launch} {Z : ZT} {g : va_W} {h : Hp} {r7 : Int32 × Hp → Option (Hp)} {x1 : Int32} {p : Program} {e : Env} {s : State} {m : MethodId} {args : Array Value} {below : List Frame} {meth : Method} {c : Code} (C : CX p s m args meth c cX1_findClips RX1 2 none Z g) {out : Hp} (hr7 : ∀ (x1 : Int32) (h : Hp) (ls : Array Slot) (H : Heap) (locs : List Loc), XW Z h g s.heap H locs → lv_has ls 2 [(0, .ref (Z.1 3)), (1, .int x1)] → r7 (x1, h) = some out → W p l e (rmD 0) s m args below meth c H locs 0 0 (MQ below (va_Qv (fun (_ : Unit) => True) (fun _ => Wd Z out g) (FR Z)) args s 0 0 (FR Z)) (F0 m 7 ls [])) {ls : Array Slot} {H : Heap} {locs : List Loc} (hW : XW Z h g s.heap H locs) (hl : lv_has ls 2 [(0, .ref (Z.1 3)), (1, .int x1)]) (hf : J_X1_findClips_59 h r7 x1 = some out) : W p l e (rmD 0) s m args below meth c H locs 0 0 (MQ below (va_Qv (fun (_ : Unit) => True) (fun _ => Wd Z out g) (FR Z)) args s 0 0 (FR Z)) (F0 m 59 ls []) := by
  rw [J_X1_findClips_59] at hf
  refine x_iinc (w := 1) C hf dX1_findClips_59 hl (k := 1) rfl (by decide) (by decide) (fun v2 => [(1, .int v2), (0, .ref (Z.1 3))]) (fun _ => rfl) (fun v2 ls hf hl => ?_)
  refine lv_goto (tgt := 7) C.1 C.2.1 dX1_findClips_62 (by decide) ?_
  exact hr7 v2 h ls _ _ hW (lv_sub hl [1, 0] rfl) hf
set_option maxRecDepth 20000 in
set_option maxHeartbeats 1000000 in
theorem j_X1_findClips_39 {l : Launch} {Z : ZT} {g : va_W} {h : Hp} {r7 : Int32 × Hp → Option (Hp)} {x1 : Int32} {p : Program} {e : Env} {s : State} {m : MethodId} {args : Array Value} {below : List Frame} {meth : Method} {c : Code} (C : CX p s m args meth c cX1_findClips RX1 2 none Z g) {out : Hp} (hr7 : ∀ (x1 : Int32) (h : Hp) (ls : Array Slot) (H : Heap) (locs : List Loc), XW Z h g s.heap H locs → lv_has ls 2 [(0, .ref (Z.1 3)), (1, .int x1)] → r7 (x1, h) = some out → W p l e (rmD 0) s m args below meth c H locs 0 0 (MQ below (va_Qv (fun (_ : Unit) => True) (fun _ => Wd Z out g) (FR Z)) args s 0 0 (FR Z)) (F0 m 7 ls [])) {ls : Array Slot} {H : Heap} {locs : List Loc} (hW : XW Z h g s.heap H locs) (hl : lv_has ls 2 [(0, .ref (Z.1 3)), (1, .int x1)]) (hf : J_X1_findClips_39 h r7 x1 = some out) : W p l e (rmD 0) s m args below meth c H locs 0 0 (MQ below (va_Qv (fun (_ : Unit) => True) (fun _ => Wd Z out g) (FR Z)) args s 0 0 (FR Z)) (F0 m 39 ls []) := by
  refine lv_aload_n C.1 C.2.1 dX1_findClips_39 rfl (lv_at hl 0 rfl) ?_
  refine xg_X1_47 C hW (k_3) dX1_findClips_40 ?_
  refine lv_aload_n C.1 C.2.1 dX1_findClips_43 rfl (lv_at hl 0 rfl) ?_
  refine xg_X1_106 C hW (k_3) dX1_findClips_44 ?_
  refine lv_iload_n C.1 C.2.1 dX1_findClips_47 rfl (lv_at hl 1 rfl) ?_
  refine x_iastC C hW a_11 hf dX1_findClips_48 (fun h3 H locs hf hW => ?_)
  refine lv_aload_n C.1 C.2.1 dX1_findClips_49 rfl (lv_at hl 0 rfl) ?_
  refine lv_dup C.1 C.2.1 dX1_findClips_50 rfl ?_
  refine xg_X1_106 C hW (k_3) dX1_findClips_51 ?_
  refine lv_iconst (v := 1) C.1 C.2.1 dX1_findClips_54 (by decide) ?_
  refine lv_iadd C.1 C.2.1 dX1_findClips_55 ?_
  refine xp_X1_106 C hW (k_3) hf dX1_findClips_56 (fun h4 H locs hf hW => ?_)
  exact j_X1_findClips_59 C hr7 hW (lv_sub hl [0, 1] rfl) hf
set_option maxRecDepth 20000 in
set_option maxHeartbeats 1000000 in
theorem l_X1_findClips_7 {l : Launch} {Z : ZT} {g : va_W} {p : Program} {e : Env} {s : State} {m : MethodId} {args : Array Value} {below : List Frame} {meth : Method} {c : Code} (C : CX p s m args meth c cX1_findClips RX1 2 none Z g) {out : Hp} : ∀ (n : Nat) (x1 : Int32) (h : Hp) (ls : Array Slot) (H : Heap) (locs : List Loc), XW Z h g s.heap H locs → lv_has ls 2 [(0, .ref (Z.1 3)), (1, .int x1)] → Lp (F_X1_findClips_7) n (x1, h) = some out → W p l e (rmD 0) s m args below meth c H locs 0 0 (MQ below (va_Qv (fun (_ : Unit) => True) (fun _ => Wd Z out g) (FR Z)) args s 0 0 (FR Z)) (F0 m 7 ls []) := by
  intro n
  induction n with
  | zero => intro x1 h ls H locs hW hl hf; cases hf
  | succ n ih =>
    intro x1 h ls H locs hW hl hf
    rw [Lp_s] at hf
    refine lv_iload_n C.1 C.2.1 dX1_findClips_7 rfl (lv_at hl 1 rfl) ?_
    refine lv_aload_n C.1 C.2.1 dX1_findClips_8 rfl (lv_at hl 0 rfl) ?_
    refine xg_X1_21 C hW (k_3) dX1_findClips_9 ?_
    refine xg_X1_70 C hW (k_18) dX1_findClips_12 ?_
    refine x_cmpge (tgt := 65) C hf dX1_findClips_15 (by decide) (fun hf => ?_) (fun hf => ?_)
    · exact j_X1_findClips_65 C hW (lv_sub hl [0] rfl) hf
    · refine lv_iload_n C.1 C.2.1 dX1_findClips_18 rfl (lv_at hl 1 rfl) ?_
      refine x_ifeq (tgt := 39) C hf dX1_findClips_19 (by decide) (fun hf => ?_) (fun hf => ?_)
      · exact j_X1_findClips_39 C (fun z0 z1 => ih z0 z1) hW (lv_sub hl [0, 1] rfl) hf
      · refine lv_aload_n C.1 C.2.1 dX1_findClips_22 rfl (lv_at hl 0 rfl) ?_
        refine xg_X1_25 C hW (k_3) dX1_findClips_23 ?_
        refine lv_iload_n C.1 C.2.1 dX1_findClips_26 rfl (lv_at hl 1 rfl) ?_
        refine x_ialdC C hW a_4 hf dX1_findClips_27 (fun hf => ?_)
        refine lv_aload_n C.1 C.2.1 dX1_findClips_28 rfl (lv_at hl 0 rfl) ?_
        refine xg_X1_29 C hW (k_3) dX1_findClips_29 ?_
        refine lv_iload_n C.1 C.2.1 dX1_findClips_32 rfl (lv_at hl 1 rfl) ?_
        refine lv_iconst (v := 1) C.1 C.2.1 dX1_findClips_33 (by decide) ?_
        refine lv_isub C.1 C.2.1 dX1_findClips_34 ?_
        refine x_ialdC C hW a_5 hf dX1_findClips_35 (fun hf => ?_)
        refine x_cmpeq (tgt := 59) C hf dX1_findClips_36 (by decide) (fun hf => ?_) (fun hf => ?_)
        · exact j_X1_findClips_59 C (fun z0 z1 => ih z0 z1) hW (lv_sub hl [0, 1] rfl) hf
        · exact j_X1_findClips_39 C (fun z0 z1 => ih z0 z1) hW (lv_sub hl [0, 1] rfl) hf
set_option maxRecDepth 20000 in
set_option maxHeartbeats 1000000 in
theorem c_X1_findClips {l : Launch} {Z : ZT} {g : va_W} {h : Hp} {out : Hp} (hf : f_X1_findClips h = some out) : Met l yX1_findClips (wY yX1_findClips cX1_findClips 2 none) (rmD 0) (va_Pc [.ref (Z.1 3)] (Wd Z h g)) (va_Qv (fun (_ : Unit) => True) (fun _ => Wd Z out g) (FR Z)) 0 0 (FR Z) := by
  refine metX RX1 rfl (by decide +kernel) (Nat.le_of_ble_eq_true rfl) ?_
  intro p e s m args below meth c C hW ls hl
  have hl : lv_has ls 2 [(0, .ref (Z.1 3))] := hl
  unfold f_X1_findClips at hf
  refine lv_aload_n C.1 C.2.1 dX1_findClips_0 rfl (lv_at hl 0 rfl) ?_
  refine lv_iconst (v := 0) C.1 C.2.1 dX1_findClips_1 (by decide) ?_
  refine xp_X1_106 C hW (k_3) hf dX1_findClips_2 (fun h5 H locs hf hW => ?_)
  refine lv_iconst (v := 0) C.1 C.2.1 dX1_findClips_5 (by decide) ?_
  refine lv_istore_n (lv' := [(1, .int (0 : Int32)), (0, .ref (Z.1 3))]) C.1 C.2.1 dX1_findClips_6 rfl hl (by decide) rfl (fun ls hl => ?_)
  exact l_X1_findClips_7 C FU (0 : Int32) h5 ls _ _ hW (lv_sub hl [1, 0] rfl) hf
set_option maxRecDepth 20000 in
set_option maxHeartbeats 1000000 in
theorem c_X1_framesOfShot {l : Launch} {Z : ZT} {g : va_W} {h : Hp} {p1 : Int32} {out : Int32} (hf : f_X1_framesOfShot h p1 = some out) : Met l yX1_framesOfShot (wY yX1_framesOfShot cX1_framesOfShot 2 (some .int)) (rmD 0) (va_Pc [.ref (Z.1 3), .int p1] (Wd Z h g)) (va_Qi (fun r (_ : Unit) => r = out) (fun _ => Wd Z h g) (FR Z)) 0 0 (FR Z) := by
  refine metX RX1 rfl (by decide +kernel) (Nat.le_of_ble_eq_true rfl) ?_
  intro p e s m args below meth c C hW ls hl
  have hl : lv_has ls 2 [(0, .ref (Z.1 3)), (1, .int p1)] := hl
  unfold f_X1_framesOfShot at hf
  refine lv_aload_n C.1 C.2.1 dX1_framesOfShot_0 rfl (lv_at hl 0 rfl) ?_
  refine xg_X1_29 C hW (k_3) dX1_framesOfShot_1 ?_
  refine lv_iload_n C.1 C.2.1 dX1_framesOfShot_4 rfl (lv_at hl 1 rfl) ?_
  refine x_ialdC C hW a_5 hf dX1_framesOfShot_5 (fun hf => ?_)
  refine lv_aload_n C.1 C.2.1 dX1_framesOfShot_6 rfl (lv_at hl 0 rfl) ?_
  refine xg_X1_25 C hW (k_3) dX1_framesOfShot_7 ?_
  refine lv_iload_n C.1 C.2.1 dX1_framesOfShot_10 rfl (lv_at hl 1 rfl) ?_
  refine x_ialdC C hW a_4 hf dX1_framesOfShot_11 (fun hf => ?_)
  refine lv_isub C.1 C.2.1 dX1_framesOfShot_12 ?_
  exact x_iret C hW dX1_framesOfShot_13 (Option.some.inj hf)
set_option maxRecDepth 20000 in
set_option maxHeartbeats 1000000 in
theorem j_X1_measureSilence_163 {l : Launch} {Z : ZT} {g : va_W} {h : Hp} {x1 : Int32} {p : Program} {e : Env} {s : State} {m : MethodId} {args : Array Value} {below : List Frame} {meth : Method} {c : Code} (C : CX p s m args meth c cX1_measureSilence RX1 7 none Z g) {out : Hp} {ls : Array Slot} {H : Heap} {locs : List Loc} (hW : XW Z h g s.heap H locs) (hl : lv_has ls 7 [(0, .ref (Z.1 3)), (1, .int x1)]) (hf : J_X1_measureSilence_163 h x1 = some out) : W p l e (rmD 0) s m args below meth c H locs 0 0 (MQ below (va_Qv (fun (_ : Unit) => True) (fun _ => Wd Z out g) (FR Z)) args s 0 0 (FR Z)) (F0 m 163 ls []) := by
  rw [J_X1_measureSilence_163] at hf
  refine lv_aload_n C.1 C.2.1 dX1_measureSilence_163 rfl (lv_at hl 0 rfl) ?_
  refine lv_aload_n C.1 C.2.1 dX1_measureSilence_164 rfl (lv_at hl 0 rfl) ?_
  refine xg_X1_112 C hW (k_3) dX1_measureSilence_165 ?_
  refine lv_iload_n C.1 C.2.1 dX1_measureSilence_168 rfl (lv_at hl 1 rfl) ?_
  refine x_max C hl (ml_X1_118) (by decide) ⟨Nat.le_refl _, Nat.le_refl _⟩ (Nat.le_of_ble_eq_true rfl) dX1_measureSilence_169 ?_
  refine xp_X1_112 C hW (k_3) hf dX1_measureSilence_172 (fun h1 H locs hf hW => ?_)
  obtain rfl := Option.some.inj hf
  exact x_vret C hW dX1_measureSilence_175 trivial
set_option maxRecDepth 20000 in
set_option maxHeartbeats 1000000 in
theorem j_X1_measureSilence_129 {l : Launch} {Z : ZT} {g : va_W} {h : Hp} {r14 : Int32 × Int32 × Hp → Option (Hp)} {x1 : Int32} {x2 : Int32} {x3 : Int32} {p : Program} {e : Env} {s : State} {m : MethodId} {args : Array Value} {below : List Frame} {meth : Method} {c : Code} (C : CX p s m args meth c cX1_measureSilence RX1 7 none Z g) {out : Hp} (hr14 : ∀ (x1 : Int32) (x2 : Int32) (h : Hp) (ls : Array Slot) (H : Heap) (locs : List Loc), XW Z h g s.heap H locs → lv_has ls 7 [(0, .ref (Z.1 3)), (1, .int x1), (2, .int x2)] → r14 (x1, x2, h) = some out → W p l e (rmD 0) s m args below meth c H locs 0 0 (MQ below (va_Qv (fun (_ : Unit) => True) (fun _ => Wd Z out g) (FR Z)) args s 0 0 (FR Z)) (F0 m 14 ls [])) {ls : Array Slot} {H : Heap} {locs : List Loc} (hW : XW Z h g s.heap H locs) (hl : lv_has ls 7 [(0, .ref (Z.1 3)), (1, .int x1), (2, .int x2), (3, .int x3)]) (hf : J_X1_measureSilence_129 h r14 x1 x2 x3 = some out) : W p l e (rmD 0) s m args below meth c H locs 0 0 (MQ below (va_Qv (fun (_ : Unit) => True) (fun _ => Wd Z out g) (FR Z)) args s 0 0 (FR Z)) (F0 m 129 ls []) := by
  refine lv_iload_n C.1 C.2.1 dX1_measureSilence_129 rfl (lv_at hl 1 rfl) ?_
  refine lv_aload_n C.1 C.2.1 dX1_measureSilence_130 rfl (lv_at hl 0 rfl) ?_
  refine xg_X1_29 C hW (k_3) dX1_measureSilence_131 ?_
  refine lv_iload_n C.1 C.2.1 dX1_measureSilence_134 rfl (lv_at hl 2 rfl) ?_
  refine x_ialdC C hW a_5 hf dX1_measureSilence_135 (fun hf => ?_)
  refine lv_iload_n C.1 C.2.1 dX1_measureSilence_136 rfl (lv_at hl 3 rfl) ?_
  refine lv_isub C.1 C.2.1 dX1_measureSilence_137 ?_
  refine lv_iadd C.1 C.2.1 dX1_measureSilence_138 ?_
  refine x_istn C hf dX1_measureSilence_139 rfl hl (by decide) (fun v2 => [(1, .int v2), (0, .ref (Z.1 3)), (2, .int x2), (3, .int x3)]) (fun _ => rfl) (fun v2 ls hf hl => ?_)
  refine lv_aload_n C.1 C.2.1 dX1_measureSilence_140 rfl (lv_at hl 1 rfl) ?_
  refine lv_dup C.1 C.2.1 dX1_measureSilence_141 rfl ?_
  refine xg_X1_109 C hW (k_3) dX1_measureSilence_142 ?_
  refine lv_aload_n C.1 C.2.1 dX1_measureSilence_145 rfl (lv_at hl 1 rfl) ?_
  refine xg_X1_29 C hW (k_3) dX1_measureSilence_146 ?_
  refine lv_iload_n C.1 C.2.1 dX1_measureSilence_149 rfl (lv_at hl 2 rfl) ?_
  refine x_ialdC C hW a_5 hf dX1_measureSilence_150 (fun hf => ?_)
  refine lv_iload_n C.1 C.2.1 dX1_measureSilence_151 rfl (lv_at hl 3 rfl) ?_
  refine lv_isub C.1 C.2.1 dX1_measureSilence_152 ?_
  refine lv_iadd C.1 C.2.1 dX1_measureSilence_153 ?_
  refine xp_X1_109 C hW (k_3) hf dX1_measureSilence_154 (fun h3 H locs hf hW => ?_)
  refine x_iinc (w := 1) C hf dX1_measureSilence_157 hl (k := 2) rfl (by decide) (by decide) (fun v4 => [(2, .int v4), (1, .int v2), (0, .ref (Z.1 3)), (3, .int x3)]) (fun _ => rfl) (fun v4 ls hf hl => ?_)
  refine lv_goto (tgt := 14) C.1 C.2.1 dX1_measureSilence_160 (by decide) ?_
  exact hr14 v2 v4 h3 ls _ _ hW (lv_sub hl [2, 1, 0] rfl) hf
set_option maxRecDepth 20000 in
set_option maxHeartbeats 1000000 in
theorem l_X1_measureSilence_40 {l : Launch} {Z : ZT} {g : va_W} {r14 : Int32 × Int32 × Hp → Option (Hp)} {x2 : Int32} {p : Program} {e : Env} {s : State} {m : MethodId} {args : Array Value} {below : List Frame} {meth : Method} {c : Code} (C : CX p s m args meth c cX1_measureSilence RX1 7 none Z g) {out : Hp} (hr14 : ∀ (x1 : Int32) (x2 : Int32) (h : Hp) (ls : Array Slot) (H : Heap) (locs : List Loc), XW Z h g s.heap H locs → lv_has ls 7 [(0, .ref (Z.1 3)), (1, .int x1), (2, .int x2)] → r14 (x1, x2, h) = some out → W p l e (rmD 0) s m args below meth c H locs 0 0 (MQ below (va_Qv (fun (_ : Unit) => True) (fun _ => Wd Z out g) (FR Z)) args s 0 0 (FR Z)) (F0 m 14 ls [])) : ∀ (n : Nat) (x1 : Int32) (x3 : Int32) (x4 : Int32) (h : Hp) (ls : Array Slot) (H : Heap) (locs : List Loc), XW Z h g s.heap H locs → lv_has ls 7 [(0, .ref (Z.1 3)), (1, .int x1), (2, .int x2), (3, .int x3), (4, .int x4)] → Lp (F_X1_measureSilence_40 r14 x2) n (x1, x3, x4, h) = some out → W p l e (rmD 0) s m args below meth c H locs 0 0 (MQ below (va_Qv (fun (_ : Unit) => True) (fun _ => Wd Z out g) (FR Z)) args s 0 0 (FR Z)) (F0 m 40 ls []) := by
  intro n
  induction n with
  | zero => intro x1 x3 x4 h ls H locs hW hl hf; cases hf
  | succ n ih =>
    intro x1 x3 x4 h ls H locs hW hl hf
    rw [Lp_s] at hf
    refine lv_iload C.1 C.2.1 dX1_measureSilence_40 (lv_at hl 4 rfl) ?_
    refine lv_aload_n C.1 C.2.1 dX1_measureSilence_42 rfl (lv_at hl 0 rfl) ?_
    refine xg_X1_35 C hW (k_3) dX1_measureSilence_43 ?_
    refine lv_iload_n C.1 C.2.1 dX1_measureSilence_46 rfl (lv_at hl 2 rfl) ?_
    refine lv_iconst (v := 1) C.1 C.2.1 dX1_measureSilence_47 (by decide) ?_
    refine lv_iadd C.1 C.2.1 dX1_measureSilence_48 ?_
    refine x_ialdC C hW a_7 hf dX1_measureSilence_49 (fun hf => ?_)
    refine x_cmpge (tgt := 129) C hf dX1_measureSilence_50 (by decide) (fun hf => ?_) (fun hf => ?_)
    · exact j_X1_measureSilence_129 C hr14 hW (lv_sub hl [0, 1, 2, 3] rfl) hf
    · refine lv_aload_n C.1 C.2.1 dX1_measureSilence_53 rfl (lv_at hl 0 rfl) ?_
      refine xg_X1_41 C hW (k_3) dX1_measureSilence_54 ?_
      refine lv_iload C.1 C.2.1 dX1_measureSilence_57 (lv_at hl 4 rfl) ?_
      refine x_ialdC C hW a_9 hf dX1_measureSilence_59 (fun hf => ?_)
      refine x_ist C hf dX1_measureSilence_60 hl (by decide) (fun v5 => [(5, .int v5), (0, .ref (Z.1 3)), (1, .int x1), (2, .int x2), (3, .int x3), (4, .int x4)]) (fun _ => rfl) (fun v5 ls hf hl => ?_)
      refine lv_iconst (v := 0) C.1 C.2.1 dX1_measureSilence_62 (by decide) ?_
      refine lv_aload_n C.1 C.2.1 dX1_measureSilence_63 rfl (lv_at hl 1 rfl) ?_
      refine xg_X1_12 C hW (k_3) hf dX1_measureSilence_64 (fun q6 hk_q6 hf => ?_)
      refine xg_X1_115 C hW hk_q6 dX1_measureSilence_67 ?_
      refine lv_iload C.1 C.2.1 dX1_measureSilence_70 (lv_at hl 0 rfl) ?_
      refine x_ialdC C hW (o_X4_7 hk_q6) hf dX1_measureSilence_72 (fun hf => ?_)
      refine lv_iload_n C.1 C.2.1 dX1_measureSilence_73 rfl (lv_at hl 4 rfl) ?_
      refine lv_isub C.1 C.2.1 dX1_measureSilence_74 ?_
      refine x_max C hl (ml_X1_118) (by decide) ⟨Nat.le_refl _, Nat.le_refl _⟩ (Nat.le_of_ble_eq_true rfl) dX1_measureSilence_75 ?_
      refine x_ist C hf dX1_measureSilence_78 hl (by decide) (fun v7 => [(6, .int v7), (5, .int v5), (0, .ref (Z.1 3)), (1, .int x1), (2, .int x2), (3, .int x3), (4, .int x4)]) (fun _ => rfl) (fun v7 ls hf hl => ?_)
      refine lv_aload_n C.1 C.2.1 dX1_measureSilence_80 rfl (lv_at hl 2 rfl) ?_
      refine lv_dup C.1 C.2.1 dX1_measureSilence_81 rfl ?_
      refine xg_X1_109 C hW (k_3) dX1_measureSilence_82 ?_
      refine lv_iload C.1 C.2.1 dX1_measureSilence_85 (lv_at hl 0 rfl) ?_
      refine lv_iadd C.1 C.2.1 dX1_measureSilence_87 ?_
      refine xp_X1_109 C hW (k_3) hf dX1_measureSilence_88 (fun h8 H locs hf hW => ?_)
      refine lv_aload_n C.1 C.2.1 dX1_measureSilence_91 rfl (lv_at hl 2 rfl) ?_
      refine lv_aload_n C.1 C.2.1 dX1_measureSilence_92 rfl (lv_at hl 2 rfl) ?_
      refine xg_X1_112 C hW (k_3) dX1_measureSilence_93 ?_
      refine lv_iload_n C.1 C.2.1 dX1_measureSilence_96 rfl (lv_at hl 3 rfl) ?_
      refine lv_iload C.1 C.2.1 dX1_measureSilence_97 (lv_at hl 0 rfl) ?_
      refine lv_iadd C.1 C.2.1 dX1_measureSilence_99 ?_
      refine x_max C hl (ml_X1_118) (by decide) ⟨Nat.le_refl _, Nat.le_refl _⟩ (Nat.le_of_ble_eq_true rfl) dX1_measureSilence_100 ?_
      refine xp_X1_112 C hW (k_3) hf dX1_measureSilence_103 (fun h9 H locs hf hW => ?_)
      refine lv_iconst (v := 0) C.1 C.2.1 dX1_measureSilence_106 (by decide) ?_
      refine lv_istore_n (lv' := [(1, .int (0 : Int32)), (6, .int v7), (5, .int v5), (0, .ref (Z.1 3)), (2, .int x2), (3, .int x3), (4, .int x4)]) C.1 C.2.1 dX1_measureSilence_107 rfl hl (by decide) rfl (fun ls hl => ?_)
      refine lv_iload_n C.1 C.2.1 dX1_measureSilence_108 rfl (lv_at hl 5 rfl) ?_
      refine lv_aload_n C.1 C.2.1 dX1_measureSilence_109 rfl (lv_at hl 3 rfl) ?_
      refine xg_X1_12 C hW (k_3) hf dX1_measureSilence_110 (fun q10 hk_q10 hf => ?_)
      refine xg_X1_123 C hW hk_q10 dX1_measureSilence_113 ?_
      refine lv_iload C.1 C.2.1 dX1_measureSilence_116 (lv_at hl 2 rfl) ?_
      refine x_ialdC C hW (o_X4_8 hk_q10) hf dX1_measureSilence_118 (fun hf => ?_)
      refine x_max C hl (ml_X1_118) (by decide) ⟨Nat.le_refl _, Nat.le_refl _⟩ (Nat.le_of_ble_eq_true rfl) dX1_measureSilence_119 ?_
      refine x_istn C hf dX1_measureSilence_122 rfl hl (by decide) (fun v11 => [(3, .int v11), (1, .int (0 : Int32)), (6, .int v7), (5, .int v5), (0, .ref (Z.1 3)), (2, .int x2), (4, .int x4)]) (fun _ => rfl) (fun v11 ls hf hl => ?_)
      refine x_iinc (w := 1) C hf dX1_measureSilence_123 hl (k := 6) rfl (by decide) (by decide) (fun v12 => [(4, .int v12), (3, .int v11), (1, .int (0 : Int32)), (6, .int v7), (5, .int v5), (0, .ref (Z.1 3)), (2, .int x2)]) (fun _ => rfl) (fun v12 ls hf hl => ?_)
      refine lv_goto (tgt := 40) C.1 C.2.1 dX1_measureSilence_126 (by decide) ?_
      exact ih (0 : Int32) v11 v12 h9 ls _ _ hW (lv_sub hl [5, 2, 6, 1, 0] rfl) hf
set_option maxRecDepth 20000 in
set_option maxHeartbeats 1000000 in
theorem l_X1_measureSilence_14 {l : Launch} {Z : ZT} {g : va_W} {p : Program} {e : Env} {s : State} {m : MethodId} {args : Array Value} {below : List Frame} {meth : Method} {c : Code} (C : CX p s m args meth c cX1_measureSilence RX1 7 none Z g) {out : Hp} : ∀ (n : Nat) (x1 : Int32) (x2 : Int32) (h : Hp) (ls : Array Slot) (H : Heap) (locs : List Loc), XW Z h g s.heap H locs → lv_has ls 7 [(0, .ref (Z.1 3)), (1, .int x1), (2, .int x2)] → Lp (F_X1_measureSilence_14) n (x1, x2, h) = some out → W p l e (rmD 0) s m args below meth c H locs 0 0 (MQ below (va_Qv (fun (_ : Unit) => True) (fun _ => Wd Z out g) (FR Z)) args s 0 0 (FR Z)) (F0 m 14 ls []) := by
  intro n
  induction n with
  | zero => intro x1 x2 h ls H locs hW hl hf; cases hf
  | succ n ih =>
    intro x1 x2 h ls H locs hW hl hf
    rw [Lp_s] at hf
    refine lv_iload_n C.1 C.2.1 dX1_measureSilence_14 rfl (lv_at hl 2 rfl) ?_
    refine lv_aload_n C.1 C.2.1 dX1_measureSilence_15 rfl (lv_at hl 0 rfl) ?_
    refine xg_X1_21 C hW (k_3) dX1_measureSilence_16 ?_
    refine xg_X1_70 C hW (k_18) dX1_measureSilence_19 ?_
    refine x_cmpge (tgt := 163) C hf dX1_measureSilence_22 (by decide) (fun hf => ?_) (fun hf => ?_)
    · exact j_X1_measureSilence_163 C hW (lv_sub hl [0, 1] rfl) hf
    · refine lv_aload_n C.1 C.2.1 dX1_measureSilence_25 rfl (lv_at hl 0 rfl) ?_
      refine xg_X1_25 C hW (k_3) dX1_measureSilence_26 ?_
      refine lv_iload_n C.1 C.2.1 dX1_measureSilence_29 rfl (lv_at hl 2 rfl) ?_
      refine x_ialdC C hW a_4 hf dX1_measureSilence_30 (fun hf => ?_)
      refine x_istn C hf dX1_measureSilence_31 rfl hl (by decide) (fun v13 => [(3, .int v13), (0, .ref (Z.1 3)), (1, .int x1), (2, .int x2)]) (fun _ => rfl) (fun v13 ls hf hl => ?_)
      refine lv_aload_n C.1 C.2.1 dX1_measureSilence_32 rfl (lv_at hl 1 rfl) ?_
      refine xg_X1_35 C hW (k_3) dX1_measureSilence_33 ?_
      refine lv_iload_n C.1 C.2.1 dX1_measureSilence_36 rfl (lv_at hl 3 rfl) ?_
      refine x_ialdC C hW a_7 hf dX1_measureSilence_37 (fun hf => ?_)
      refine x_ist C hf dX1_measureSilence_38 hl (by decide) (fun v14 => [(4, .int v14), (3, .int v13), (0, .ref (Z.1 3)), (1, .int x1), (2, .int x2)]) (fun _ => rfl) (fun v14 ls hf hl => ?_)
      exact l_X1_measureSilence_40 C (fun z0 z1 z2 => ih z0 z1 z2) FU x1 v13 v14 h ls _ _ hW (lv_sub hl [2, 3, 4, 1, 0] rfl) hf
set_option maxRecDepth 20000 in
set_option maxHeartbeats 1000000 in
theorem c_X1_measureSilence {l : Launch} {Z : ZT} {g : va_W} {h : Hp} {out : Hp} (hf : f_X1_measureSilence h = some out) : Met l yX1_measureSilence (wY yX1_measureSilence cX1_measureSilence 7 none) (rmD 0) (va_Pc [.ref (Z.1 3)] (Wd Z h g)) (va_Qv (fun (_ : Unit) => True) (fun _ => Wd Z out g) (FR Z)) 0 0 (FR Z) := by
  refine metX RX1 rfl (by decide +kernel) (Nat.le_of_ble_eq_true rfl) ?_
  intro p e s m args below meth c C hW ls hl
  have hl : lv_has ls 7 [(0, .ref (Z.1 3))] := hl
  unfold f_X1_measureSilence at hf
  refine lv_aload_n C.1 C.2.1 dX1_measureSilence_0 rfl (lv_at hl 0 rfl) ?_
  refine lv_iconst (v := 0) C.1 C.2.1 dX1_measureSilence_1 (by decide) ?_
  refine xp_X1_109 C hW (k_3) hf dX1_measureSilence_2 (fun h15 H locs hf hW => ?_)
  refine lv_aload_n C.1 C.2.1 dX1_measureSilence_5 rfl (lv_at hl 0 rfl) ?_
  refine lv_iconst (v := 0) C.1 C.2.1 dX1_measureSilence_6 (by decide) ?_
  refine xp_X1_112 C hW (k_3) hf dX1_measureSilence_7 (fun h16 H locs hf hW => ?_)
  refine lv_iconst (v := 0) C.1 C.2.1 dX1_measureSilence_10 (by decide) ?_
  refine lv_istore_n (lv' := [(1, .int (0 : Int32)), (0, .ref (Z.1 3))]) C.1 C.2.1 dX1_measureSilence_11 rfl hl (by decide) rfl (fun ls hl => ?_)
  refine lv_iconst (v := 0) C.1 C.2.1 dX1_measureSilence_12 (by decide) ?_
  refine lv_istore_n (lv' := [(2, .int (0 : Int32)), (1, .int (0 : Int32)), (0, .ref (Z.1 3))]) C.1 C.2.1 dX1_measureSilence_13 rfl hl (by decide) rfl (fun ls hl => ?_)
  exact l_X1_measureSilence_14 C FU (0 : Int32) (0 : Int32) h16 ls _ _ hW (lv_sub hl [2, 1, 0] rfl) hf
set_option maxRecDepth 20000 in
set_option maxHeartbeats 1000000 in
theorem j_X1_layOut_227 {l : Launch} {Z : ZT} {g : va_W} {h : Hp} {p : Program} {e : Env} {s : State} {m : MethodId} {args : Array Value} {below : List Frame} {meth : Method} {c : Code} (C : CX p s m args meth c cX1_layOut RX1 4 none Z g) {out : Hp} {ls : Array Slot} {H : Heap} {locs : List Loc} (hW : XW Z h g s.heap H locs) (hl : lv_has ls 4 [(0, .ref (Z.1 3))]) (hf : J_X1_layOut_227 h = some out) : W p l e (rmD 1) s m args below meth c H locs 0 0 (MQ below (va_Qv (fun (_ : Unit) => True) (fun _ => Wd Z out g) (FR Z)) args s 0 0 (FR Z)) (F0 m 227 ls []) := by
  refine lv_aload_n C.1 C.2.1 dX1_layOut_227 rfl (lv_at hl 0 rfl) ?_
  refine xg_X1_35 C hW (k_3) dX1_layOut_228 ?_
  refine lv_aload_n C.1 C.2.1 dX1_layOut_231 rfl (lv_at hl 0 rfl) ?_
  refine xg_X1_21 C hW (k_3) dX1_layOut_232 ?_
  refine xg_X1_70 C hW (k_18) dX1_layOut_235 ?_
  refine lv_aload_n C.1 C.2.1 dX1_layOut_238 rfl (lv_at hl 0 rfl) ?_
  refine xg_X1_67 C hW (k_3) dX1_layOut_239 ?_
  refine x_iastC C hW a_7 hf dX1_layOut_242 (fun h1 H locs hf hW => ?_)
  refine lv_aload_n C.1 C.2.1 dX1_layOut_243 rfl (lv_at hl 0 rfl) ?_
  obtain ⟨u2, hcu2, hf⟩ := bnd_t hf
  refine x_callv hW (x_runV C hW hl (wk1 (k_3)) rfl rfl (c_X1_findClips hcu2) (cw_X1_100) ci_X1_findClips cs_X1_findClips (rm_ok (by decide) (by decide)) ⟨Nat.le_refl _, Nat.le_refl _⟩ (As := []) rfl rfl (Nat.le_of_ble_eq_true rfl) dX1_layOut_244) (fun H locs hW => ?_)
  refine lv_aload_n C.1 C.2.1 dX1_layOut_247 rfl (lv_at hl 0 rfl) ?_
  obtain ⟨u3, hcu3, hf⟩ := bnd_t hf
  refine x_callv hW (x_runV C hW hl (wk1 (k_3)) rfl rfl (c_X1_measureSilence hcu3) (cw_X1_103) ci_X1_measureSilence cs_X1_measureSilence (rm_ok (by decide) (by decide)) ⟨Nat.le_refl _, Nat.le_refl _⟩ (As := []) rfl rfl (Nat.le_of_ble_eq_true rfl) dX1_layOut_248) (fun H locs hW => ?_)
  obtain rfl := Option.some.inj hf
  exact x_vret C hW dX1_layOut_251 trivial
set_option maxRecDepth 20000 in
set_option maxHeartbeats 1000000 in
theorem j_X1_layOut_221 {l : Launch} {Z : ZT} {g : va_W} {h : Hp} {r40 : Int32 × Hp → Option (Hp)} {x1 : Int32} {p : Program} {e : Env} {s : State} {m : MethodId} {args : Array Value} {below : List Frame} {meth : Method} {c : Code} (C : CX p s m args meth c cX1_layOut RX1 4 none Z g) {out : Hp} (hr40 : ∀ (x1 : Int32) (h : Hp) (ls : Array Slot) (H : Heap) (locs : List Loc), XW Z h g s.heap H locs → lv_has ls 4 [(0, .ref (Z.1 3)), (1, .int x1)] → r40 (x1, h) = some out → W p l e (rmD 1) s m args below meth c H locs 0 0 (MQ below (va_Qv (fun (_ : Unit) => True) (fun _ => Wd Z out g) (FR Z)) args s 0 0 (FR Z)) (F0 m 40 ls [])) {ls : Array Slot} {H : Heap} {locs : List Loc} (hW : XW Z h g s.heap H locs) (hl : lv_has ls 4 [(0, .ref (Z.1 3)), (1, .int x1)]) (hf : J_X1_layOut_221 h r40 x1 = some out) : W p l e (rmD 1) s m args below meth c H locs 0 0 (MQ below (va_Qv (fun (_ : Unit) => True) (fun _ => Wd Z out g) (FR Z)) args s 0 0 (FR Z)) (F0 m 221 ls []) := by
  rw [J_X1_layOut_221] at hf
  refine x_iinc (w := 1) C hf dX1_layOut_221 hl (k := 1) rfl (by decide) (by decide) (fun v4 => [(1, .int v4), (0, .ref (Z.1 3))]) (fun _ => rfl) (fun v4 ls hf hl => ?_)
  refine lv_goto (tgt := 40) C.1 C.2.1 dX1_layOut_224 (by decide) ?_
  exact hr40 v4 h ls _ _ hW (lv_sub hl [1, 0] rfl) hf
set_option maxRecDepth 20000 in
set_option maxHeartbeats 1000000 in
theorem j_X1_layOut_215 {l : Launch} {Z : ZT} {g : va_W} {h : Hp} {r40 : Int32 × Hp → Option (Hp)} {r158 : Int32 × Hp → Option (Hp)} {x1 : Int32} {x2 : Int32} {x3 : Int32} {p : Program} {e : Env} {s : State} {m : MethodId} {args : Array Value} {below : List Frame} {meth : Method} {c : Code} (C : CX p s m args meth c cX1_layOut RX1 4 none Z g) {out : Hp} (hr40 : ∀ (x1 : Int32) (h : Hp) (ls : Array Slot) (H : Heap) (locs : List Loc), XW Z h g s.heap H locs → lv_has ls 4 [(0, .ref (Z.1 3)), (1, .int x1)] → r40 (x1, h) = some out → W p l e (rmD 1) s m args below meth c H locs 0 0 (MQ below (va_Qv (fun (_ : Unit) => True) (fun _ => Wd Z out g) (FR Z)) args s 0 0 (FR Z)) (F0 m 40 ls [])) (hr158 : ∀ (x3 : Int32) (h : Hp) (ls : Array Slot) (H : Heap) (locs : List Loc), XW Z h g s.heap H locs → lv_has ls 4 [(0, .ref (Z.1 3)), (1, .int x1), (2, .int x2), (3, .int x3)] → r158 (x3, h) = some out → W p l e (rmD 1) s m args below meth c H locs 0 0 (MQ below (va_Qv (fun (_ : Unit) => True) (fun _ => Wd Z out g) (FR Z)) args s 0 0 (FR Z)) (F0 m 158 ls [])) {ls : Array Slot} {H : Heap} {locs : List Loc} (hW : XW Z h g s.heap H locs) (hl : lv_has ls 4 [(0, .ref (Z.1 3)), (1, .int x1), (2, .int x2), (3, .int x3)]) (hf : J_X1_layOut_215 h r40 r158 x1 x2 x3 = some out) : W p l e (rmD 1) s m args below meth c H locs 0 0 (MQ below (va_Qv (fun (_ : Unit) => True) (fun _ => Wd Z out g) (FR Z)) args s 0 0 (FR Z)) (F0 m 215 ls []) := by
  rw [J_X1_layOut_215] at hf
  refine x_iinc (w := 1) C hf dX1_layOut_215 hl (k := 3) rfl (by decide) (by decide) (fun v5 => [(3, .int v5), (0, .ref (Z.1 3)), (1, .int x1), (2, .int x2)]) (fun _ => rfl) (fun v5 ls hf hl => ?_)
  refine lv_goto (tgt := 158) C.1 C.2.1 dX1_layOut_218 (by decide) ?_
  exact hr158 v5 h ls _ _ hW (lv_sub hl [1, 2, 3, 0] rfl) hf
set_option maxRecDepth 20000 in
set_option maxHeartbeats 1000000 in
theorem l_X1_layOut_158 {l : Launch} {Z : ZT} {g : va_W} {r40 : Int32 × Hp → Option (Hp)} {x1 : Int32} {x2 : Int32} {p : Program} {e : Env} {s : State} {m : MethodId} {args : Array Value} {below : List Frame} {meth : Method} {c : Code} (C : CX p s m args meth c cX1_layOut RX1 4 none Z g) {out : Hp} (hr40 : ∀ (x1 : Int32) (h : Hp) (ls : Array Slot) (H : Heap) (locs : List Loc), XW Z h g s.heap H locs → lv_has ls 4 [(0, .ref (Z.1 3)), (1, .int x1)] → r40 (x1, h) = some out → W p l e (rmD 1) s m args below meth c H locs 0 0 (MQ below (va_Qv (fun (_ : Unit) => True) (fun _ => Wd Z out g) (FR Z)) args s 0 0 (FR Z)) (F0 m 40 ls [])) : ∀ (n : Nat) (x3 : Int32) (h : Hp) (ls : Array Slot) (H : Heap) (locs : List Loc), XW Z h g s.heap H locs → lv_has ls 4 [(0, .ref (Z.1 3)), (1, .int x1), (2, .int x2), (3, .int x3)] → Lp (F_X1_layOut_158 r40 x1 x2) n (x3, h) = some out → W p l e (rmD 1) s m args below meth c H locs 0 0 (MQ below (va_Qv (fun (_ : Unit) => True) (fun _ => Wd Z out g) (FR Z)) args s 0 0 (FR Z)) (F0 m 158 ls []) := by
  intro n
  induction n with
  | zero => intro x3 h ls H locs hW hl hf; cases hf
  | succ n ih =>
    intro x3 h ls H locs hW hl hf
    rw [Lp_s] at hf
    rw [F_X1_layOut_158] at hf
    try dsimp only at hf
    refine lv_iload_n C.1 C.2.1 dX1_layOut_158 rfl (lv_at hl 3 rfl) ?_
    refine lv_aload_n C.1 C.2.1 dX1_layOut_159 rfl (lv_at hl 0 rfl) ?_
    refine xg_X1_12 C hW (k_3) hf dX1_layOut_160 (fun q6 hk_q6 hf => ?_)
    refine xg_X1_93 C hW hk_q6 dX1_layOut_163 ?_
    refine lv_iload_n C.1 C.2.1 dX1_layOut_166 rfl (lv_at hl 2 rfl) ?_
    refine lv_iconst (v := 1) C.1 C.2.1 dX1_layOut_167 (by decide) ?_
    refine lv_iadd C.1 C.2.1 dX1_layOut_168 ?_
    refine x_ialdC C hW (o_X4_14 hk_q6) hf dX1_layOut_169 (fun hf => ?_)
    refine x_cmpge (tgt := 221) C hf dX1_layOut_170 (by decide) (fun hf => ?_) (fun hf => ?_)
    · exact j_X1_layOut_221 C hr40 hW (lv_sub hl [0, 1] rfl) hf
    · refine lv_aload_n C.1 C.2.1 dX1_layOut_173 rfl (lv_at hl 0 rfl) ?_
      refine xg_X1_21 C hW (k_3) dX1_layOut_174 ?_
      refine xg_X1_96 C hW (k_18) dX1_layOut_177 ?_
      refine lv_iload_n C.1 C.2.1 dX1_layOut_180 rfl (lv_at hl 3 rfl) ?_
      refine x_zaldC C hW (o_X0_0 (by decide)) hf dX1_layOut_181 (fun hf => ?_)
      refine x_ifeq (tgt := 215) C hf dX1_layOut_182 (by decide) (fun hf => ?_) (fun hf => ?_)
      · exact j_X1_layOut_215 C hr40 (fun z0 z1 => ih z0 z1) hW (lv_sub hl [0, 1, 2, 3] rfl) hf
      · refine lv_aload_n C.1 C.2.1 dX1_layOut_185 rfl (lv_at hl 0 rfl) ?_
        refine xg_X1_44 C hW (k_3) dX1_layOut_186 ?_
        refine lv_iload_n C.1 C.2.1 dX1_layOut_189 rfl (lv_at hl 3 rfl) ?_
        refine lv_aload_n C.1 C.2.1 dX1_layOut_190 rfl (lv_at hl 0 rfl) ?_
        refine xg_X1_67 C hW (k_3) dX1_layOut_191 ?_
        refine x_iastC C hW a_10 hf dX1_layOut_194 (fun h7 H locs hf hW => ?_)
        refine lv_aload_n C.1 C.2.1 dX1_layOut_195 rfl (lv_at hl 0 rfl) ?_
        refine xg_X1_41 C hW (k_3) dX1_layOut_196 ?_
        refine lv_aload_n C.1 C.2.1 dX1_layOut_199 rfl (lv_at hl 0 rfl) ?_
        refine xg_X1_67 C hW (k_3) dX1_layOut_200 ?_
        refine lv_iload_n C.1 C.2.1 dX1_layOut_203 rfl (lv_at hl 3 rfl) ?_
        refine x_iastC C hW a_9 hf dX1_layOut_204 (fun h8 H locs hf hW => ?_)
        refine lv_aload_n C.1 C.2.1 dX1_layOut_205 rfl (lv_at hl 0 rfl) ?_
        refine lv_dup C.1 C.2.1 dX1_layOut_206 rfl ?_
        refine xg_X1_67 C hW (k_3) dX1_layOut_207 ?_
        refine lv_iconst (v := 1) C.1 C.2.1 dX1_layOut_210 (by decide) ?_
        refine lv_iadd C.1 C.2.1 dX1_layOut_211 ?_
        refine xp_X1_67 C hW (k_3) hf dX1_layOut_212 (fun h9 H locs hf hW => ?_)
        exact j_X1_layOut_215 C hr40 (fun z0 z1 => ih z0 z1) hW (lv_sub hl [0, 1, 2, 3] rfl) hf
set_option maxRecDepth 20000 in
set_option maxHeartbeats 1000000 in
theorem l_X1_layOut_40 {l : Launch} {Z : ZT} {g : va_W} {p : Program} {e : Env} {s : State} {m : MethodId} {args : Array Value} {below : List Frame} {meth : Method} {c : Code} (C : CX p s m args meth c cX1_layOut RX1 4 none Z g) {out : Hp} : ∀ (n : Nat) (x1 : Int32) (h : Hp) (ls : Array Slot) (H : Heap) (locs : List Loc), XW Z h g s.heap H locs → lv_has ls 4 [(0, .ref (Z.1 3)), (1, .int x1)] → Lp (F_X1_layOut_40) n (x1, h) = some out → W p l e (rmD 1) s m args below meth c H locs 0 0 (MQ below (va_Qv (fun (_ : Unit) => True) (fun _ => Wd Z out g) (FR Z)) args s 0 0 (FR Z)) (F0 m 40 ls []) := by
  intro n
  induction n with
  | zero => intro x1 h ls H locs hW hl hf; cases hf
  | succ n ih =>
    intro x1 h ls H locs hW hl hf
    rw [Lp_s] at hf
    refine lv_iload_n C.1 C.2.1 dX1_layOut_40 rfl (lv_at hl 1 rfl) ?_
    refine lv_aload_n C.1 C.2.1 dX1_layOut_41 rfl (lv_at hl 0 rfl) ?_
    refine xg_X1_21 C hW (k_3) dX1_layOut_42 ?_
    refine xg_X1_70 C hW (k_18) dX1_layOut_45 ?_
    refine x_cmpge (tgt := 227) C hf dX1_layOut_48 (by decide) (fun hf => ?_) (fun hf => ?_)
    · exact j_X1_layOut_227 C hW (lv_sub hl [0] rfl) hf
    · refine lv_aload_n C.1 C.2.1 dX1_layOut_51 rfl (lv_at hl 0 rfl) ?_
      refine xg_X1_21 C hW (k_3) dX1_layOut_52 ?_
      refine xg_X1_73 C hW (k_18) dX1_layOut_55 ?_
      refine lv_iload_n C.1 C.2.1 dX1_layOut_58 rfl (lv_at hl 1 rfl) ?_
      refine x_ialdC C hW (o_X0_2 (by decide)) hf dX1_layOut_59 (fun hf => ?_)
      refine x_istn C hf dX1_layOut_60 rfl hl (by decide) (fun v10 => [(2, .int v10), (0, .ref (Z.1 3)), (1, .int x1)]) (fun _ => rfl) (fun v10 ls hf hl => ?_)
      refine lv_aload_n C.1 C.2.1 dX1_layOut_61 rfl (lv_at hl 1 rfl) ?_
      refine xg_X1_38 C hW (k_3) dX1_layOut_62 ?_
      refine lv_iload_n C.1 C.2.1 dX1_layOut_65 rfl (lv_at hl 0 rfl) ?_
      refine lv_iload_n C.1 C.2.1 dX1_layOut_66 rfl (lv_at hl 2 rfl) ?_
      refine x_iastC C hW a_8 hf dX1_layOut_67 (fun h11 H locs hf hW => ?_)
      refine lv_aload_n C.1 C.2.1 dX1_layOut_68 rfl (lv_at hl 1 rfl) ?_
      refine xg_X1_25 C hW (k_3) dX1_layOut_69 ?_
      refine lv_iload_n C.1 C.2.1 dX1_layOut_72 rfl (lv_at hl 2 rfl) ?_
      refine lv_aload_n C.1 C.2.1 dX1_layOut_73 rfl (lv_at hl 1 rfl) ?_
      refine xg_X1_12 C hW (k_3) hf dX1_layOut_74 (fun q12 hk_q12 hf => ?_)
      refine lv_iload_n C.1 C.2.1 dX1_layOut_77 rfl (lv_at hl 0 rfl) ?_
      refine lv_aload_n C.1 C.2.1 dX1_layOut_78 rfl (lv_at hl 1 rfl) ?_
      refine xg_X1_21 C hW (k_3) dX1_layOut_79 ?_
      refine xg_X1_76 C hW (k_18) dX1_layOut_82 ?_
      refine lv_iload_n C.1 C.2.1 dX1_layOut_85 rfl (lv_at hl 0 rfl) ?_
      refine x_ialdC C hW (o_X0_3 (by decide)) hf dX1_layOut_86 (fun hf => ?_)
      obtain ⟨u13, hcu13, hf⟩ := bnd_t hf
      refine x_calli hW (x_runV C hW hl (wk4 hk_q12) rfl rfl (c_X4_firstFrame hk_q12 hcu13) (cw_X1_79) ci_X4_firstFrame cs_X4_firstFrame (rm_ok (by decide) (by decide)) ⟨Nat.le_refl _, Nat.le_refl _⟩ (As := [.int v10, .int (h11 (18 + 3) (ix v10))]) rfl rfl (Nat.le_of_ble_eq_true rfl) dX1_layOut_87) (fun H locs hW => ?_)
      refine x_iastC C hW a_4 hf dX1_layOut_90 (fun h14 H locs hf hW => ?_)
      refine lv_aload_n C.1 C.2.1 dX1_layOut_91 rfl (lv_at hl 1 rfl) ?_
      refine xg_X1_29 C hW (k_3) dX1_layOut_92 ?_
      refine lv_iload_n C.1 C.2.1 dX1_layOut_95 rfl (lv_at hl 2 rfl) ?_
      refine lv_aload_n C.1 C.2.1 dX1_layOut_96 rfl (lv_at hl 1 rfl) ?_
      refine xg_X1_12 C hW (k_3) hf dX1_layOut_97 (fun q15 hk_q15 hf => ?_)
      refine lv_iload_n C.1 C.2.1 dX1_layOut_100 rfl (lv_at hl 0 rfl) ?_
      refine lv_aload_n C.1 C.2.1 dX1_layOut_101 rfl (lv_at hl 1 rfl) ?_
      refine xg_X1_21 C hW (k_3) dX1_layOut_102 ?_
      refine xg_X1_83 C hW (k_18) dX1_layOut_105 ?_
      refine lv_iload_n C.1 C.2.1 dX1_layOut_108 rfl (lv_at hl 0 rfl) ?_
      refine x_ialdC C hW (o_X0_4 (by decide)) hf dX1_layOut_109 (fun hf => ?_)
      obtain ⟨u16, hcu16, hf⟩ := bnd_t hf
      refine x_calli hW (x_runV C hW hl (wk4 hk_q15) rfl rfl (c_X4_frameBehind hk_q15 hcu16) (cw_X1_86) ci_X4_frameBehind cs_X4_frameBehind (rm_ok (by decide) (by decide)) ⟨Nat.le_refl _, Nat.le_refl _⟩ (As := [.int v10, .int (h14 (18 + 4) (ix v10))]) rfl rfl (Nat.le_of_ble_eq_true rfl) dX1_layOut_110) (fun H locs hW => ?_)
      refine x_iastC C hW a_5 hf dX1_layOut_113 (fun h17 H locs hf hW => ?_)
      refine lv_aload_n C.1 C.2.1 dX1_layOut_114 rfl (lv_at hl 1 rfl) ?_
      refine xg_X1_32 C hW (k_3) dX1_layOut_115 ?_
      refine lv_iload_n C.1 C.2.1 dX1_layOut_118 rfl (lv_at hl 2 rfl) ?_
      refine lv_aload_n C.1 C.2.1 dX1_layOut_119 rfl (lv_at hl 1 rfl) ?_
      refine xg_X1_64 C hW (k_3) dX1_layOut_120 ?_
      refine x_iastC C hW a_6 hf dX1_layOut_123 (fun h18 H locs hf hW => ?_)
      refine lv_aload_n C.1 C.2.1 dX1_layOut_124 rfl (lv_at hl 1 rfl) ?_
      refine lv_dup C.1 C.2.1 dX1_layOut_125 rfl ?_
      refine xg_X1_64 C hW (k_3) dX1_layOut_126 ?_
      refine lv_aload_n C.1 C.2.1 dX1_layOut_129 rfl (lv_at hl 1 rfl) ?_
      refine lv_iload_n C.1 C.2.1 dX1_layOut_130 rfl (lv_at hl 2 rfl) ?_
      obtain ⟨u19, hcu19, hf⟩ := bnd_t hf
      refine x_calli hW (x_runV C hW hl (wk1 (k_3)) rfl rfl (c_X1_framesOfShot hcu19) (cw_X1_89) ci_X1_framesOfShot cs_X1_framesOfShot (rm_ok (by decide) (by decide)) ⟨Nat.le_refl _, Nat.le_refl _⟩ (As := [.int x1]) rfl rfl (Nat.le_of_ble_eq_true rfl) dX1_layOut_131) (fun H locs hW => ?_)
      refine lv_iadd C.1 C.2.1 dX1_layOut_134 ?_
      refine xp_X1_64 C hW (k_3) hf dX1_layOut_135 (fun h20 H locs hf hW => ?_)
      refine lv_aload_n C.1 C.2.1 dX1_layOut_138 rfl (lv_at hl 1 rfl) ?_
      refine xg_X1_35 C hW (k_3) dX1_layOut_139 ?_
      refine lv_iload_n C.1 C.2.1 dX1_layOut_142 rfl (lv_at hl 2 rfl) ?_
      refine lv_aload_n C.1 C.2.1 dX1_layOut_143 rfl (lv_at hl 1 rfl) ?_
      refine xg_X1_67 C hW (k_3) dX1_layOut_144 ?_
      refine x_iastC C hW a_7 hf dX1_layOut_147 (fun h21 H locs hf hW => ?_)
      refine lv_aload_n C.1 C.2.1 dX1_layOut_148 rfl (lv_at hl 1 rfl) ?_
      refine xg_X1_12 C hW (k_3) hf dX1_layOut_149 (fun q22 hk_q22 hf => ?_)
      refine xg_X1_93 C hW hk_q22 dX1_layOut_152 ?_
      refine lv_iload_n C.1 C.2.1 dX1_layOut_155 rfl (lv_at hl 0 rfl) ?_
      refine x_ialdC C hW (o_X4_14 hk_q22) hf dX1_layOut_156 (fun hf => ?_)
      refine x_istn C hf dX1_layOut_157 rfl hl (by decide) (fun v23 => [(3, .int v23), (2, .int v10), (0, .ref (Z.1 3)), (1, .int x1)]) (fun _ => rfl) (fun v23 ls hf hl => ?_)
      exact l_X1_layOut_158 C (fun z0 z1 => ih z0 z1) FU v23 h21 ls _ _ hW (lv_sub hl [2, 3, 1, 0] rfl) hf
set_option maxRecDepth 20000 in
set_option maxHeartbeats 1000000 in
theorem j_X1_layOut_38 {l : Launch} {Z : ZT} {g : va_W} {h : Hp} {p : Program} {e : Env} {s : State} {m : MethodId} {args : Array Value} {below : List Frame} {meth : Method} {c : Code} (C : CX p s m args meth c cX1_layOut RX1 4 none Z g) {out : Hp} {ls : Array Slot} {H : Heap} {locs : List Loc} (hW : XW Z h g s.heap H locs) (hl : lv_has ls 4 [(0, .ref (Z.1 3))]) (hf : J_X1_layOut_38 h = some out) : W p l e (rmD 1) s m args below meth c H locs 0 0 (MQ below (va_Qv (fun (_ : Unit) => True) (fun _ => Wd Z out g) (FR Z)) args s 0 0 (FR Z)) (F0 m 38 ls []) := by
  refine lv_iconst (v := 0) C.1 C.2.1 dX1_layOut_38 (by decide) ?_
  refine lv_istore_n (lv' := [(1, .int (0 : Int32)), (0, .ref (Z.1 3))]) C.1 C.2.1 dX1_layOut_39 rfl hl (by decide) rfl (fun ls hl => ?_)
  exact l_X1_layOut_40 C FU (0 : Int32) h ls _ _ hW (lv_sub hl [1, 0] rfl) hf
set_option maxRecDepth 20000 in
set_option maxHeartbeats 1000000 in
theorem l_X1_layOut_12 {l : Launch} {Z : ZT} {g : va_W} {p : Program} {e : Env} {s : State} {m : MethodId} {args : Array Value} {below : List Frame} {meth : Method} {c : Code} (C : CX p s m args meth c cX1_layOut RX1 4 none Z g) {out : Hp} : ∀ (n : Nat) (x1 : Int32) (h : Hp) (ls : Array Slot) (H : Heap) (locs : List Loc), XW Z h g s.heap H locs → lv_has ls 4 [(0, .ref (Z.1 3)), (1, .int x1)] → Lp (F_X1_layOut_12) n (x1, h) = some out → W p l e (rmD 1) s m args below meth c H locs 0 0 (MQ below (va_Qv (fun (_ : Unit) => True) (fun _ => Wd Z out g) (FR Z)) args s 0 0 (FR Z)) (F0 m 12 ls []) := by
  intro n
  induction n with
  | zero => intro x1 h ls H locs hW hl hf; cases hf
  | succ n ih =>
    intro x1 h ls H locs hW hl hf
    rw [Lp_s] at hf
    refine lv_iload_n C.1 C.2.1 dX1_layOut_12 rfl (lv_at hl 1 rfl) ?_
    refine lv_bipush (v := 40) C.1 C.2.1 dX1_layOut_13 (by decide) ?_
    refine x_cmpge (tgt := 38) C hf dX1_layOut_15 (by decide) (fun hf => ?_) (fun hf => ?_)
    · exact j_X1_layOut_38 C hW (lv_sub hl [0] rfl) hf
    · refine lv_aload_n C.1 C.2.1 dX1_layOut_18 rfl (lv_at hl 0 rfl) ?_
      refine xg_X1_38 C hW (k_3) dX1_layOut_19 ?_
      refine lv_iload_n C.1 C.2.1 dX1_layOut_22 rfl (lv_at hl 1 rfl) ?_
      refine lv_iconst (v := -1) C.1 C.2.1 dX1_layOut_23 (by decide) ?_
      refine x_iastC C hW a_8 hf dX1_layOut_24 (fun h24 H locs hf hW => ?_)
      refine lv_aload_n C.1 C.2.1 dX1_layOut_25 rfl (lv_at hl 0 rfl) ?_
      refine xg_X1_44 C hW (k_3) dX1_layOut_26 ?_
      refine lv_iload_n C.1 C.2.1 dX1_layOut_29 rfl (lv_at hl 1 rfl) ?_
      refine lv_iconst (v := -1) C.1 C.2.1 dX1_layOut_30 (by decide) ?_
      refine x_iastC C hW a_10 hf dX1_layOut_31 (fun h25 H locs hf hW => ?_)
      refine x_iinc (w := 1) C hf dX1_layOut_32 hl (k := 1) rfl (by decide) (by decide) (fun v26 => [(1, .int v26), (0, .ref (Z.1 3))]) (fun _ => rfl) (fun v26 ls hf hl => ?_)
      refine lv_goto (tgt := 12) C.1 C.2.1 dX1_layOut_35 (by decide) ?_
      exact ih v26 h25 ls _ _ hW (lv_sub hl [1, 0] rfl) hf
set_option maxRecDepth 20000 in
set_option maxHeartbeats 1000000 in
theorem c_X1_layOut {l : Launch} {Z : ZT} {g : va_W} {h : Hp} {out : Hp} (hf : f_X1_layOut h = some out) : Met l yX1_layOut (wY yX1_layOut cX1_layOut 4 none) (rmD 1) (va_Pc [.ref (Z.1 3)] (Wd Z h g)) (va_Qv (fun (_ : Unit) => True) (fun _ => Wd Z out g) (FR Z)) 0 0 (FR Z) := by
  refine metX RX1 rfl (by decide +kernel) (Nat.le_of_ble_eq_true rfl) ?_
  intro p e s m args below meth c C hW ls hl
  have hl : lv_has ls 4 [(0, .ref (Z.1 3))] := hl
  unfold f_X1_layOut at hf
  refine lv_aload_n C.1 C.2.1 dX1_layOut_0 rfl (lv_at hl 0 rfl) ?_
  refine lv_iconst (v := 0) C.1 C.2.1 dX1_layOut_1 (by decide) ?_
  refine xp_X1_64 C hW (k_3) hf dX1_layOut_2 (fun h27 H locs hf hW => ?_)
  refine lv_aload_n C.1 C.2.1 dX1_layOut_5 rfl (lv_at hl 0 rfl) ?_
  refine lv_iconst (v := 0) C.1 C.2.1 dX1_layOut_6 (by decide) ?_
  refine xp_X1_67 C hW (k_3) hf dX1_layOut_7 (fun h28 H locs hf hW => ?_)
  refine lv_iconst (v := 0) C.1 C.2.1 dX1_layOut_10 (by decide) ?_
  refine lv_istore_n (lv' := [(1, .int (0 : Int32)), (0, .ref (Z.1 3))]) C.1 C.2.1 dX1_layOut_11 rfl hl (by decide) rfl (fun ls hl => ?_)
  exact l_X1_layOut_12 C FU (0 : Int32) h28 ls _ _ hW (lv_sub hl [1, 0] rfl) hf
set_option maxRecDepth 20000 in
set_option maxHeartbeats 1000000 in
theorem c_X1_exchangeRecording {l : Launch} {Z : ZT} {g : va_W} {h : Hp} {p1 : Nat} (hk_p1 : knd p1 = 4) {out : Nat × Hp} (hf : f_X1_exchangeRecording h p1 = some out) : Met l yX1_exchangeRecording (wY yX1_exchangeRecording cX1_exchangeRecording 3 (some (.object "TranscriptCutter$Recording"))) (rmD 2) (va_Pc [.ref (Z.1 3), .ref (Z.1 p1)] (Wd Z h g)) (va_Qr (fun (_ : Unit) => True) (fun _ a t => a = Z.1 out.1 ∧ Wd Z out.2 g t) (FR Z)) 0 0 (FR Z) := by
  refine metX RX1 rfl (by decide +kernel) (Nat.le_of_ble_eq_true rfl) ?_
  intro p e s m args below meth c C hW ls hl
  have hl : lv_has ls 3 [(0, .ref (Z.1 3)), (1, .ref (Z.1 p1))] := hl
  unfold f_X1_exchangeRecording at hf
  refine lv_aload_n C.1 C.2.1 dX1_exchangeRecording_0 rfl (lv_at hl 0 rfl) ?_
  refine xg_X1_12 C hW (k_3) hf dX1_exchangeRecording_1 (fun q1 hk_q1 hf => ?_)
  refine lv_astore_n (lv' := [(2, .ref (Z.1 q1)), (0, .ref (Z.1 3)), (1, .ref (Z.1 p1))]) C.1 C.2.1 dX1_exchangeRecording_4 rfl hl (by decide) rfl (fun ls hl => ?_)
  refine lv_aload_n C.1 C.2.1 dX1_exchangeRecording_5 rfl (lv_at hl 1 rfl) ?_
  refine lv_aload_n C.1 C.2.1 dX1_exchangeRecording_6 rfl (lv_at hl 2 rfl) ?_
  refine xp_X1_12 C hW (k_3) hk_p1 hf dX1_exchangeRecording_7 (fun h2 H locs hf hW => ?_)
  refine lv_aload_n C.1 C.2.1 dX1_exchangeRecording_10 rfl (lv_at hl 1 rfl) ?_
  refine xg_X1_21 C hW (k_3) dX1_exchangeRecording_11 ?_
  refine lv_aload_n C.1 C.2.1 dX1_exchangeRecording_14 rfl (lv_at hl 2 rfl) ?_
  refine xg_X1_53 C hW hk_p1 dX1_exchangeRecording_15 ?_
  obtain ⟨u3, hcu3, hf⟩ := bnd_t hf
  refine x_callv hW (x_runV C hW hl (wk0 (k_18)) rfl rfl (c_X0_keepEverything (k_18) hcu3) (cw_X1_57) ci_X0_keepEverything cs_X0_keepEverything (rm_ok (by decide) (by decide)) ⟨Nat.le_refl _, Nat.le_refl _⟩ (As := [.int (h2 p1 13)]) rfl rfl (Nat.le_of_ble_eq_true rfl) dX1_exchangeRecording_18) (fun H locs hW => ?_)
  refine lv_aload_n C.1 C.2.1 dX1_exchangeRecording_21 rfl (lv_at hl 1 rfl) ?_
  obtain ⟨u4, hcu4, hf⟩ := bnd_t hf
  refine x_callv hW (x_runV C hW hl (wk1 (k_3)) rfl rfl (c_X1_layOut hcu4) (cw_X1_61) ci_X1_layOut cs_X1_layOut (rm_ok (by decide) (by decide)) ⟨Nat.le_refl _, Nat.le_refl _⟩ (As := []) rfl rfl (Nat.le_of_ble_eq_true rfl) dX1_exchangeRecording_22) (fun H locs hW => ?_)
  refine lv_aload_n C.1 C.2.1 dX1_exchangeRecording_25 rfl (lv_at hl 0 rfl) ?_
  obtain rfl := Option.some.inj hf
  exact x_aret C hW rfl dX1_exchangeRecording_26
set_option maxRecDepth 20000 in
set_option maxHeartbeats 1000000 in
theorem c_X1_stateOf {l : Launch} {Z : ZT} {g : va_W} {h : Hp} {p1 : Int32} {out : Int32} (hf : f_X1_stateOf h p1 = some out) : Met l yX1_stateOf (wY yX1_stateOf cX1_stateOf 2 (some .int)) (rmD 0) (va_Pc [.ref (Z.1 3), .int p1] (Wd Z h g)) (va_Qi (fun r (_ : Unit) => r = out) (fun _ => Wd Z h g) (FR Z)) 0 0 (FR Z) := by
  refine metX RX1 rfl (by decide +kernel) (Nat.le_of_ble_eq_true rfl) ?_
  intro p e s m args below meth c C hW ls hl
  have hl : lv_has ls 2 [(0, .ref (Z.1 3)), (1, .int p1)] := hl
  unfold f_X1_stateOf at hf
  refine lv_aload_n C.1 C.2.1 dX1_stateOf_0 rfl (lv_at hl 0 rfl) ?_
  refine xg_X1_21 C hW (k_3) dX1_stateOf_1 ?_
  refine xg_X1_96 C hW (k_18) dX1_stateOf_4 ?_
  refine lv_iload_n C.1 C.2.1 dX1_stateOf_7 rfl (lv_at hl 1 rfl) ?_
  refine x_zaldC C hW (o_X0_0 (by decide)) hf dX1_stateOf_8 (fun hf => ?_)
  refine x_ifeq (tgt := 14) C hf dX1_stateOf_9 (by decide) (fun hf => ?_) (fun hf => ?_)
  · refine lv_aload_n C.1 C.2.1 dX1_stateOf_14 rfl (lv_at hl 0 rfl) ?_
    refine xg_X1_38 C hW (k_3) dX1_stateOf_15 ?_
    refine lv_aload_n C.1 C.2.1 dX1_stateOf_18 rfl (lv_at hl 0 rfl) ?_
    refine xg_X1_12 C hW (k_3) hf dX1_stateOf_19 (fun q1 hk_q1 hf => ?_)
    refine xg_X1_126 C hW hk_q1 dX1_stateOf_22 ?_
    refine lv_iload_n C.1 C.2.1 dX1_stateOf_25 rfl (lv_at hl 1 rfl) ?_
    refine x_ialdC C hW (o_X4_9 hk_q1) hf dX1_stateOf_26 (fun hf => ?_)
    refine x_ialdC C hW a_8 hf dX1_stateOf_27 (fun hf => ?_)
    refine lv_iconst (v := -1) C.1 C.2.1 dX1_stateOf_28 (by decide) ?_
    refine x_cmpne (tgt := 36) C hf dX1_stateOf_29 (by decide) (fun hf => ?_) (fun hf => ?_)
    · refine lv_iconst (v := 1) C.1 C.2.1 dX1_stateOf_36 (by decide) ?_
      exact x_iret C hW dX1_stateOf_37 (Option.some.inj hf)
    · refine lv_iconst (v := 2) C.1 C.2.1 dX1_stateOf_32 (by decide) ?_
      refine lv_goto (tgt := 37) C.1 C.2.1 dX1_stateOf_33 (by decide) ?_
      exact x_iret C hW dX1_stateOf_37 (Option.some.inj hf)
  · refine lv_iconst (v := 0) C.1 C.2.1 dX1_stateOf_12 (by decide) ?_
    exact x_iret C hW dX1_stateOf_13 (Option.some.inj hf)
set_option maxRecDepth 20000 in
set_option maxHeartbeats 1000000 in
theorem j_X1_countKept_42 {l : Launch} {Z : ZT} {g : va_W} {h : Hp} {p1 : Int32} {r12 : Int32 × Int32 → Option (Int32)} {x2 : Int32} {x3 : Int32} {p : Program} {e : Env} {s : State} {m : MethodId} {args : Array Value} {below : List Frame} {meth : Method} {c : Code} (C : CX p s m args meth c cX1_countKept RX1 4 (some .int) Z g) {out : Int32} (hr12 : ∀ (x2 : Int32) (x3 : Int32) (ls : Array Slot) (H : Heap) (locs : List Loc), XW Z h g s.heap H locs → lv_has ls 4 [(0, .ref (Z.1 3)), (1, .int p1), (2, .int x2), (3, .int x3)] → r12 (x2, x3) = some out → W p l e (rmD 0) s m args below meth c H locs 0 0 (MQ below (va_Qi (fun r (_ : Unit) => r = out) (fun _ => Wd Z h g) (FR Z)) args s 0 0 (FR Z)) (F0 m 12 ls [])) {ls : Array Slot} {H : Heap} {locs : List Loc} (hW : XW Z h g s.heap H locs) (hl : lv_has ls 4 [(0, .ref (Z.1 3)), (1, .int p1), (2, .int x2), (3, .int x3)]) (hf : J_X1_countKept_42 h p1 r12 x2 x3 = some out) : W p l e (rmD 0) s m args below meth c H locs 0 0 (MQ below (va_Qi (fun r (_ : Unit) => r = out) (fun _ => Wd Z h g) (FR Z)) args s 0 0 (FR Z)) (F0 m 42 ls []) := by
  rw [J_X1_countKept_42] at hf
  refine x_iinc (w := 1) C hf dX1_countKept_42 hl (k := 3) rfl (by decide) (by decide) (fun v1 => [(3, .int v1), (0, .ref (Z.1 3)), (1, .int p1), (2, .int x2)]) (fun _ => rfl) (fun v1 ls hf hl => ?_)
  refine lv_goto (tgt := 12) C.1 C.2.1 dX1_countKept_45 (by decide) ?_
  exact hr12 x2 v1 ls _ _ hW (lv_sub hl [1, 2, 3, 0] rfl) hf
set_option maxRecDepth 20000 in
set_option maxHeartbeats 1000000 in
theorem l_X1_countKept_12 {l : Launch} {Z : ZT} {g : va_W} {h : Hp} {p1 : Int32} {p : Program} {e : Env} {s : State} {m : MethodId} {args : Array Value} {below : List Frame} {meth : Method} {c : Code} (C : CX p s m args meth c cX1_countKept RX1 4 (some .int) Z g) {out : Int32} : ∀ (n : Nat) (x2 : Int32) (x3 : Int32) (ls : Array Slot) (H : Heap) (locs : List Loc), XW Z h g s.heap H locs → lv_has ls 4 [(0, .ref (Z.1 3)), (1, .int p1), (2, .int x2), (3, .int x3)] → Lp (F_X1_countKept_12 h p1) n (x2, x3) = some out → W p l e (rmD 0) s m args below meth c H locs 0 0 (MQ below (va_Qi (fun r (_ : Unit) => r = out) (fun _ => Wd Z h g) (FR Z)) args s 0 0 (FR Z)) (F0 m 12 ls []) := by
  intro n
  induction n with
  | zero => intro x2 x3 ls H locs hW hl hf; cases hf
  | succ n ih =>
    intro x2 x3 ls H locs hW hl hf
    rw [Lp_s] at hf
    rw [F_X1_countKept_12] at hf
    try dsimp only at hf
    refine lv_iload_n C.1 C.2.1 dX1_countKept_12 rfl (lv_at hl 3 rfl) ?_
    refine lv_aload_n C.1 C.2.1 dX1_countKept_13 rfl (lv_at hl 0 rfl) ?_
    refine xg_X1_12 C hW (k_3) hf dX1_countKept_14 (fun q2 hk_q2 hf => ?_)
    refine xg_X1_93 C hW hk_q2 dX1_countKept_17 ?_
    refine lv_iload_n C.1 C.2.1 dX1_countKept_20 rfl (lv_at hl 1 rfl) ?_
    refine lv_iconst (v := 1) C.1 C.2.1 dX1_countKept_21 (by decide) ?_
    refine lv_iadd C.1 C.2.1 dX1_countKept_22 ?_
    refine x_ialdC C hW (o_X4_14 hk_q2) hf dX1_countKept_23 (fun hf => ?_)
    refine x_cmpge (tgt := 48) C hf dX1_countKept_24 (by decide) (fun hf => ?_) (fun hf => ?_)
    · refine lv_iload_n C.1 C.2.1 dX1_countKept_48 rfl (lv_at hl 2 rfl) ?_
      exact x_iret C hW dX1_countKept_49 (Option.some.inj hf)
    · refine lv_aload_n C.1 C.2.1 dX1_countKept_27 rfl (lv_at hl 0 rfl) ?_
      refine xg_X1_21 C hW (k_3) dX1_countKept_28 ?_
      refine xg_X1_96 C hW (k_18) dX1_countKept_31 ?_
      refine lv_iload_n C.1 C.2.1 dX1_countKept_34 rfl (lv_at hl 3 rfl) ?_
      refine x_zaldC C hW (o_X0_0 (by decide)) hf dX1_countKept_35 (fun hf => ?_)
      refine x_ifeq (tgt := 42) C hf dX1_countKept_36 (by decide) (fun hf => ?_) (fun hf => ?_)
      · exact j_X1_countKept_42 C (fun z0 z1 => ih z0 z1) hW (lv_sub hl [0, 1, 2, 3] rfl) hf
      · refine x_iinc (w := 1) C hf dX1_countKept_39 hl (k := 2) rfl (by decide) (by decide) (fun v3 => [(2, .int v3), (0, .ref (Z.1 3)), (1, .int p1), (3, .int x3)]) (fun _ => rfl) (fun v3 ls hf hl => ?_)
        exact j_X1_countKept_42 C (fun z0 z1 => ih z0 z1) hW (lv_sub hl [1, 2, 0, 3] rfl) hf
set_option maxRecDepth 20000 in
set_option maxHeartbeats 1000000 in
theorem c_X1_countKept {l : Launch} {Z : ZT} {g : va_W} {h : Hp} {p1 : Int32} {out : Int32} (hf : f_X1_countKept h p1 = some out) : Met l yX1_countKept (wY yX1_countKept cX1_countKept 4 (some .int)) (rmD 0) (va_Pc [.ref (Z.1 3), .int p1] (Wd Z h g)) (va_Qi (fun r (_ : Unit) => r = out) (fun _ => Wd Z h g) (FR Z)) 0 0 (FR Z) := by
  refine metX RX1 rfl (by decide +kernel) (Nat.le_of_ble_eq_true rfl) ?_
  intro p e s m args below meth c C hW ls hl
  have hl : lv_has ls 4 [(0, .ref (Z.1 3)), (1, .int p1)] := hl
  unfold f_X1_countKept at hf
  refine lv_iconst (v := 0) C.1 C.2.1 dX1_countKept_0 (by decide) ?_
  refine lv_istore_n (lv' := [(2, .int (0 : Int32)), (0, .ref (Z.1 3)), (1, .int p1)]) C.1 C.2.1 dX1_countKept_1 rfl hl (by decide) rfl (fun ls hl => ?_)
  refine lv_aload_n C.1 C.2.1 dX1_countKept_2 rfl (lv_at hl 1 rfl) ?_
  refine xg_X1_12 C hW (k_3) hf dX1_countKept_3 (fun q4 hk_q4 hf => ?_)
  refine xg_X1_93 C hW hk_q4 dX1_countKept_6 ?_
  refine lv_iload_n C.1 C.2.1 dX1_countKept_9 rfl (lv_at hl 2 rfl) ?_
  refine x_ialdC C hW (o_X4_14 hk_q4) hf dX1_countKept_10 (fun hf => ?_)
  refine x_istn C hf dX1_countKept_11 rfl hl (by decide) (fun v5 => [(3, .int v5), (2, .int (0 : Int32)), (0, .ref (Z.1 3)), (1, .int p1)]) (fun _ => rfl) (fun v5 ls hf hl => ?_)
  exact l_X1_countKept_12 C FU (0 : Int32) v5 ls _ _ hW (lv_sub hl [2, 3, 1, 0] rfl) hf
set_option maxRecDepth 20000 in
set_option maxHeartbeats 1000000 in
theorem j_X1_cutPlaces_107 {l : Launch} {Z : ZT} {g : va_W} {p1 : Int32} {p2 : Int32} {h : Hp} {x3 : Int32} {p : Program} {e : Env} {s : State} {m : MethodId} {args : Array Value} {below : List Frame} {meth : Method} {c : Code} (C : CX p s m args meth c cX1_cutPlaces RX1 5 none Z g) {out : Hp} {ls : Array Slot} {H : Heap} {locs : List Loc} (hW : XW Z h g s.heap H locs) (hl : lv_has ls 5 [(0, .ref (Z.1 3)), (1, .int p1), (2, .int p2), (3, .int x3)]) (hf : J_X1_cutPlaces_107 p1 p2 h x3 = some out) : W p l e (rmD 2) s m args below meth c H locs 0 0 (MQ below (va_Qv (fun (_ : Unit) => True) (fun _ => Wd Z out g) (FR Z)) args s 0 0 (FR Z)) (F0 m 107 ls []) := by
  rw [J_X1_cutPlaces_107] at hf
  refine lv_aload_n C.1 C.2.1 dX1_cutPlaces_107 rfl (lv_at hl 0 rfl) ?_
  refine xg_X1_21 C hW (k_3) dX1_cutPlaces_108 ?_
  refine lv_iload_n C.1 C.2.1 dX1_cutPlaces_111 rfl (lv_at hl 3 rfl) ?_
  refine xp_X1_70 C hW (k_18) hf dX1_cutPlaces_112 (fun h1 H locs hf hW => ?_)
  refine lv_aload_n C.1 C.2.1 dX1_cutPlaces_115 rfl (lv_at hl 0 rfl) ?_
  obtain ⟨u2, hcu2, hf⟩ := bnd_t hf
  refine x_callv hW (x_runV C hW hl (wk1 (k_3)) rfl rfl (c_X1_layOut hcu2) (cw_X1_61) ci_X1_layOut cs_X1_layOut (rm_ok (by decide) (by decide)) ⟨Nat.le_refl _, Nat.le_refl _⟩ (As := []) rfl rfl (Nat.le_of_ble_eq_true rfl) dX1_cutPlaces_116) (fun H locs hW => ?_)
  obtain rfl := Option.some.inj hf
  exact x_vret C hW dX1_cutPlaces_119 trivial
set_option maxRecDepth 20000 in
set_option maxHeartbeats 1000000 in
theorem j_X1_cutPlaces_101 {l : Launch} {Z : ZT} {g : va_W} {p1 : Int32} {p2 : Int32} {h : Hp} {r41 : Int32 × Int32 × Hp → Option (Hp)} {x3 : Int32} {x4 : Int32} {p : Program} {e : Env} {s : State} {m : MethodId} {args : Array Value} {below : List Frame} {meth : Method} {c : Code} (C : CX p s m args meth c cX1_cutPlaces RX1 5 none Z g) {out : Hp} (hr41 : ∀ (x3 : Int32) (x4 : Int32) (h : Hp) (ls : Array Slot) (H : Heap) (locs : List Loc), XW Z h g s.heap H locs → lv_has ls 5 [(0, .ref (Z.1 3)), (1, .int p1), (2, .int p2), (3, .int x3), (4, .int x4)] → r41 (x3, x4, h) = some out → W p l e (rmD 2) s m args below meth c H locs 0 0 (MQ below (va_Qv (fun (_ : Unit) => True) (fun _ => Wd Z out g) (FR Z)) args s 0 0 (FR Z)) (F0 m 41 ls [])) {ls : Array Slot} {H : Heap} {locs : List Loc} (hW : XW Z h g s.heap H locs) (hl : lv_has ls 5 [(0, .ref (Z.1 3)), (1, .int p1), (2, .int p2), (3, .int x3), (4, .int x4)]) (hf : J_X1_cutPlaces_101 p1 p2 h r41 x3 x4 = some out) : W p l e (rmD 2) s m args below meth c H locs 0 0 (MQ below (va_Qv (fun (_ : Unit) => True) (fun _ => Wd Z out g) (FR Z)) args s 0 0 (FR Z)) (F0 m 101 ls []) := by
  rw [J_X1_cutPlaces_101] at hf
  refine x_iinc (w := 1) C hf dX1_cutPlaces_101 hl (k := 4) rfl (by decide) (by decide) (fun v3 => [(4, .int v3), (0, .ref (Z.1 3)), (1, .int p1), (2, .int p2), (3, .int x3)]) (fun _ => rfl) (fun v3 ls hf hl => ?_)
  refine lv_goto (tgt := 41) C.1 C.2.1 dX1_cutPlaces_104 (by decide) ?_
  exact hr41 x3 v3 h ls _ _ hW (lv_sub hl [1, 2, 3, 4, 0] rfl) hf
set_option maxRecDepth 20000 in
set_option maxHeartbeats 1000000 in
theorem j_X1_cutPlaces_79 {l : Launch} {Z : ZT} {g : va_W} {p1 : Int32} {p2 : Int32} {h : Hp} {r41 : Int32 × Int32 × Hp → Option (Hp)} {x3 : Int32} {x4 : Int32} {p : Program} {e : Env} {s : State} {m : MethodId} {args : Array Value} {below : List Frame} {meth : Method} {c : Code} (C : CX p s m args meth c cX1_cutPlaces RX1 5 none Z g) {out : Hp} (hr41 : ∀ (x3 : Int32) (x4 : Int32) (h : Hp) (ls : Array Slot) (H : Heap) (locs : List Loc), XW Z h g s.heap H locs → lv_has ls 5 [(0, .ref (Z.1 3)), (1, .int p1), (2, .int p2), (3, .int x3), (4, .int x4)] → r41 (x3, x4, h) = some out → W p l e (rmD 2) s m args below meth c H locs 0 0 (MQ below (va_Qv (fun (_ : Unit) => True) (fun _ => Wd Z out g) (FR Z)) args s 0 0 (FR Z)) (F0 m 41 ls [])) {ls : Array Slot} {H : Heap} {locs : List Loc} (hW : XW Z h g s.heap H locs) (hl : lv_has ls 5 [(0, .ref (Z.1 3)), (1, .int p1), (2, .int p2), (3, .int x3), (4, .int x4)]) (hf : J_X1_cutPlaces_79 p1 p2 h r41 x3 x4 = some out) : W p l e (rmD 2) s m args below meth c H locs 0 0 (MQ below (va_Qv (fun (_ : Unit) => True) (fun _ => Wd Z out g) (FR Z)) args s 0 0 (FR Z)) (F0 m 79 ls []) := by
  refine lv_aload_n C.1 C.2.1 dX1_cutPlaces_79 rfl (lv_at hl 0 rfl) ?_
  refine xg_X1_21 C hW (k_3) dX1_cutPlaces_80 ?_
  refine xg_X1_73 C hW (k_18) dX1_cutPlaces_83 ?_
  refine lv_iload_n C.1 C.2.1 dX1_cutPlaces_86 rfl (lv_at hl 3 rfl) ?_
  refine lv_aload_n C.1 C.2.1 dX1_cutPlaces_87 rfl (lv_at hl 0 rfl) ?_
  refine xg_X1_21 C hW (k_3) dX1_cutPlaces_88 ?_
  refine xg_X1_73 C hW (k_18) dX1_cutPlaces_91 ?_
  refine lv_iload C.1 C.2.1 dX1_cutPlaces_94 (lv_at hl 4 rfl) ?_
  refine x_ialdC C hW (o_X0_2 (by decide)) hf dX1_cutPlaces_96 (fun hf => ?_)
  refine x_iastC C hW (o_X0_2 (by decide)) hf dX1_cutPlaces_97 (fun h4 H locs hf hW => ?_)
  refine x_iinc (w := 1) C hf dX1_cutPlaces_98 hl (k := 3) rfl (by decide) (by decide) (fun v5 => [(3, .int v5), (0, .ref (Z.1 3)), (1, .int p1), (2, .int p2), (4, .int x4)]) (fun _ => rfl) (fun v5 ls hf hl => ?_)
  exact j_X1_cutPlaces_101 C hr41 hW (lv_sub hl [1, 2, 3, 0, 4] rfl) hf
set_option maxRecDepth 20000 in
set_option maxHeartbeats 1000000 in
theorem l_X1_cutPlaces_41 {l : Launch} {Z : ZT} {g : va_W} {p1 : Int32} {p2 : Int32} {p : Program} {e : Env} {s : State} {m : MethodId} {args : Array Value} {below : List Frame} {meth : Method} {c : Code} (C : CX p s m args meth c cX1_cutPlaces RX1 5 none Z g) {out : Hp} : ∀ (n : Nat) (x3 : Int32) (x4 : Int32) (h : Hp) (ls : Array Slot) (H : Heap) (locs : List Loc), XW Z h g s.heap H locs → lv_has ls 5 [(0, .ref (Z.1 3)), (1, .int p1), (2, .int p2), (3, .int x3), (4, .int x4)] → Lp (F_X1_cutPlaces_41 p1 p2) n (x3, x4, h) = some out → W p l e (rmD 2) s m args below meth c H locs 0 0 (MQ below (va_Qv (fun (_ : Unit) => True) (fun _ => Wd Z out g) (FR Z)) args s 0 0 (FR Z)) (F0 m 41 ls []) := by
  intro n
  induction n with
  | zero => intro x3 x4 h ls H locs hW hl hf; cases hf
  | succ n ih =>
    intro x3 x4 h ls H locs hW hl hf
    rw [Lp_s] at hf
    refine lv_iload C.1 C.2.1 dX1_cutPlaces_41 (lv_at hl 4 rfl) ?_
    refine lv_aload_n C.1 C.2.1 dX1_cutPlaces_43 rfl (lv_at hl 0 rfl) ?_
    refine xg_X1_21 C hW (k_3) dX1_cutPlaces_44 ?_
    refine xg_X1_70 C hW (k_18) dX1_cutPlaces_47 ?_
    refine x_cmpge (tgt := 107) C hf dX1_cutPlaces_50 (by decide) (fun hf => ?_) (fun hf => ?_)
    · exact j_X1_cutPlaces_107 C hW (lv_sub hl [0, 1, 2, 3] rfl) hf
    · refine lv_aload_n C.1 C.2.1 dX1_cutPlaces_53 rfl (lv_at hl 0 rfl) ?_
      refine xg_X1_35 C hW (k_3) dX1_cutPlaces_54 ?_
      refine lv_iload C.1 C.2.1 dX1_cutPlaces_57 (lv_at hl 4 rfl) ?_
      refine x_ialdC C hW a_7 hf dX1_cutPlaces_59 (fun hf => ?_)
      refine lv_iload_n C.1 C.2.1 dX1_cutPlaces_60 rfl (lv_at hl 1 rfl) ?_
      refine x_cmplt (tgt := 79) C hf dX1_cutPlaces_61 (by decide) (fun hf => ?_) (fun hf => ?_)
      · exact j_X1_cutPlaces_79 C (fun z0 z1 z2 => ih z0 z1 z2) hW (lv_sub hl [0, 1, 2, 3, 4] rfl) hf
      · refine lv_aload_n C.1 C.2.1 dX1_cutPlaces_64 rfl (lv_at hl 0 rfl) ?_
        refine xg_X1_35 C hW (k_3) dX1_cutPlaces_65 ?_
        refine lv_iload C.1 C.2.1 dX1_cutPlaces_68 (lv_at hl 4 rfl) ?_
        refine lv_iconst (v := 1) C.1 C.2.1 dX1_cutPlaces_70 (by decide) ?_
        refine lv_iadd C.1 C.2.1 dX1_cutPlaces_71 ?_
        refine x_ialdC C hW a_7 hf dX1_cutPlaces_72 (fun hf => ?_)
        refine lv_iconst (v := 1) C.1 C.2.1 dX1_cutPlaces_73 (by decide) ?_
        refine lv_isub C.1 C.2.1 dX1_cutPlaces_74 ?_
        refine lv_iload_n C.1 C.2.1 dX1_cutPlaces_75 rfl (lv_at hl 2 rfl) ?_
        refine x_cmple (tgt := 101) C hf dX1_cutPlaces_76 (by decide) (fun hf => ?_) (fun hf => ?_)
        · exact j_X1_cutPlaces_101 C (fun z0 z1 z2 => ih z0 z1 z2) hW (lv_sub hl [0, 1, 2, 3, 4] rfl) hf
        · exact j_X1_cutPlaces_79 C (fun z0 z1 z2 => ih z0 z1 z2) hW (lv_sub hl [0, 1, 2, 3, 4] rfl) hf
set_option maxRecDepth 20000 in
set_option maxHeartbeats 1000000 in
theorem j_X1_cutPlaces_36 {l : Launch} {Z : ZT} {g : va_W} {p1 : Int32} {p2 : Int32} {h : Hp} {p : Program} {e : Env} {s : State} {m : MethodId} {args : Array Value} {below : List Frame} {meth : Method} {c : Code} (C : CX p s m args meth c cX1_cutPlaces RX1 5 none Z g) {out : Hp} {ls : Array Slot} {H : Heap} {locs : List Loc} (hW : XW Z h g s.heap H locs) (hl : lv_has ls 5 [(0, .ref (Z.1 3)), (1, .int p1), (2, .int p2)]) (hf : J_X1_cutPlaces_36 p1 p2 h = some out) : W p l e (rmD 2) s m args below meth c H locs 0 0 (MQ below (va_Qv (fun (_ : Unit) => True) (fun _ => Wd Z out g) (FR Z)) args s 0 0 (FR Z)) (F0 m 36 ls []) := by
  refine lv_iconst (v := 0) C.1 C.2.1 dX1_cutPlaces_36 (by decide) ?_
  refine lv_istore_n (lv' := [(3, .int (0 : Int32)), (0, .ref (Z.1 3)), (1, .int p1), (2, .int p2)]) C.1 C.2.1 dX1_cutPlaces_37 rfl hl (by decide) rfl (fun ls hl => ?_)
  refine lv_iconst (v := 0) C.1 C.2.1 dX1_cutPlaces_38 (by decide) ?_
  refine lv_istore (lv' := [(4, .int (0 : Int32)), (3, .int (0 : Int32)), (0, .ref (Z.1 3)), (1, .int p1), (2, .int p2)]) C.1 C.2.1 dX1_cutPlaces_39 hl (by decide) rfl (fun ls hl => ?_)
  exact l_X1_cutPlaces_41 C FU (0 : Int32) (0 : Int32) h ls _ _ hW (lv_sub hl [2, 3, 4, 1, 0] rfl) hf
set_option maxRecDepth 20000 in
set_option maxHeartbeats 1000000 in
theorem l_X1_cutPlaces_2 {l : Launch} {Z : ZT} {g : va_W} {p1 : Int32} {p2 : Int32} {p : Program} {e : Env} {s : State} {m : MethodId} {args : Array Value} {below : List Frame} {meth : Method} {c : Code} (C : CX p s m args meth c cX1_cutPlaces RX1 5 none Z g) {out : Hp} : ∀ (n : Nat) (x3 : Int32) (h : Hp) (ls : Array Slot) (H : Heap) (locs : List Loc), XW Z h g s.heap H locs → lv_has ls 5 [(0, .ref (Z.1 3)), (1, .int p1), (2, .int p2), (3, .int x3)] → Lp (F_X1_cutPlaces_2 p1 p2) n (x3, h) = some out → W p l e (rmD 2) s m args below meth c H locs 0 0 (MQ below (va_Qv (fun (_ : Unit) => True) (fun _ => Wd Z out g) (FR Z)) args s 0 0 (FR Z)) (F0 m 2 ls []) := by
  intro n
  induction n with
  | zero => intro x3 h ls H locs hW hl hf; cases hf
  | succ n ih =>
    intro x3 h ls H locs hW hl hf
    rw [Lp_s] at hf
    refine lv_iload_n C.1 C.2.1 dX1_cutPlaces_2 rfl (lv_at hl 3 rfl) ?_
    refine lv_iload_n C.1 C.2.1 dX1_cutPlaces_3 rfl (lv_at hl 2 rfl) ?_
    refine x_cmpgt (tgt := 36) C hf dX1_cutPlaces_4 (by decide) (fun hf => ?_) (fun hf => ?_)
    · exact j_X1_cutPlaces_36 C hW (lv_sub hl [0, 1, 2] rfl) hf
    · refine lv_iload_n C.1 C.2.1 dX1_cutPlaces_7 rfl (lv_at hl 3 rfl) ?_
      refine lv_aload_n C.1 C.2.1 dX1_cutPlaces_8 rfl (lv_at hl 0 rfl) ?_
      refine xg_X1_67 C hW (k_3) dX1_cutPlaces_9 ?_
      refine x_cmpge (tgt := 36) C hf dX1_cutPlaces_12 (by decide) (fun hf => ?_) (fun hf => ?_)
      · exact j_X1_cutPlaces_36 C hW (lv_sub hl [0, 1, 2] rfl) hf
      · refine lv_aload_n C.1 C.2.1 dX1_cutPlaces_15 rfl (lv_at hl 0 rfl) ?_
        refine xg_X1_21 C hW (k_3) dX1_cutPlaces_16 ?_
        refine xg_X1_96 C hW (k_18) dX1_cutPlaces_19 ?_
        refine lv_aload_n C.1 C.2.1 dX1_cutPlaces_22 rfl (lv_at hl 0 rfl) ?_
        refine xg_X1_41 C hW (k_3) dX1_cutPlaces_23 ?_
        refine lv_iload_n C.1 C.2.1 dX1_cutPlaces_26 rfl (lv_at hl 3 rfl) ?_
        refine x_ialdC C hW a_9 hf dX1_cutPlaces_27 (fun hf => ?_)
        refine lv_iconst (v := 0) C.1 C.2.1 dX1_cutPlaces_28 (by decide) ?_
        refine x_zastC C hW (o_X0_0 (by decide)) (by decide) hf dX1_cutPlaces_29 (fun h6 H locs hf hW => ?_)
        refine x_iinc (w := 1) C hf dX1_cutPlaces_30 hl (k := 3) rfl (by decide) (by decide) (fun v7 => [(3, .int v7), (0, .ref (Z.1 3)), (1, .int p1), (2, .int p2)]) (fun _ => rfl) (fun v7 ls hf hl => ?_)
        refine lv_goto (tgt := 2) C.1 C.2.1 dX1_cutPlaces_33 (by decide) ?_
        exact ih v7 h6 ls _ _ hW (lv_sub hl [1, 2, 3, 0] rfl) hf
set_option maxRecDepth 20000 in
set_option maxHeartbeats 1000000 in
theorem c_X1_cutPlaces {l : Launch} {Z : ZT} {g : va_W} {h : Hp} {p1 : Int32} {p2 : Int32} {out : Hp} (hf : f_X1_cutPlaces h p1 p2 = some out) : Met l yX1_cutPlaces (wY yX1_cutPlaces cX1_cutPlaces 5 none) (rmD 2) (va_Pc [.ref (Z.1 3), .int p1, .int p2] (Wd Z h g)) (va_Qv (fun (_ : Unit) => True) (fun _ => Wd Z out g) (FR Z)) 0 0 (FR Z) := by
  refine metX RX1 rfl (by decide +kernel) (Nat.le_of_ble_eq_true rfl) ?_
  intro p e s m args below meth c C hW ls hl
  have hl : lv_has ls 5 [(0, .ref (Z.1 3)), (1, .int p1), (2, .int p2)] := hl
  unfold f_X1_cutPlaces at hf
  refine lv_iload_n C.1 C.2.1 dX1_cutPlaces_0 rfl (lv_at hl 1 rfl) ?_
  refine lv_istore_n (lv' := [(3, .int p1), (0, .ref (Z.1 3)), (1, .int p1), (2, .int p2)]) C.1 C.2.1 dX1_cutPlaces_1 rfl hl (by decide) rfl (fun ls hl => ?_)
  exact l_X1_cutPlaces_2 C FU p1 h ls _ _ hW (lv_sub hl [1, 2, 3, 0] rfl) hf
set_option maxRecDepth 20000 in
set_option maxHeartbeats 1000000 in
theorem j_X1_keepAgain_89 {l : Launch} {Z : ZT} {g : va_W} {p1 : Int32} {p2 : Int32} {h : Hp} {x3 : Int32} {p : Program} {e : Env} {s : State} {m : MethodId} {args : Array Value} {below : List Frame} {meth : Method} {c : Code} (C : CX p s m args meth c cX1_keepAgain RX1 6 (some .int) Z g) {out : Int32 × Hp} {ls : Array Slot} {H : Heap} {locs : List Loc} (hW : XW Z h g s.heap H locs) (hl : lv_has ls 6 [(0, .ref (Z.1 3)), (1, .int p1), (2, .int p2), (3, .int x3)]) (hf : J_X1_keepAgain_89 p1 p2 h x3 = some out) : W p l e (rmD 2) s m args below meth c H locs 0 0 (MQ below (va_Qi (fun r (_ : Unit) => r = out.1) (fun _ => Wd Z out.2 g) (FR Z)) args s 0 0 (FR Z)) (F0 m 89 ls []) := by
  rw [J_X1_keepAgain_89] at hf
  refine lv_aload_n C.1 C.2.1 dX1_keepAgain_89 rfl (lv_at hl 0 rfl) ?_
  obtain ⟨u1, hcu1, hf⟩ := bnd_t hf
  refine x_callv hW (x_runV C hW hl (wk1 (k_3)) rfl rfl (c_X1_layOut hcu1) (cw_X1_61) ci_X1_layOut cs_X1_layOut (rm_ok (by decide) (by decide)) ⟨Nat.le_refl _, Nat.le_refl _⟩ (As := []) rfl rfl (Nat.le_of_ble_eq_true rfl) dX1_keepAgain_90) (fun H locs hW => ?_)
  refine lv_iload_n C.1 C.2.1 dX1_keepAgain_93 rfl (lv_at hl 3 rfl) ?_
  obtain rfl := Option.some.inj hf
  exact x_iret C hW dX1_keepAgain_94 rfl
set_option maxRecDepth 20000 in
set_option maxHeartbeats 1000000 in
theorem j_X1_keepAgain_83 {l : Launch} {Z : ZT} {g : va_W} {p1 : Int32} {p2 : Int32} {h : Hp} {r5 : Int32 × Int32 × Hp → Option (Int32 × Hp)} {x3 : Int32} {x4 : Int32} {p : Program} {e : Env} {s : State} {m : MethodId} {args : Array Value} {below : List Frame} {meth : Method} {c : Code} (C : CX p s m args meth c cX1_keepAgain RX1 6 (some .int) Z g) {out : Int32 × Hp} (hr5 : ∀ (x3 : Int32) (x4 : Int32) (h : Hp) (ls : Array Slot) (H : Heap) (locs : List Loc), XW Z h g s.heap H locs → lv_has ls 6 [(0, .ref (Z.1 3)), (1, .int p1), (2, .int p2), (3, .int x3), (4, .int x4)] → r5 (x3, x4, h) = some out → W p l e (rmD 2) s m args below meth c H locs 0 0 (MQ below (va_Qi (fun r (_ : Unit) => r = out.1) (fun _ => Wd Z out.2 g) (FR Z)) args s 0 0 (FR Z)) (F0 m 5 ls [])) {ls : Array Slot} {H : Heap} {locs : List Loc} (hW : XW Z h g s.heap H locs) (hl : lv_has ls 6 [(0, .ref (Z.1 3)), (1, .int p1), (2, .int p2), (3, .int x3), (4, .int x4)]) (hf : J_X1_keepAgain_83 p1 p2 h r5 x3 x4 = some out) : W p l e (rmD 2) s m args below meth c H locs 0 0 (MQ below (va_Qi (fun r (_ : Unit) => r = out.1) (fun _ => Wd Z out.2 g) (FR Z)) args s 0 0 (FR Z)) (F0 m 83 ls []) := by
  rw [J_X1_keepAgain_83] at hf
  refine x_iinc (w := 1) C hf dX1_keepAgain_83 hl (k := 4) rfl (by decide) (by decide) (fun v2 => [(4, .int v2), (0, .ref (Z.1 3)), (1, .int p1), (2, .int p2), (3, .int x3)]) (fun _ => rfl) (fun v2 ls hf hl => ?_)
  refine lv_goto (tgt := 5) C.1 C.2.1 dX1_keepAgain_86 (by decide) ?_
  exact hr5 x3 v2 h ls _ _ hW (lv_sub hl [1, 2, 3, 4, 0] rfl) hf
set_option maxRecDepth 20000 in
set_option maxHeartbeats 1000000 in
theorem l_X1_keepAgain_5 {l : Launch} {Z : ZT} {g : va_W} {p1 : Int32} {p2 : Int32} {p : Program} {e : Env} {s : State} {m : MethodId} {args : Array Value} {below : List Frame} {meth : Method} {c : Code} (C : CX p s m args meth c cX1_keepAgain RX1 6 (some .int) Z g) {out : Int32 × Hp} : ∀ (n : Nat) (x3 : Int32) (x4 : Int32) (h : Hp) (ls : Array Slot) (H : Heap) (locs : List Loc), XW Z h g s.heap H locs → lv_has ls 6 [(0, .ref (Z.1 3)), (1, .int p1), (2, .int p2), (3, .int x3), (4, .int x4)] → Lp (F_X1_keepAgain_5 p1 p2) n (x3, x4, h) = some out → W p l e (rmD 2) s m args below meth c H locs 0 0 (MQ below (va_Qi (fun r (_ : Unit) => r = out.1) (fun _ => Wd Z out.2 g) (FR Z)) args s 0 0 (FR Z)) (F0 m 5 ls []) := by
  intro n
  induction n with
  | zero => intro x3 x4 h ls H locs hW hl hf; cases hf
  | succ n ih =>
    intro x3 x4 h ls H locs hW hl hf
    rw [Lp_s] at hf
    refine lv_iload C.1 C.2.1 dX1_keepAgain_5 (lv_at hl 4 rfl) ?_
    refine lv_iload_n C.1 C.2.1 dX1_keepAgain_7 rfl (lv_at hl 2 rfl) ?_
    refine x_cmpgt (tgt := 89) C hf dX1_keepAgain_8 (by decide) (fun hf => ?_) (fun hf => ?_)
    · exact j_X1_keepAgain_89 C hW (lv_sub hl [0, 1, 2, 3] rfl) hf
    · refine lv_iload C.1 C.2.1 dX1_keepAgain_11 (lv_at hl 4 rfl) ?_
      refine lv_aload_n C.1 C.2.1 dX1_keepAgain_13 rfl (lv_at hl 0 rfl) ?_
      refine xg_X1_12 C hW (k_3) hf dX1_keepAgain_14 (fun q3 hk_q3 hf => ?_)
      refine xg_X1_160 C hW hk_q3 dX1_keepAgain_17 ?_
      refine x_cmpge (tgt := 89) C hf dX1_keepAgain_20 (by decide) (fun hf => ?_) (fun hf => ?_)
      · exact j_X1_keepAgain_89 C hW (lv_sub hl [0, 1, 2, 3] rfl) hf
      · refine lv_aload_n C.1 C.2.1 dX1_keepAgain_23 rfl (lv_at hl 0 rfl) ?_
        refine xg_X1_21 C hW (k_3) dX1_keepAgain_24 ?_
        refine xg_X1_96 C hW (k_18) dX1_keepAgain_27 ?_
        refine lv_iload C.1 C.2.1 dX1_keepAgain_30 (lv_at hl 4 rfl) ?_
        refine x_zaldC C hW (o_X0_0 (by decide)) hf dX1_keepAgain_32 (fun hf => ?_)
        refine x_ifne (tgt := 83) C hf dX1_keepAgain_33 (by decide) (fun hf => ?_) (fun hf => ?_)
        · exact j_X1_keepAgain_83 C (fun z0 z1 z2 => ih z0 z1 z2) hW (lv_sub hl [0, 1, 2, 3, 4] rfl) hf
        · refine lv_aload_n C.1 C.2.1 dX1_keepAgain_36 rfl (lv_at hl 0 rfl) ?_
          refine xg_X1_21 C hW (k_3) dX1_keepAgain_37 ?_
          refine xg_X1_96 C hW (k_18) dX1_keepAgain_40 ?_
          refine lv_iload C.1 C.2.1 dX1_keepAgain_43 (lv_at hl 4 rfl) ?_
          refine lv_iconst (v := 1) C.1 C.2.1 dX1_keepAgain_45 (by decide) ?_
          refine x_zastC C hW (o_X0_0 (by decide)) (by decide) hf dX1_keepAgain_46 (fun h4 H locs hf hW => ?_)
          refine x_iinc (w := 1) C hf dX1_keepAgain_47 hl (k := 3) rfl (by decide) (by decide) (fun v5 => [(3, .int v5), (0, .ref (Z.1 3)), (1, .int p1), (2, .int p2), (4, .int x4)]) (fun _ => rfl) (fun v5 ls hf hl => ?_)
          refine lv_aload_n C.1 C.2.1 dX1_keepAgain_50 rfl (lv_at hl 1 rfl) ?_
          refine xg_X1_12 C hW (k_3) hf dX1_keepAgain_51 (fun q6 hk_q6 hf => ?_)
          refine xg_X1_126 C hW hk_q6 dX1_keepAgain_54 ?_
          refine lv_iload C.1 C.2.1 dX1_keepAgain_57 (lv_at hl 4 rfl) ?_
          refine x_ialdC C hW (o_X4_9 hk_q6) hf dX1_keepAgain_59 (fun hf => ?_)
          refine x_ist C hf dX1_keepAgain_60 hl (by decide) (fun v7 => [(5, .int v7), (3, .int v5), (0, .ref (Z.1 3)), (1, .int p1), (2, .int p2), (4, .int x4)]) (fun _ => rfl) (fun v7 ls hf hl => ?_)
          refine lv_aload_n C.1 C.2.1 dX1_keepAgain_62 rfl (lv_at hl 2 rfl) ?_
          refine xg_X1_21 C hW (k_3) dX1_keepAgain_63 ?_
          refine lv_iload C.1 C.2.1 dX1_keepAgain_66 (lv_at hl 0 rfl) ?_
          obtain ⟨u8, hcu8, hf⟩ := bnd_t hf
          refine x_calli hW (x_runV C hW hl (wk0 (k_18)) rfl rfl (c_X0_holdsBlock (k_18) hcu8) (cw_X1_163) ci_X0_holdsBlock cs_X0_holdsBlock (rm_ok (by decide) (by decide)) ⟨Nat.le_refl _, Nat.le_refl _⟩ (As := [.int v7]) rfl rfl (Nat.le_of_ble_eq_true rfl) dX1_keepAgain_68) (fun H locs hW => ?_)
          refine x_ifne (tgt := 83) C hf dX1_keepAgain_71 (by decide) (fun hf => ?_) (fun hf => ?_)
          · exact j_X1_keepAgain_83 C (fun z0 z1 z2 => ih z0 z1 z2) hW (lv_sub hl [2, 3, 4, 1, 5] rfl) hf
          · refine lv_aload_n C.1 C.2.1 dX1_keepAgain_74 rfl (lv_at hl 2 rfl) ?_
            refine xg_X1_21 C hW (k_3) dX1_keepAgain_75 ?_
            refine lv_iload C.1 C.2.1 dX1_keepAgain_78 (lv_at hl 0 rfl) ?_
            obtain ⟨u9, hcu9, hf⟩ := bnd_t hf
            refine x_callv hW (x_runV C hW hl (wk0 (k_18)) rfl rfl (c_X0_bringBackBlock (k_18) hcu9) (cw_X1_167) ci_X0_bringBackBlock cs_X0_bringBackBlock (rm_ok (by decide) (by decide)) ⟨Nat.le_refl _, Nat.le_refl _⟩ (As := [.int v7]) rfl rfl (Nat.le_of_ble_eq_true rfl) dX1_keepAgain_80) (fun H locs hW => ?_)
            exact j_X1_keepAgain_83 C (fun z0 z1 z2 => ih z0 z1 z2) hW (lv_sub hl [2, 3, 4, 1, 5] rfl) hf
set_option maxRecDepth 20000 in
set_option maxHeartbeats 1000000 in
theorem c_X1_keepAgain {l : Launch} {Z : ZT} {g : va_W} {h : Hp} {p1 : Int32} {p2 : Int32} {out : Int32 × Hp} (hf : f_X1_keepAgain h p1 p2 = some out) : Met l yX1_keepAgain (wY yX1_keepAgain cX1_keepAgain 6 (some .int)) (rmD 2) (va_Pc [.ref (Z.1 3), .int p1, .int p2] (Wd Z h g)) (va_Qi (fun r (_ : Unit) => r = out.1) (fun _ => Wd Z out.2 g) (FR Z)) 0 0 (FR Z) := by
  refine metX RX1 rfl (by decide +kernel) (Nat.le_of_ble_eq_true rfl) ?_
  intro p e s m args below meth c C hW ls hl
  have hl : lv_has ls 6 [(0, .ref (Z.1 3)), (1, .int p1), (2, .int p2)] := hl
  unfold f_X1_keepAgain at hf
  refine lv_iconst (v := 0) C.1 C.2.1 dX1_keepAgain_0 (by decide) ?_
  refine lv_istore_n (lv' := [(3, .int (0 : Int32)), (0, .ref (Z.1 3)), (1, .int p1), (2, .int p2)]) C.1 C.2.1 dX1_keepAgain_1 rfl hl (by decide) rfl (fun ls hl => ?_)
  refine lv_iload_n C.1 C.2.1 dX1_keepAgain_2 rfl (lv_at hl 2 rfl) ?_
  refine lv_istore (lv' := [(4, .int p1), (3, .int (0 : Int32)), (0, .ref (Z.1 3)), (1, .int p1), (2, .int p2)]) C.1 C.2.1 dX1_keepAgain_3 hl (by decide) rfl (fun ls hl => ?_)
  exact l_X1_keepAgain_5 C FU (0 : Int32) p1 h ls _ _ hW (lv_sub hl [2, 3, 4, 1, 0] rfl) hf
set_option maxRecDepth 20000 in
set_option maxHeartbeats 1000000 in
theorem j_X1_carryShots_170 {l : Launch} {Z : ZT} {g : va_W} {p1 : Int32} {p2 : Int32} {p3 : Int32} {h : Hp} {x5 : Int32} {p : Program} {e : Env} {s : State} {m : MethodId} {args : Array Value} {below : List Frame} {meth : Method} {c : Code} (C : CX p s m args meth c cX1_carryShots RX1 8 (some .int) Z g) {out : Int32 × Hp} {ls : Array Slot} {H : Heap} {locs : List Loc} (hW : XW Z h g s.heap H locs) (hl : lv_has ls 8 [(0, .ref (Z.1 3)), (1, .int p1), (2, .int p2), (3, .int p3), (5, .int x5)]) (hf : J_X1_carryShots_170 p1 p2 p3 h x5 = some out) : W p l e (rmD 2) s m args below meth c H locs 0 0 (MQ below (va_Qi (fun r (_ : Unit) => r = out.1) (fun _ => Wd Z out.2 g) (FR Z)) args s 0 0 (FR Z)) (F0 m 170 ls []) := by
  refine lv_aload_n C.1 C.2.1 dX1_carryShots_170 rfl (lv_at hl 0 rfl) ?_
  refine xg_X1_50 C hW (k_3) dX1_carryShots_171 ?_
  refine lv_iconst (v := 0) C.1 C.2.1 dX1_carryShots_174 (by decide) ?_
  refine lv_aload_n C.1 C.2.1 dX1_carryShots_175 rfl (lv_at hl 0 rfl) ?_
  refine xg_X1_21 C hW (k_3) dX1_carryShots_176 ?_
  refine xg_X1_73 C hW (k_18) dX1_carryShots_179 ?_
  refine lv_iconst (v := 0) C.1 C.2.1 dX1_carryShots_182 (by decide) ?_
  refine lv_aload_n C.1 C.2.1 dX1_carryShots_183 rfl (lv_at hl 0 rfl) ?_
  refine xg_X1_21 C hW (k_3) dX1_carryShots_184 ?_
  refine xg_X1_70 C hW (k_18) dX1_carryShots_187 ?_
  refine x_copy C hW hl a_12 (o_X0_2 (by decide)) ml_X1_173 (by decide) hf dX1_carryShots_190 (fun h1 H locs hf hW => ?_)
  refine lv_aload_n C.1 C.2.1 dX1_carryShots_193 rfl (lv_at hl 0 rfl) ?_
  obtain ⟨u2, hcu2, hf⟩ := bnd_t hf
  refine x_callv hW (x_runV C hW hl (wk1 (k_3)) rfl rfl (c_X1_layOut hcu2) (cw_X1_61) ci_X1_layOut cs_X1_layOut (rm_ok (by decide) (by decide)) ⟨Nat.le_refl _, Nat.le_refl _⟩ (As := []) rfl rfl (Nat.le_of_ble_eq_true rfl) dX1_carryShots_194) (fun H locs hW => ?_)
  refine lv_iload C.1 C.2.1 dX1_carryShots_197 (lv_at hl 4 rfl) ?_
  obtain rfl := Option.some.inj hf
  exact x_iret C hW dX1_carryShots_199 rfl
set_option maxRecDepth 20000 in
set_option maxHeartbeats 1000000 in
theorem j_X1_carryShots_164 {l : Launch} {Z : ZT} {g : va_W} {p1 : Int32} {p2 : Int32} {p3 : Int32} {h : Hp} {r80 : Int32 × Int32 × Hp → Option (Int32 × Hp)} {x4 : Int32} {x5 : Int32} {x6 : Int32} {x7 : Int32} {p : Program} {e : Env} {s : State} {m : MethodId} {args : Array Value} {below : List Frame} {meth : Method} {c : Code} (C : CX p s m args meth c cX1_carryShots RX1 8 (some .int) Z g) {out : Int32 × Hp} (hr80 : ∀ (x6 : Int32) (x7 : Int32) (h : Hp) (ls : Array Slot) (H : Heap) (locs : List Loc), XW Z h g s.heap H locs → lv_has ls 8 [(0, .ref (Z.1 3)), (1, .int p1), (2, .int p2), (3, .int p3), (4, .int x4), (5, .int x5), (6, .int x6), (7, .int x7)] → r80 (x6, x7, h) = some out → W p l e (rmD 2) s m args below meth c H locs 0 0 (MQ below (va_Qi (fun r (_ : Unit) => r = out.1) (fun _ => Wd Z out.2 g) (FR Z)) args s 0 0 (FR Z)) (F0 m 80 ls [])) {ls : Array Slot} {H : Heap} {locs : List Loc} (hW : XW Z h g s.heap H locs) (hl : lv_has ls 8 [(0, .ref (Z.1 3)), (1, .int p1), (2, .int p2), (3, .int p3), (4, .int x4), (5, .int x5), (6, .int x6), (7, .int x7)]) (hf : J_X1_carryShots_164 p1 p2 p3 h r80 x4 x5 x6 x7 = some out) : W p l e (rmD 2) s m args below meth c H locs 0 0 (MQ below (va_Qi (fun r (_ : Unit) => r = out.1) (fun _ => Wd Z out.2 g) (FR Z)) args s 0 0 (FR Z)) (F0 m 164 ls []) := by
  rw [J_X1_carryShots_164] at hf
  refine x_iinc (w := 1) C hf dX1_carryShots_164 hl (k := 7) rfl (by decide) (by decide) (fun v3 => [(7, .int v3), (0, .ref (Z.1 3)), (1, .int p1), (2, .int p2), (3, .int p3), (4, .int x4), (5, .int x5), (6, .int x6)]) (fun _ => rfl) (fun v3 ls hf hl => ?_)
  refine lv_goto (tgt := 80) C.1 C.2.1 dX1_carryShots_167 (by decide) ?_
  exact hr80 x6 v3 h ls _ _ hW (lv_sub hl [1, 2, 3, 4, 5, 6, 7, 0] rfl) hf
set_option maxRecDepth 20000 in
set_option maxHeartbeats 1000000 in
theorem j_X1_carryShots_150 {l : Launch} {Z : ZT} {g : va_W} {p1 : Int32} {p2 : Int32} {p3 : Int32} {h : Hp} {r80 : Int32 × Int32 × Hp → Option (Int32 × Hp)} {x4 : Int32} {x5 : Int32} {x6 : Int32} {x7 : Int32} {s1 : Int32} {p : Program} {e : Env} {s : State} {m : MethodId} {args : Array Value} {below : List Frame} {meth : Method} {c : Code} (C : CX p s m args meth c cX1_carryShots RX1 8 (some .int) Z g) {out : Int32 × Hp} (hr80 : ∀ (x6 : Int32) (x7 : Int32) (h : Hp) (ls : Array Slot) (H : Heap) (locs : List Loc), XW Z h g s.heap H locs → lv_has ls 8 [(0, .ref (Z.1 3)), (1, .int p1), (2, .int p2), (3, .int p3), (4, .int x4), (5, .int x5), (6, .int x6), (7, .int x7)] → r80 (x6, x7, h) = some out → W p l e (rmD 2) s m args below meth c H locs 0 0 (MQ below (va_Qi (fun r (_ : Unit) => r = out.1) (fun _ => Wd Z out.2 g) (FR Z)) args s 0 0 (FR Z)) (F0 m 80 ls [])) {ls : Array Slot} {H : Heap} {locs : List Loc} (hW : XW Z h g s.heap H locs) (hl : lv_has ls 8 [(0, .ref (Z.1 3)), (1, .int p1), (2, .int p2), (3, .int p3), (4, .int x4), (5, .int x5), (6, .int x6), (7, .int x7)]) (hf : J_X1_carryShots_150 p1 p2 p3 h r80 x4 x5 x6 x7 s1 = some out) : W p l e (rmD 2) s m args below meth c H locs 0 0 (MQ below (va_Qi (fun r (_ : Unit) => r = out.1) (fun _ => Wd Z out.2 g) (FR Z)) args s 0 0 (FR Z)) (F0 m 150 ls [.int s1, .ref (Z.1 12)]) := by
  refine lv_aload_n C.1 C.2.1 dX1_carryShots_150 rfl (lv_at hl 0 rfl) ?_
  refine xg_X1_21 C hW (k_3) dX1_carryShots_151 ?_
  refine xg_X1_73 C hW (k_18) dX1_carryShots_154 ?_
  refine lv_iload C.1 C.2.1 dX1_carryShots_157 (lv_at hl 7 rfl) ?_
  refine x_ialdC C hW (o_X0_2 (by decide)) hf dX1_carryShots_159 (fun hf => ?_)
  refine x_iastC C hW a_12 hf dX1_carryShots_160 (fun h4 H locs hf hW => ?_)
  refine x_iinc (w := 1) C hf dX1_carryShots_161 hl (k := 6) rfl (by decide) (by decide) (fun v5 => [(6, .int v5), (0, .ref (Z.1 3)), (1, .int p1), (2, .int p2), (3, .int p3), (4, .int x4), (5, .int x5), (7, .int x7)]) (fun _ => rfl) (fun v5 ls hf hl => ?_)
  exact j_X1_carryShots_164 C hr80 hW (lv_sub hl [1, 2, 3, 4, 5, 6, 0, 7] rfl) hf
set_option maxRecDepth 20000 in
set_option maxHeartbeats 1000000 in
theorem j_X1_carryShots_129 {l : Launch} {Z : ZT} {g : va_W} {p1 : Int32} {p2 : Int32} {p3 : Int32} {h : Hp} {r80 : Int32 × Int32 × Hp → Option (Int32 × Hp)} {x4 : Int32} {x5 : Int32} {x6 : Int32} {x7 : Int32} {p : Program} {e : Env} {s : State} {m : MethodId} {args : Array Value} {below : List Frame} {meth : Method} {c : Code} (C : CX p s m args meth c cX1_carryShots RX1 8 (some .int) Z g) {out : Int32 × Hp} (hr80 : ∀ (x6 : Int32) (x7 : Int32) (h : Hp) (ls : Array Slot) (H : Heap) (locs : List Loc), XW Z h g s.heap H locs → lv_has ls 8 [(0, .ref (Z.1 3)), (1, .int p1), (2, .int p2), (3, .int p3), (4, .int x4), (5, .int x5), (6, .int x6), (7, .int x7)] → r80 (x6, x7, h) = some out → W p l e (rmD 2) s m args below meth c H locs 0 0 (MQ below (va_Qi (fun r (_ : Unit) => r = out.1) (fun _ => Wd Z out.2 g) (FR Z)) args s 0 0 (FR Z)) (F0 m 80 ls [])) {ls : Array Slot} {H : Heap} {locs : List Loc} (hW : XW Z h g s.heap H locs) (hl : lv_has ls 8 [(0, .ref (Z.1 3)), (1, .int p1), (2, .int p2), (3, .int p3), (4, .int x4), (5, .int x5), (6, .int x6), (7, .int x7)]) (hf : J_X1_carryShots_129 p1 p2 p3 h r80 x4 x5 x6 x7 = some out) : W p l e (rmD 2) s m args below meth c H locs 0 0 (MQ below (va_Qi (fun r (_ : Unit) => r = out.1) (fun _ => Wd Z out.2 g) (FR Z)) args s 0 0 (FR Z)) (F0 m 129 ls []) := by
  refine lv_aload_n C.1 C.2.1 dX1_carryShots_129 rfl (lv_at hl 0 rfl) ?_
  refine xg_X1_50 C hW (k_3) dX1_carryShots_130 ?_
  refine lv_iload C.1 C.2.1 dX1_carryShots_133 (lv_at hl 6 rfl) ?_
  refine lv_iload C.1 C.2.1 dX1_carryShots_135 (lv_at hl 5 rfl) ?_
  refine x_cmpge (tgt := 145) C hf dX1_carryShots_137 (by decide) (fun hf => ?_) (fun hf => ?_)
  · refine lv_iload C.1 C.2.1 dX1_carryShots_145 (lv_at hl 6 rfl) ?_
    refine lv_iload C.1 C.2.1 dX1_carryShots_147 (lv_at hl 4 rfl) ?_
    refine lv_iadd C.1 C.2.1 dX1_carryShots_149 ?_
    exact j_X1_carryShots_150 C hr80 hW (lv_sub hl [0, 1, 2, 3, 4, 5, 6, 7] rfl) hf
  · refine lv_iload C.1 C.2.1 dX1_carryShots_140 (lv_at hl 6 rfl) ?_
    refine lv_goto (tgt := 150) C.1 C.2.1 dX1_carryShots_142 (by decide) ?_
    exact j_X1_carryShots_150 C hr80 hW (lv_sub hl [0, 1, 2, 3, 4, 5, 6, 7] rfl) hf
set_option maxRecDepth 20000 in
set_option maxHeartbeats 1000000 in
theorem l_X1_carryShots_80 {l : Launch} {Z : ZT} {g : va_W} {p1 : Int32} {p2 : Int32} {p3 : Int32} {x4 : Int32} {x5 : Int32} {p : Program} {e : Env} {s : State} {m : MethodId} {args : Array Value} {below : List Frame} {meth : Method} {c : Code} (C : CX p s m args meth c cX1_carryShots RX1 8 (some .int) Z g) {out : Int32 × Hp} : ∀ (n : Nat) (x6 : Int32) (x7 : Int32) (h : Hp) (ls : Array Slot) (H : Heap) (locs : List Loc), XW Z h g s.heap H locs → lv_has ls 8 [(0, .ref (Z.1 3)), (1, .int p1), (2, .int p2), (3, .int p3), (4, .int x4), (5, .int x5), (6, .int x6), (7, .int x7)] → Lp (F_X1_carryShots_80 p1 p2 p3 x4 x5) n (x6, x7, h) = some out → W p l e (rmD 2) s m args below meth c H locs 0 0 (MQ below (va_Qi (fun r (_ : Unit) => r = out.1) (fun _ => Wd Z out.2 g) (FR Z)) args s 0 0 (FR Z)) (F0 m 80 ls []) := by
  intro n
  induction n with
  | zero => intro x6 x7 h ls H locs hW hl hf; cases hf
  | succ n ih =>
    intro x6 x7 h ls H locs hW hl hf
    rw [Lp_s] at hf
    refine lv_iload C.1 C.2.1 dX1_carryShots_80 (lv_at hl 7 rfl) ?_
    refine lv_aload_n C.1 C.2.1 dX1_carryShots_82 rfl (lv_at hl 0 rfl) ?_
    refine xg_X1_21 C hW (k_3) dX1_carryShots_83 ?_
    refine xg_X1_70 C hW (k_18) dX1_carryShots_86 ?_
    refine x_cmpge (tgt := 170) C hf dX1_carryShots_89 (by decide) (fun hf => ?_) (fun hf => ?_)
    · exact j_X1_carryShots_170 C hW (lv_sub hl [0, 1, 2, 3, 5] rfl) hf
    · refine lv_iload C.1 C.2.1 dX1_carryShots_92 (lv_at hl 7 rfl) ?_
      refine lv_iload_n C.1 C.2.1 dX1_carryShots_94 rfl (lv_at hl 1 rfl) ?_
      refine x_cmplt (tgt := 129) C hf dX1_carryShots_95 (by decide) (fun hf => ?_) (fun hf => ?_)
      · exact j_X1_carryShots_129 C (fun z0 z1 z2 => ih z0 z1 z2) hW (lv_sub hl [0, 1, 2, 3, 4, 5, 6, 7] rfl) hf
      · refine lv_iload C.1 C.2.1 dX1_carryShots_98 (lv_at hl 7 rfl) ?_
        refine lv_iload_n C.1 C.2.1 dX1_carryShots_100 rfl (lv_at hl 2 rfl) ?_
        refine x_cmpgt (tgt := 129) C hf dX1_carryShots_101 (by decide) (fun hf => ?_) (fun hf => ?_)
        · exact j_X1_carryShots_129 C (fun z0 z1 z2 => ih z0 z1 z2) hW (lv_sub hl [0, 1, 2, 3, 4, 5, 6, 7] rfl) hf
        · refine lv_aload_n C.1 C.2.1 dX1_carryShots_104 rfl (lv_at hl 0 rfl) ?_
          refine xg_X1_50 C hW (k_3) dX1_carryShots_105 ?_
          refine lv_iload C.1 C.2.1 dX1_carryShots_108 (lv_at hl 5 rfl) ?_
          refine lv_iload C.1 C.2.1 dX1_carryShots_110 (lv_at hl 7 rfl) ?_
          refine lv_iadd C.1 C.2.1 dX1_carryShots_112 ?_
          refine lv_iload_n C.1 C.2.1 dX1_carryShots_113 rfl (lv_at hl 1 rfl) ?_
          refine lv_isub C.1 C.2.1 dX1_carryShots_114 ?_
          refine lv_aload_n C.1 C.2.1 dX1_carryShots_115 rfl (lv_at hl 0 rfl) ?_
          refine xg_X1_21 C hW (k_3) dX1_carryShots_116 ?_
          refine xg_X1_73 C hW (k_18) dX1_carryShots_119 ?_
          refine lv_iload C.1 C.2.1 dX1_carryShots_122 (lv_at hl 7 rfl) ?_
          refine x_ialdC C hW (o_X0_2 (by decide)) hf dX1_carryShots_124 (fun hf => ?_)
          refine x_iastC C hW a_12 hf dX1_carryShots_125 (fun h6 H locs hf hW => ?_)
          refine lv_goto (tgt := 164) C.1 C.2.1 dX1_carryShots_126 (by decide) ?_
          exact j_X1_carryShots_164 C (fun z0 z1 z2 => ih z0 z1 z2) hW (lv_sub hl [0, 1, 2, 3, 4, 5, 6, 7] rfl) hf
set_option maxRecDepth 20000 in
set_option maxHeartbeats 1000000 in
theorem j_X1_carryShots_72 {l : Launch} {Z : ZT} {g : va_W} {p1 : Int32} {p2 : Int32} {p3 : Int32} {h : Hp} {x4 : Int32} {s0 : Int32} {p : Program} {e : Env} {s : State} {m : MethodId} {args : Array Value} {below : List Frame} {meth : Method} {c : Code} (C : CX p s m args meth c cX1_carryShots RX1 8 (some .int) Z g) {out : Int32 × Hp} {ls : Array Slot} {H : Heap} {locs : List Loc} (hW : XW Z h g s.heap H locs) (hl : lv_has ls 8 [(0, .ref (Z.1 3)), (1, .int p1), (2, .int p2), (3, .int p3), (4, .int x4)]) (hf : J_X1_carryShots_72 p1 p2 p3 h x4 s0 = some out) : W p l e (rmD 2) s m args below meth c H locs 0 0 (MQ below (va_Qi (fun r (_ : Unit) => r = out.1) (fun _ => Wd Z out.2 g) (FR Z)) args s 0 0 (FR Z)) (F0 m 72 ls [.int s0]) := by
  refine lv_istore (lv' := [(5, .int s0), (0, .ref (Z.1 3)), (1, .int p1), (2, .int p2), (3, .int p3), (4, .int x4)]) C.1 C.2.1 dX1_carryShots_72 hl (by decide) rfl (fun ls hl => ?_)
  refine lv_iconst (v := 0) C.1 C.2.1 dX1_carryShots_74 (by decide) ?_
  refine lv_istore (lv' := [(6, .int (0 : Int32)), (5, .int s0), (0, .ref (Z.1 3)), (1, .int p1), (2, .int p2), (3, .int p3), (4, .int x4)]) C.1 C.2.1 dX1_carryShots_75 hl (by decide) rfl (fun ls hl => ?_)
  refine lv_iconst (v := 0) C.1 C.2.1 dX1_carryShots_77 (by decide) ?_
  refine lv_istore (lv' := [(7, .int (0 : Int32)), (6, .int (0 : Int32)), (5, .int s0), (0, .ref (Z.1 3)), (1, .int p1), (2, .int p2), (3, .int p3), (4, .int x4)]) C.1 C.2.1 dX1_carryShots_78 hl (by decide) rfl (fun ls hl => ?_)
  exact l_X1_carryShots_80 C FU (0 : Int32) (0 : Int32) h ls _ _ hW (lv_sub hl [3, 4, 5, 6, 7, 2, 1, 0] rfl) hf
set_option maxRecDepth 20000 in
set_option maxHeartbeats 1000000 in
theorem c_X1_carryShots {l : Launch} {Z : ZT} {g : va_W} {h : Hp} {p1 : Int32} {p2 : Int32} {p3 : Int32} {out : Int32 × Hp} (hf : f_X1_carryShots h p1 p2 p3 = some out) : Met l yX1_carryShots (wY yX1_carryShots cX1_carryShots 8 (some .int)) (rmD 2) (va_Pc [.ref (Z.1 3), .int p1, .int p2, .int p3] (Wd Z h g)) (va_Qi (fun r (_ : Unit) => r = out.1) (fun _ => Wd Z out.2 g) (FR Z)) 0 0 (FR Z) := by
  refine metX RX1 rfl (by decide +kernel) (Nat.le_of_ble_eq_true rfl) ?_
  intro p e s m args below meth c C hW ls hl
  have hl : lv_has ls 8 [(0, .ref (Z.1 3)), (1, .int p1), (2, .int p2), (3, .int p3)] := hl
  unfold f_X1_carryShots at hf
  refine lv_aload_n C.1 C.2.1 dX1_carryShots_0 rfl (lv_at hl 0 rfl) ?_
  refine xg_X1_21 C hW (k_3) dX1_carryShots_1 ?_
  refine xg_X1_76 C hW (k_18) dX1_carryShots_4 ?_
  refine lv_aload_n C.1 C.2.1 dX1_carryShots_7 rfl (lv_at hl 0 rfl) ?_
  refine xg_X1_21 C hW (k_3) dX1_carryShots_8 ?_
  refine xg_X1_73 C hW (k_18) dX1_carryShots_11 ?_
  refine lv_iload_n C.1 C.2.1 dX1_carryShots_14 rfl (lv_at hl 1 rfl) ?_
  refine x_ialdC C hW (o_X0_2 (by decide)) hf dX1_carryShots_15 (fun hf => ?_)
  refine lv_aload_n C.1 C.2.1 dX1_carryShots_16 rfl (lv_at hl 0 rfl) ?_
  refine xg_X1_12 C hW (k_3) hf dX1_carryShots_17 (fun q7 hk_q7 hf => ?_)
  refine xg_X1_170 C hW hk_q7 dX1_carryShots_20 ?_
  refine x_iastC C hW (o_X0_3 (by decide)) hf dX1_carryShots_23 (fun h8 H locs hf hW => ?_)
  refine lv_aload_n C.1 C.2.1 dX1_carryShots_24 rfl (lv_at hl 0 rfl) ?_
  refine xg_X1_21 C hW (k_3) dX1_carryShots_25 ?_
  refine xg_X1_83 C hW (k_18) dX1_carryShots_28 ?_
  refine lv_aload_n C.1 C.2.1 dX1_carryShots_31 rfl (lv_at hl 0 rfl) ?_
  refine xg_X1_21 C hW (k_3) dX1_carryShots_32 ?_
  refine xg_X1_73 C hW (k_18) dX1_carryShots_35 ?_
  refine lv_iload_n C.1 C.2.1 dX1_carryShots_38 rfl (lv_at hl 2 rfl) ?_
  refine x_ialdC C hW (o_X0_2 (by decide)) hf dX1_carryShots_39 (fun hf => ?_)
  refine lv_aload_n C.1 C.2.1 dX1_carryShots_40 rfl (lv_at hl 0 rfl) ?_
  refine xg_X1_12 C hW (k_3) hf dX1_carryShots_41 (fun q9 hk_q9 hf => ?_)
  refine xg_X1_170 C hW hk_q9 dX1_carryShots_44 ?_
  refine x_iastC C hW (o_X0_4 (by decide)) hf dX1_carryShots_47 (fun h10 H locs hf hW => ?_)
  refine lv_iload_n C.1 C.2.1 dX1_carryShots_48 rfl (lv_at hl 2 rfl) ?_
  refine lv_iload_n C.1 C.2.1 dX1_carryShots_49 rfl (lv_at hl 1 rfl) ?_
  refine lv_isub C.1 C.2.1 dX1_carryShots_50 ?_
  refine lv_iconst (v := 1) C.1 C.2.1 dX1_carryShots_51 (by decide) ?_
  refine lv_iadd C.1 C.2.1 dX1_carryShots_52 ?_
  refine x_ist C hf dX1_carryShots_53 hl (by decide) (fun v11 => [(4, .int v11), (0, .ref (Z.1 3)), (1, .int p1), (2, .int p2), (3, .int p3)]) (fun _ => rfl) (fun v11 ls hf hl => ?_)
  refine lv_iload_n C.1 C.2.1 dX1_carryShots_55 rfl (lv_at hl 4 rfl) ?_
  refine lv_iload_n C.1 C.2.1 dX1_carryShots_56 rfl (lv_at hl 2 rfl) ?_
  refine x_cmpge (tgt := 66) C hf dX1_carryShots_57 (by decide) (fun hf => ?_) (fun hf => ?_)
  · refine lv_iload_n C.1 C.2.1 dX1_carryShots_66 rfl (lv_at hl 4 rfl) ?_
    refine lv_iconst (v := 1) C.1 C.2.1 dX1_carryShots_67 (by decide) ?_
    refine lv_iadd C.1 C.2.1 dX1_carryShots_68 ?_
    refine lv_iload C.1 C.2.1 dX1_carryShots_69 (lv_at hl 0 rfl) ?_
    refine lv_isub C.1 C.2.1 dX1_carryShots_71 ?_
    exact j_X1_carryShots_72 C hW (lv_sub hl [1, 2, 3, 4, 0] rfl) hf
  · refine lv_iload_n C.1 C.2.1 dX1_carryShots_60 rfl (lv_at hl 4 rfl) ?_
    refine lv_iconst (v := 1) C.1 C.2.1 dX1_carryShots_61 (by decide) ?_
    refine lv_iadd C.1 C.2.1 dX1_carryShots_62 ?_
    refine lv_goto (tgt := 72) C.1 C.2.1 dX1_carryShots_63 (by decide) ?_
    exact j_X1_carryShots_72 C hW (lv_sub hl [1, 2, 3, 4, 0] rfl) hf
