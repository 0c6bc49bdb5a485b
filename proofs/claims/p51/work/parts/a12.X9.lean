abbrev cX9_isKeyword : ByteArray := prog_11_method_9_code
def yX9_isKeyword : MethodName := ⟨RX9, "isKeyword", "(Ljava/lang/String;)Z"⟩
theorem dX9_isKeyword_0 : decode cX9_isKeyword 0 = .ok (.aload_n 0, 1) := by decide +kernel
theorem dX9_isKeyword_1 : decode cX9_isKeyword 1 = .ok (.getfield 34, 3) := by decide +kernel
theorem dX9_isKeyword_4 : decode cX9_isKeyword 4 = .ok (.iconst 1, 1) := by decide +kernel
theorem dX9_isKeyword_5 : decode cX9_isKeyword 5 = .ok (.if_icmp .ne 14, 3) := by decide +kernel
theorem dX9_isKeyword_8 : decode cX9_isKeyword 8 = .ok (.aload_n 0, 1) := by decide +kernel
theorem dX9_isKeyword_9 : decode cX9_isKeyword 9 = .ok (.getfield 28, 3) := by decide +kernel
theorem dX9_isKeyword_12 : decode cX9_isKeyword 12 = .ok (.aload_n 1, 1) := by decide +kernel
theorem dX9_isKeyword_13 : decode cX9_isKeyword 13 = .ok (.invokevirtual 51, 3) := by decide +kernel
theorem dX9_isKeyword_16 : decode cX9_isKeyword 16 = .ok (.if_icmp .eq 5, 3) := by decide +kernel
theorem dX9_isKeyword_19 : decode cX9_isKeyword 19 = .ok (.iconst 0, 1) := by decide +kernel
theorem dX9_isKeyword_20 : decode cX9_isKeyword 20 = .ok (.ireturn, 1) := by decide +kernel
theorem dX9_isKeyword_21 : decode cX9_isKeyword 21 = .ok (.iconst 0, 1) := by decide +kernel
theorem dX9_isKeyword_22 : decode cX9_isKeyword 22 = .ok (.istore_n 2, 1) := by decide +kernel
theorem dX9_isKeyword_23 : decode cX9_isKeyword 23 = .ok (.iload_n 2, 1) := by decide +kernel
theorem dX9_isKeyword_24 : decode cX9_isKeyword 24 = .ok (.aload_n 0, 1) := by decide +kernel
theorem dX9_isKeyword_25 : decode cX9_isKeyword 25 = .ok (.getfield 28, 3) := by decide +kernel
theorem dX9_isKeyword_28 : decode cX9_isKeyword 28 = .ok (.if_icmp .ge 43, 3) := by decide +kernel
theorem dX9_isKeyword_31 : decode cX9_isKeyword 31 = .ok (.aload_n 0, 1) := by decide +kernel
theorem dX9_isKeyword_32 : decode cX9_isKeyword 32 = .ok (.getfield 25, 3) := by decide +kernel
theorem dX9_isKeyword_35 : decode cX9_isKeyword 35 = .ok (.iload_n 2, 1) := by decide +kernel
theorem dX9_isKeyword_36 : decode cX9_isKeyword 36 = .ok (.iadd, 1) := by decide +kernel
theorem dX9_isKeyword_37 : decode cX9_isKeyword 37 = .ok (.aload_n 0, 1) := by decide +kernel
theorem dX9_isKeyword_38 : decode cX9_isKeyword 38 = .ok (.getfield 19, 3) := by decide +kernel
theorem dX9_isKeyword_41 : decode cX9_isKeyword 41 = .ok (.if_icmp .ge 30, 3) := by decide +kernel
theorem dX9_isKeyword_44 : decode cX9_isKeyword 44 = .ok (.aload_n 0, 1) := by decide +kernel
theorem dX9_isKeyword_45 : decode cX9_isKeyword 45 = .ok (.getfield 9, 3) := by decide +kernel
theorem dX9_isKeyword_48 : decode cX9_isKeyword 48 = .ok (.aload_n 0, 1) := by decide +kernel
theorem dX9_isKeyword_49 : decode cX9_isKeyword 49 = .ok (.getfield 25, 3) := by decide +kernel
theorem dX9_isKeyword_52 : decode cX9_isKeyword 52 = .ok (.iload_n 2, 1) := by decide +kernel
theorem dX9_isKeyword_53 : decode cX9_isKeyword 53 = .ok (.iadd, 1) := by decide +kernel
theorem dX9_isKeyword_54 : decode cX9_isKeyword 54 = .ok (.baload, 1) := by decide +kernel
theorem dX9_isKeyword_55 : decode cX9_isKeyword 55 = .ok (.aload_n 1, 1) := by decide +kernel
theorem dX9_isKeyword_56 : decode cX9_isKeyword 56 = .ok (.iload_n 2, 1) := by decide +kernel
theorem dX9_isKeyword_57 : decode cX9_isKeyword 57 = .ok (.invokevirtual 56, 3) := by decide +kernel
theorem dX9_isKeyword_60 : decode cX9_isKeyword 60 = .ok (.if_icmp .eq 5, 3) := by decide +kernel
theorem dX9_isKeyword_63 : decode cX9_isKeyword 63 = .ok (.iconst 0, 1) := by decide +kernel
theorem dX9_isKeyword_64 : decode cX9_isKeyword 64 = .ok (.ireturn, 1) := by decide +kernel
theorem dX9_isKeyword_65 : decode cX9_isKeyword 65 = .ok (.iinc 2 1, 3) := by decide +kernel
theorem dX9_isKeyword_68 : decode cX9_isKeyword 68 = .ok (.goto (-45), 3) := by decide +kernel
theorem dX9_isKeyword_71 : decode cX9_isKeyword 71 = .ok (.iconst 1, 1) := by decide +kernel
theorem dX9_isKeyword_72 : decode cX9_isKeyword 72 = .ok (.ireturn, 1) := by decide +kernel
theorem ci_X9_isKeyword : Cond.instanceMethod yX9_isKeyword ∈ TW := TW_of 865 (by decide +kernel) (by decide +kernel)
theorem cs_X9_isKeyword : Cond.selects yX9_isKeyword.cls yX9_isKeyword yX9_isKeyword ∈ TW := TW_of 866 (by decide +kernel) (by decide +kernel)
abbrev cX9_advance : ByteArray := prog_11_method_4_code
def yX9_advance : MethodName := ⟨RX9, "advance", "()V"⟩
theorem dX9_advance_0 : decode cX9_advance 0 = .ok (.aload_n 0, 1) := by decide +kernel
theorem dX9_advance_1 : decode cX9_advance 1 = .ok (.getfield 25, 3) := by decide +kernel
theorem dX9_advance_4 : decode cX9_advance 4 = .ok (.aload_n 0, 1) := by decide +kernel
theorem dX9_advance_5 : decode cX9_advance 5 = .ok (.getfield 28, 3) := by decide +kernel
theorem dX9_advance_8 : decode cX9_advance 8 = .ok (.iadd, 1) := by decide +kernel
theorem dX9_advance_9 : decode cX9_advance 9 = .ok (.istore_n 1, 1) := by decide +kernel
theorem dX9_advance_10 : decode cX9_advance 10 = .ok (.iload_n 1, 1) := by decide +kernel
theorem dX9_advance_11 : decode cX9_advance 11 = .ok (.aload_n 0, 1) := by decide +kernel
theorem dX9_advance_12 : decode cX9_advance 12 = .ok (.getfield 19, 3) := by decide +kernel
theorem dX9_advance_15 : decode cX9_advance 15 = .ok (.if_icmp .ge 42, 3) := by decide +kernel
theorem dX9_advance_18 : decode cX9_advance 18 = .ok (.aload_n 0, 1) := by decide +kernel
theorem dX9_advance_19 : decode cX9_advance 19 = .ok (.getfield 9, 3) := by decide +kernel
theorem dX9_advance_22 : decode cX9_advance 22 = .ok (.iload_n 1, 1) := by decide +kernel
theorem dX9_advance_23 : decode cX9_advance 23 = .ok (.baload, 1) := by decide +kernel
theorem dX9_advance_24 : decode cX9_advance 24 = .ok (.bipush 32, 2) := by decide +kernel
theorem dX9_advance_26 : decode cX9_advance 26 = .ok (.if_icmp .eq 25, 3) := by decide +kernel
theorem dX9_advance_29 : decode cX9_advance 29 = .ok (.aload_n 0, 1) := by decide +kernel
theorem dX9_advance_30 : decode cX9_advance 30 = .ok (.getfield 9, 3) := by decide +kernel
theorem dX9_advance_33 : decode cX9_advance 33 = .ok (.iload_n 1, 1) := by decide +kernel
theorem dX9_advance_34 : decode cX9_advance 34 = .ok (.baload, 1) := by decide +kernel
theorem dX9_advance_35 : decode cX9_advance 35 = .ok (.bipush 9, 2) := by decide +kernel
theorem dX9_advance_37 : decode cX9_advance 37 = .ok (.if_icmp .eq 14, 3) := by decide +kernel
theorem dX9_advance_40 : decode cX9_advance 40 = .ok (.aload_n 0, 1) := by decide +kernel
theorem dX9_advance_41 : decode cX9_advance 41 = .ok (.getfield 9, 3) := by decide +kernel
theorem dX9_advance_44 : decode cX9_advance 44 = .ok (.iload_n 1, 1) := by decide +kernel
theorem dX9_advance_45 : decode cX9_advance 45 = .ok (.baload, 1) := by decide +kernel
theorem dX9_advance_46 : decode cX9_advance 46 = .ok (.bipush 10, 2) := by decide +kernel
theorem dX9_advance_48 : decode cX9_advance 48 = .ok (.if_icmp .ne 9, 3) := by decide +kernel
theorem dX9_advance_51 : decode cX9_advance 51 = .ok (.iinc 1 1, 3) := by decide +kernel
theorem dX9_advance_54 : decode cX9_advance 54 = .ok (.goto (-44), 3) := by decide +kernel
theorem dX9_advance_57 : decode cX9_advance 57 = .ok (.aload_n 0, 1) := by decide +kernel
theorem dX9_advance_58 : decode cX9_advance 58 = .ok (.iload_n 1, 1) := by decide +kernel
theorem dX9_advance_59 : decode cX9_advance 59 = .ok (.putfield 25, 3) := by decide +kernel
theorem dX9_advance_62 : decode cX9_advance 62 = .ok (.aload_n 0, 1) := by decide +kernel
theorem dX9_advance_63 : decode cX9_advance 63 = .ok (.iconst 1, 1) := by decide +kernel
theorem dX9_advance_64 : decode cX9_advance 64 = .ok (.putfield 34, 3) := by decide +kernel
theorem dX9_advance_67 : decode cX9_advance 67 = .ok (.iload_n 1, 1) := by decide +kernel
theorem dX9_advance_68 : decode cX9_advance 68 = .ok (.aload_n 0, 1) := by decide +kernel
theorem dX9_advance_69 : decode cX9_advance 69 = .ok (.getfield 19, 3) := by decide +kernel
theorem dX9_advance_72 : decode cX9_advance 72 = .ok (.if_icmp .ge 31, 3) := by decide +kernel
theorem dX9_advance_75 : decode cX9_advance 75 = .ok (.aload_n 0, 1) := by decide +kernel
theorem dX9_advance_76 : decode cX9_advance 76 = .ok (.getfield 9, 3) := by decide +kernel
theorem dX9_advance_79 : decode cX9_advance 79 = .ok (.iload_n 1, 1) := by decide +kernel
theorem dX9_advance_80 : decode cX9_advance 80 = .ok (.baload, 1) := by decide +kernel
theorem dX9_advance_81 : decode cX9_advance 81 = .ok (.bipush 97, 2) := by decide +kernel
theorem dX9_advance_83 : decode cX9_advance 83 = .ok (.if_icmp .lt 20, 3) := by decide +kernel
theorem dX9_advance_86 : decode cX9_advance 86 = .ok (.aload_n 0, 1) := by decide +kernel
theorem dX9_advance_87 : decode cX9_advance 87 = .ok (.getfield 9, 3) := by decide +kernel
theorem dX9_advance_90 : decode cX9_advance 90 = .ok (.iload_n 1, 1) := by decide +kernel
theorem dX9_advance_91 : decode cX9_advance 91 = .ok (.baload, 1) := by decide +kernel
theorem dX9_advance_92 : decode cX9_advance 92 = .ok (.bipush 122, 2) := by decide +kernel
theorem dX9_advance_94 : decode cX9_advance 94 = .ok (.if_icmp .gt 9, 3) := by decide +kernel
theorem dX9_advance_97 : decode cX9_advance 97 = .ok (.iinc 1 1, 3) := by decide +kernel
theorem dX9_advance_100 : decode cX9_advance 100 = .ok (.goto (-33), 3) := by decide +kernel
theorem dX9_advance_103 : decode cX9_advance 103 = .ok (.iload_n 1, 1) := by decide +kernel
theorem dX9_advance_104 : decode cX9_advance 104 = .ok (.aload_n 0, 1) := by decide +kernel
theorem dX9_advance_105 : decode cX9_advance 105 = .ok (.getfield 25, 3) := by decide +kernel
theorem dX9_advance_108 : decode cX9_advance 108 = .ok (.if_icmp .ne 44, 3) := by decide +kernel
theorem dX9_advance_111 : decode cX9_advance 111 = .ok (.aload_n 0, 1) := by decide +kernel
theorem dX9_advance_112 : decode cX9_advance 112 = .ok (.iconst 2, 1) := by decide +kernel
theorem dX9_advance_113 : decode cX9_advance 113 = .ok (.putfield 34, 3) := by decide +kernel
theorem dX9_advance_116 : decode cX9_advance 116 = .ok (.iload_n 1, 1) := by decide +kernel
theorem dX9_advance_117 : decode cX9_advance 117 = .ok (.aload_n 0, 1) := by decide +kernel
theorem dX9_advance_118 : decode cX9_advance 118 = .ok (.getfield 19, 3) := by decide +kernel
theorem dX9_advance_121 : decode cX9_advance 121 = .ok (.if_icmp .ge 31, 3) := by decide +kernel
theorem dX9_advance_124 : decode cX9_advance 124 = .ok (.aload_n 0, 1) := by decide +kernel
theorem dX9_advance_125 : decode cX9_advance 125 = .ok (.getfield 9, 3) := by decide +kernel
theorem dX9_advance_128 : decode cX9_advance 128 = .ok (.iload_n 1, 1) := by decide +kernel
theorem dX9_advance_129 : decode cX9_advance 129 = .ok (.baload, 1) := by decide +kernel
theorem dX9_advance_130 : decode cX9_advance 130 = .ok (.bipush 48, 2) := by decide +kernel
theorem dX9_advance_132 : decode cX9_advance 132 = .ok (.if_icmp .lt 20, 3) := by decide +kernel
theorem dX9_advance_135 : decode cX9_advance 135 = .ok (.aload_n 0, 1) := by decide +kernel
theorem dX9_advance_136 : decode cX9_advance 136 = .ok (.getfield 9, 3) := by decide +kernel
theorem dX9_advance_139 : decode cX9_advance 139 = .ok (.iload_n 1, 1) := by decide +kernel
theorem dX9_advance_140 : decode cX9_advance 140 = .ok (.baload, 1) := by decide +kernel
theorem dX9_advance_141 : decode cX9_advance 141 = .ok (.bipush 57, 2) := by decide +kernel
theorem dX9_advance_143 : decode cX9_advance 143 = .ok (.if_icmp .gt 9, 3) := by decide +kernel
theorem dX9_advance_146 : decode cX9_advance 146 = .ok (.iinc 1 1, 3) := by decide +kernel
theorem dX9_advance_149 : decode cX9_advance 149 = .ok (.goto (-33), 3) := by decide +kernel
theorem dX9_advance_152 : decode cX9_advance 152 = .ok (.iload_n 1, 1) := by decide +kernel
theorem dX9_advance_153 : decode cX9_advance 153 = .ok (.aload_n 0, 1) := by decide +kernel
theorem dX9_advance_154 : decode cX9_advance 154 = .ok (.getfield 25, 3) := by decide +kernel
theorem dX9_advance_157 : decode cX9_advance 157 = .ok (.if_icmp .ne 31, 3) := by decide +kernel
theorem dX9_advance_160 : decode cX9_advance 160 = .ok (.aload_n 0, 1) := by decide +kernel
theorem dX9_advance_161 : decode cX9_advance 161 = .ok (.iload_n 1, 1) := by decide +kernel
theorem dX9_advance_162 : decode cX9_advance 162 = .ok (.aload_n 0, 1) := by decide +kernel
theorem dX9_advance_163 : decode cX9_advance 163 = .ok (.getfield 19, 3) := by decide +kernel
theorem dX9_advance_166 : decode cX9_advance 166 = .ok (.if_icmp .ge 7, 3) := by decide +kernel
theorem dX9_advance_169 : decode cX9_advance 169 = .ok (.iconst 3, 1) := by decide +kernel
theorem dX9_advance_170 : decode cX9_advance 170 = .ok (.goto 4, 3) := by decide +kernel
theorem dX9_advance_173 : decode cX9_advance 173 = .ok (.iconst 0, 1) := by decide +kernel
theorem dX9_advance_174 : decode cX9_advance 174 = .ok (.putfield 34, 3) := by decide +kernel
theorem dX9_advance_177 : decode cX9_advance 177 = .ok (.iload_n 1, 1) := by decide +kernel
theorem dX9_advance_178 : decode cX9_advance 178 = .ok (.iconst 1, 1) := by decide +kernel
theorem dX9_advance_179 : decode cX9_advance 179 = .ok (.iadd, 1) := by decide +kernel
theorem dX9_advance_180 : decode cX9_advance 180 = .ok (.aload_n 0, 1) := by decide +kernel
theorem dX9_advance_181 : decode cX9_advance 181 = .ok (.getfield 19, 3) := by decide +kernel
theorem dX9_advance_184 : decode cX9_advance 184 = .ok (.invokestatic 37, 3) := by decide +kernel
theorem dX9_advance_187 : decode cX9_advance 187 = .ok (.istore_n 1, 1) := by decide +kernel
theorem dX9_advance_188 : decode cX9_advance 188 = .ok (.aload_n 0, 1) := by decide +kernel
theorem dX9_advance_189 : decode cX9_advance 189 = .ok (.iload_n 1, 1) := by decide +kernel
theorem dX9_advance_190 : decode cX9_advance 190 = .ok (.aload_n 0, 1) := by decide +kernel
theorem dX9_advance_191 : decode cX9_advance 191 = .ok (.getfield 25, 3) := by decide +kernel
theorem dX9_advance_194 : decode cX9_advance 194 = .ok (.isub, 1) := by decide +kernel
theorem dX9_advance_195 : decode cX9_advance 195 = .ok (.putfield 28, 3) := by decide +kernel
theorem dX9_advance_198 : decode cX9_advance 198 = .ok (.return_, 1) := by decide +kernel
theorem ci_X9_advance : Cond.instanceMethod yX9_advance ∈ TW := TW_of 852 (by decide +kernel) (by decide +kernel)
theorem cs_X9_advance : Cond.selects yX9_advance.cls yX9_advance yX9_advance ∈ TW := TW_of 853 (by decide +kernel) (by decide +kernel)
abbrev cX9_fail : ByteArray := prog_11_method_5_code
def yX9_fail : MethodName := ⟨RX9, "fail", "(I)Z"⟩
theorem dX9_fail_0 : decode cX9_fail 0 = .ok (.aload_n 0, 1) := by decide +kernel
theorem dX9_fail_1 : decode cX9_fail 1 = .ok (.iload_n 1, 1) := by decide +kernel
theorem dX9_fail_2 : decode cX9_fail 2 = .ok (.putfield 22, 3) := by decide +kernel
theorem dX9_fail_5 : decode cX9_fail 5 = .ok (.aload_n 0, 1) := by decide +kernel
theorem dX9_fail_6 : decode cX9_fail 6 = .ok (.aload_n 0, 1) := by decide +kernel
theorem dX9_fail_7 : decode cX9_fail 7 = .ok (.getfield 25, 3) := by decide +kernel
theorem dX9_fail_10 : decode cX9_fail 10 = .ok (.putfield 15, 3) := by decide +kernel
theorem dX9_fail_13 : decode cX9_fail 13 = .ok (.iconst 0, 1) := by decide +kernel
theorem dX9_fail_14 : decode cX9_fail 14 = .ok (.ireturn, 1) := by decide +kernel
theorem ci_X9_fail : Cond.instanceMethod yX9_fail ∈ TW := TW_of 894 (by decide +kernel) (by decide +kernel)
theorem cs_X9_fail : Cond.selects yX9_fail.cls yX9_fail yX9_fail ∈ TW := TW_of 895 (by decide +kernel) (by decide +kernel)
abbrev cX9_isSign : ByteArray := prog_11_method_7_code
def yX9_isSign : MethodName := ⟨RX9, "isSign", "(C)Z"⟩
theorem dX9_isSign_0 : decode cX9_isSign 0 = .ok (.aload_n 0, 1) := by decide +kernel
theorem dX9_isSign_1 : decode cX9_isSign 1 = .ok (.getfield 34, 3) := by decide +kernel
theorem dX9_isSign_4 : decode cX9_isSign 4 = .ok (.iconst 3, 1) := by decide +kernel
theorem dX9_isSign_5 : decode cX9_isSign 5 = .ok (.if_icmp .ne 31, 3) := by decide +kernel
theorem dX9_isSign_8 : decode cX9_isSign 8 = .ok (.aload_n 0, 1) := by decide +kernel
theorem dX9_isSign_9 : decode cX9_isSign 9 = .ok (.getfield 25, 3) := by decide +kernel
theorem dX9_isSign_12 : decode cX9_isSign 12 = .ok (.aload_n 0, 1) := by decide +kernel
theorem dX9_isSign_13 : decode cX9_isSign 13 = .ok (.getfield 19, 3) := by decide +kernel
theorem dX9_isSign_16 : decode cX9_isSign 16 = .ok (.if_icmp .ge 20, 3) := by decide +kernel
theorem dX9_isSign_19 : decode cX9_isSign 19 = .ok (.aload_n 0, 1) := by decide +kernel
theorem dX9_isSign_20 : decode cX9_isSign 20 = .ok (.getfield 9, 3) := by decide +kernel
theorem dX9_isSign_23 : decode cX9_isSign 23 = .ok (.aload_n 0, 1) := by decide +kernel
theorem dX9_isSign_24 : decode cX9_isSign 24 = .ok (.getfield 25, 3) := by decide +kernel
theorem dX9_isSign_27 : decode cX9_isSign 27 = .ok (.baload, 1) := by decide +kernel
theorem dX9_isSign_28 : decode cX9_isSign 28 = .ok (.iload_n 1, 1) := by decide +kernel
theorem dX9_isSign_29 : decode cX9_isSign 29 = .ok (.if_icmp .ne 7, 3) := by decide +kernel
theorem dX9_isSign_32 : decode cX9_isSign 32 = .ok (.iconst 1, 1) := by decide +kernel
theorem dX9_isSign_33 : decode cX9_isSign 33 = .ok (.goto 4, 3) := by decide +kernel
theorem dX9_isSign_36 : decode cX9_isSign 36 = .ok (.iconst 0, 1) := by decide +kernel
theorem dX9_isSign_37 : decode cX9_isSign 37 = .ok (.ireturn, 1) := by decide +kernel
theorem ci_X9_isSign : Cond.instanceMethod yX9_isSign ∈ TW := TW_of 948 (by decide +kernel) (by decide +kernel)
theorem cs_X9_isSign : Cond.selects yX9_isSign.cls yX9_isSign yX9_isSign ∈ TW := TW_of 949 (by decide +kernel) (by decide +kernel)
abbrev cX9_nameHere : ByteArray := prog_11_method_10_code
def yX9_nameHere : MethodName := ⟨RX9, "nameHere", "()I"⟩
theorem dX9_nameHere_0 : decode cX9_nameHere 0 = .ok (.aload_n 0, 1) := by decide +kernel
theorem dX9_nameHere_1 : decode cX9_nameHere 1 = .ok (.getfield 34, 3) := by decide +kernel
theorem dX9_nameHere_4 : decode cX9_nameHere 4 = .ok (.iconst 1, 1) := by decide +kernel
theorem dX9_nameHere_5 : decode cX9_nameHere 5 = .ok (.if_icmp .ne 12, 3) := by decide +kernel
theorem dX9_nameHere_8 : decode cX9_nameHere 8 = .ok (.aload_n 0, 1) := by decide +kernel
theorem dX9_nameHere_9 : decode cX9_nameHere 9 = .ok (.getfield 28, 3) := by decide +kernel
theorem dX9_nameHere_12 : decode cX9_nameHere 12 = .ok (.bipush 6, 2) := by decide +kernel
theorem dX9_nameHere_14 : decode cX9_nameHere 14 = .ok (.if_icmp .le 11, 3) := by decide +kernel
theorem dX9_nameHere_17 : decode cX9_nameHere 17 = .ok (.aload_n 0, 1) := by decide +kernel
theorem dX9_nameHere_18 : decode cX9_nameHere 18 = .ok (.iconst 1, 1) := by decide +kernel
theorem dX9_nameHere_19 : decode cX9_nameHere 19 = .ok (.invokevirtual 47, 3) := by decide +kernel
theorem dX9_nameHere_22 : decode cX9_nameHere 22 = .ok (.pop, 1) := by decide +kernel
theorem dX9_nameHere_23 : decode cX9_nameHere 23 = .ok (.iconst (-1), 1) := by decide +kernel
theorem dX9_nameHere_24 : decode cX9_nameHere 24 = .ok (.ireturn, 1) := by decide +kernel
theorem dX9_nameHere_25 : decode cX9_nameHere 25 = .ok (.iconst 0, 1) := by decide +kernel
theorem dX9_nameHere_26 : decode cX9_nameHere 26 = .ok (.istore_n 1, 1) := by decide +kernel
theorem dX9_nameHere_27 : decode cX9_nameHere 27 = .ok (.iconst 0, 1) := by decide +kernel
theorem dX9_nameHere_28 : decode cX9_nameHere 28 = .ok (.istore_n 2, 1) := by decide +kernel
theorem dX9_nameHere_29 : decode cX9_nameHere 29 = .ok (.iload_n 2, 1) := by decide +kernel
theorem dX9_nameHere_30 : decode cX9_nameHere 30 = .ok (.aload_n 0, 1) := by decide +kernel
theorem dX9_nameHere_31 : decode cX9_nameHere 31 = .ok (.getfield 28, 3) := by decide +kernel
theorem dX9_nameHere_34 : decode cX9_nameHere 34 = .ok (.if_icmp .ge 44, 3) := by decide +kernel
theorem dX9_nameHere_37 : decode cX9_nameHere 37 = .ok (.aload_n 0, 1) := by decide +kernel
theorem dX9_nameHere_38 : decode cX9_nameHere 38 = .ok (.getfield 25, 3) := by decide +kernel
theorem dX9_nameHere_41 : decode cX9_nameHere 41 = .ok (.iload_n 2, 1) := by decide +kernel
theorem dX9_nameHere_42 : decode cX9_nameHere 42 = .ok (.iadd, 1) := by decide +kernel
theorem dX9_nameHere_43 : decode cX9_nameHere 43 = .ok (.aload_n 0, 1) := by decide +kernel
theorem dX9_nameHere_44 : decode cX9_nameHere 44 = .ok (.getfield 19, 3) := by decide +kernel
theorem dX9_nameHere_47 : decode cX9_nameHere 47 = .ok (.if_icmp .ge 31, 3) := by decide +kernel
theorem dX9_nameHere_50 : decode cX9_nameHere 50 = .ok (.iload_n 1, 1) := by decide +kernel
theorem dX9_nameHere_51 : decode cX9_nameHere 51 = .ok (.bipush 32, 2) := by decide +kernel
theorem dX9_nameHere_53 : decode cX9_nameHere 53 = .ok (.imul, 1) := by decide +kernel
theorem dX9_nameHere_54 : decode cX9_nameHere 54 = .ok (.aload_n 0, 1) := by decide +kernel
theorem dX9_nameHere_55 : decode cX9_nameHere 55 = .ok (.getfield 9, 3) := by decide +kernel
theorem dX9_nameHere_58 : decode cX9_nameHere 58 = .ok (.aload_n 0, 1) := by decide +kernel
theorem dX9_nameHere_59 : decode cX9_nameHere 59 = .ok (.getfield 25, 3) := by decide +kernel
theorem dX9_nameHere_62 : decode cX9_nameHere 62 = .ok (.iload_n 2, 1) := by decide +kernel
theorem dX9_nameHere_63 : decode cX9_nameHere 63 = .ok (.iadd, 1) := by decide +kernel
theorem dX9_nameHere_64 : decode cX9_nameHere 64 = .ok (.baload, 1) := by decide +kernel
theorem dX9_nameHere_65 : decode cX9_nameHere 65 = .ok (.iadd, 1) := by decide +kernel
theorem dX9_nameHere_66 : decode cX9_nameHere 66 = .ok (.bipush 97, 2) := by decide +kernel
theorem dX9_nameHere_68 : decode cX9_nameHere 68 = .ok (.isub, 1) := by decide +kernel
theorem dX9_nameHere_69 : decode cX9_nameHere 69 = .ok (.iconst 1, 1) := by decide +kernel
theorem dX9_nameHere_70 : decode cX9_nameHere 70 = .ok (.iadd, 1) := by decide +kernel
theorem dX9_nameHere_71 : decode cX9_nameHere 71 = .ok (.istore_n 1, 1) := by decide +kernel
theorem dX9_nameHere_72 : decode cX9_nameHere 72 = .ok (.iinc 2 1, 3) := by decide +kernel
theorem dX9_nameHere_75 : decode cX9_nameHere 75 = .ok (.goto (-46), 3) := by decide +kernel
theorem dX9_nameHere_78 : decode cX9_nameHere 78 = .ok (.iload_n 1, 1) := by decide +kernel
theorem dX9_nameHere_79 : decode cX9_nameHere 79 = .ok (.ireturn, 1) := by decide +kernel
theorem ci_X9_nameHere : Cond.instanceMethod yX9_nameHere ∈ TW := TW_of 903 (by decide +kernel) (by decide +kernel)
theorem cs_X9_nameHere : Cond.selects yX9_nameHere.cls yX9_nameHere yX9_nameHere ∈ TW := TW_of 904 (by decide +kernel) (by decide +kernel)
abbrev cX9_takeSign : ByteArray := prog_11_method_8_code
def yX9_takeSign : MethodName := ⟨RX9, "takeSign", "(C)Z"⟩
theorem dX9_takeSign_0 : decode cX9_takeSign 0 = .ok (.aload_n 0, 1) := by decide +kernel
theorem dX9_takeSign_1 : decode cX9_takeSign 1 = .ok (.iload_n 1, 1) := by decide +kernel
theorem dX9_takeSign_2 : decode cX9_takeSign 2 = .ok (.invokevirtual 43, 3) := by decide +kernel
theorem dX9_takeSign_5 : decode cX9_takeSign 5 = .ok (.ifCond .ne 9, 3) := by decide +kernel
theorem dX9_takeSign_8 : decode cX9_takeSign 8 = .ok (.aload_n 0, 1) := by decide +kernel
theorem dX9_takeSign_9 : decode cX9_takeSign 9 = .ok (.iconst 1, 1) := by decide +kernel
theorem dX9_takeSign_10 : decode cX9_takeSign 10 = .ok (.invokevirtual 47, 3) := by decide +kernel
theorem dX9_takeSign_13 : decode cX9_takeSign 13 = .ok (.ireturn, 1) := by decide +kernel
theorem dX9_takeSign_14 : decode cX9_takeSign 14 = .ok (.aload_n 0, 1) := by decide +kernel
theorem dX9_takeSign_15 : decode cX9_takeSign 15 = .ok (.invokevirtual 31, 3) := by decide +kernel
theorem dX9_takeSign_18 : decode cX9_takeSign 18 = .ok (.iconst 1, 1) := by decide +kernel
theorem dX9_takeSign_19 : decode cX9_takeSign 19 = .ok (.ireturn, 1) := by decide +kernel
theorem ci_X9_takeSign : Cond.instanceMethod yX9_takeSign ∈ TW := TW_of 944 (by decide +kernel) (by decide +kernel)
theorem cs_X9_takeSign : Cond.selects yX9_takeSign.cls yX9_takeSign yX9_takeSign ∈ TW := TW_of 945 (by decide +kernel) (by decide +kernel)
abbrev cX9_numberHere : ByteArray := prog_11_method_11_code
def yX9_numberHere : MethodName := ⟨RX9, "numberHere", "(II)I"⟩
theorem dX9_numberHere_0 : decode cX9_numberHere 0 = .ok (.aload_n 0, 1) := by decide +kernel
theorem dX9_numberHere_1 : decode cX9_numberHere 1 = .ok (.getfield 34, 3) := by decide +kernel
theorem dX9_numberHere_4 : decode cX9_numberHere 4 = .ok (.iconst 2, 1) := by decide +kernel
theorem dX9_numberHere_5 : decode cX9_numberHere 5 = .ok (.if_icmp .eq 11, 3) := by decide +kernel
theorem dX9_numberHere_8 : decode cX9_numberHere 8 = .ok (.aload_n 0, 1) := by decide +kernel
theorem dX9_numberHere_9 : decode cX9_numberHere 9 = .ok (.iconst 1, 1) := by decide +kernel
theorem dX9_numberHere_10 : decode cX9_numberHere 10 = .ok (.invokevirtual 47, 3) := by decide +kernel
theorem dX9_numberHere_13 : decode cX9_numberHere 13 = .ok (.pop, 1) := by decide +kernel
theorem dX9_numberHere_14 : decode cX9_numberHere 14 = .ok (.iconst (-1), 1) := by decide +kernel
theorem dX9_numberHere_15 : decode cX9_numberHere 15 = .ok (.ireturn, 1) := by decide +kernel
theorem dX9_numberHere_16 : decode cX9_numberHere 16 = .ok (.aload_n 0, 1) := by decide +kernel
theorem dX9_numberHere_17 : decode cX9_numberHere 17 = .ok (.getfield 28, 3) := by decide +kernel
theorem dX9_numberHere_20 : decode cX9_numberHere 20 = .ok (.iconst 5, 1) := by decide +kernel
theorem dX9_numberHere_21 : decode cX9_numberHere 21 = .ok (.if_icmp .le 11, 3) := by decide +kernel
theorem dX9_numberHere_24 : decode cX9_numberHere 24 = .ok (.aload_n 0, 1) := by decide +kernel
theorem dX9_numberHere_25 : decode cX9_numberHere 25 = .ok (.iconst 2, 1) := by decide +kernel
theorem dX9_numberHere_26 : decode cX9_numberHere 26 = .ok (.invokevirtual 47, 3) := by decide +kernel
theorem dX9_numberHere_29 : decode cX9_numberHere 29 = .ok (.pop, 1) := by decide +kernel
theorem dX9_numberHere_30 : decode cX9_numberHere 30 = .ok (.iconst (-1), 1) := by decide +kernel
theorem dX9_numberHere_31 : decode cX9_numberHere 31 = .ok (.ireturn, 1) := by decide +kernel
theorem dX9_numberHere_32 : decode cX9_numberHere 32 = .ok (.iconst 0, 1) := by decide +kernel
theorem dX9_numberHere_33 : decode cX9_numberHere 33 = .ok (.istore_n 3, 1) := by decide +kernel
theorem dX9_numberHere_34 : decode cX9_numberHere 34 = .ok (.iconst 0, 1) := by decide +kernel
theorem dX9_numberHere_35 : decode cX9_numberHere 35 = .ok (.istore 4, 2) := by decide +kernel
theorem dX9_numberHere_37 : decode cX9_numberHere 37 = .ok (.iload 4, 2) := by decide +kernel
theorem dX9_numberHere_39 : decode cX9_numberHere 39 = .ok (.aload_n 0, 1) := by decide +kernel
theorem dX9_numberHere_40 : decode cX9_numberHere 40 = .ok (.getfield 28, 3) := by decide +kernel
theorem dX9_numberHere_43 : decode cX9_numberHere 43 = .ok (.if_icmp .ge 44, 3) := by decide +kernel
theorem dX9_numberHere_46 : decode cX9_numberHere 46 = .ok (.aload_n 0, 1) := by decide +kernel
theorem dX9_numberHere_47 : decode cX9_numberHere 47 = .ok (.getfield 25, 3) := by decide +kernel
theorem dX9_numberHere_50 : decode cX9_numberHere 50 = .ok (.iload 4, 2) := by decide +kernel
theorem dX9_numberHere_52 : decode cX9_numberHere 52 = .ok (.iadd, 1) := by decide +kernel
theorem dX9_numberHere_53 : decode cX9_numberHere 53 = .ok (.aload_n 0, 1) := by decide +kernel
theorem dX9_numberHere_54 : decode cX9_numberHere 54 = .ok (.getfield 19, 3) := by decide +kernel
theorem dX9_numberHere_57 : decode cX9_numberHere 57 = .ok (.if_icmp .ge 30, 3) := by decide +kernel
theorem dX9_numberHere_60 : decode cX9_numberHere 60 = .ok (.iload_n 3, 1) := by decide +kernel
theorem dX9_numberHere_61 : decode cX9_numberHere 61 = .ok (.bipush 10, 2) := by decide +kernel
theorem dX9_numberHere_63 : decode cX9_numberHere 63 = .ok (.imul, 1) := by decide +kernel
theorem dX9_numberHere_64 : decode cX9_numberHere 64 = .ok (.aload_n 0, 1) := by decide +kernel
theorem dX9_numberHere_65 : decode cX9_numberHere 65 = .ok (.getfield 9, 3) := by decide +kernel
theorem dX9_numberHere_68 : decode cX9_numberHere 68 = .ok (.aload_n 0, 1) := by decide +kernel
theorem dX9_numberHere_69 : decode cX9_numberHere 69 = .ok (.getfield 25, 3) := by decide +kernel
theorem dX9_numberHere_72 : decode cX9_numberHere 72 = .ok (.iload 4, 2) := by decide +kernel
theorem dX9_numberHere_74 : decode cX9_numberHere 74 = .ok (.iadd, 1) := by decide +kernel
theorem dX9_numberHere_75 : decode cX9_numberHere 75 = .ok (.baload, 1) := by decide +kernel
theorem dX9_numberHere_76 : decode cX9_numberHere 76 = .ok (.iadd, 1) := by decide +kernel
theorem dX9_numberHere_77 : decode cX9_numberHere 77 = .ok (.bipush 48, 2) := by decide +kernel
theorem dX9_numberHere_79 : decode cX9_numberHere 79 = .ok (.isub, 1) := by decide +kernel
theorem dX9_numberHere_80 : decode cX9_numberHere 80 = .ok (.istore_n 3, 1) := by decide +kernel
theorem dX9_numberHere_81 : decode cX9_numberHere 81 = .ok (.iinc 4 1, 3) := by decide +kernel
theorem dX9_numberHere_84 : decode cX9_numberHere 84 = .ok (.goto (-47), 3) := by decide +kernel
theorem dX9_numberHere_87 : decode cX9_numberHere 87 = .ok (.iload_n 3, 1) := by decide +kernel
theorem dX9_numberHere_88 : decode cX9_numberHere 88 = .ok (.iload_n 1, 1) := by decide +kernel
theorem dX9_numberHere_89 : decode cX9_numberHere 89 = .ok (.if_icmp .lt 8, 3) := by decide +kernel
theorem dX9_numberHere_92 : decode cX9_numberHere 92 = .ok (.iload_n 3, 1) := by decide +kernel
theorem dX9_numberHere_93 : decode cX9_numberHere 93 = .ok (.iload_n 2, 1) := by decide +kernel
theorem dX9_numberHere_94 : decode cX9_numberHere 94 = .ok (.if_icmp .le 11, 3) := by decide +kernel
theorem dX9_numberHere_97 : decode cX9_numberHere 97 = .ok (.aload_n 0, 1) := by decide +kernel
theorem dX9_numberHere_98 : decode cX9_numberHere 98 = .ok (.iconst 2, 1) := by decide +kernel
theorem dX9_numberHere_99 : decode cX9_numberHere 99 = .ok (.invokevirtual 47, 3) := by decide +kernel
theorem dX9_numberHere_102 : decode cX9_numberHere 102 = .ok (.pop, 1) := by decide +kernel
theorem dX9_numberHere_103 : decode cX9_numberHere 103 = .ok (.iconst (-1), 1) := by decide +kernel
theorem dX9_numberHere_104 : decode cX9_numberHere 104 = .ok (.ireturn, 1) := by decide +kernel
theorem dX9_numberHere_105 : decode cX9_numberHere 105 = .ok (.iload_n 3, 1) := by decide +kernel
theorem dX9_numberHere_106 : decode cX9_numberHere 106 = .ok (.ireturn, 1) := by decide +kernel
theorem ci_X9_numberHere : Cond.instanceMethod yX9_numberHere ∈ TW := TW_of 890 (by decide +kernel) (by decide +kernel)
theorem cs_X9_numberHere : Cond.selects yX9_numberHere.cls yX9_numberHere yX9_numberHere ∈ TW := TW_of 891 (by decide +kernel) (by decide +kernel)
abbrev cX9_isEnd : ByteArray := prog_11_method_6_code
def yX9_isEnd : MethodName := ⟨RX9, "isEnd", "()Z"⟩
theorem dX9_isEnd_0 : decode cX9_isEnd 0 = .ok (.aload_n 0, 1) := by decide +kernel
theorem dX9_isEnd_1 : decode cX9_isEnd 1 = .ok (.getfield 34, 3) := by decide +kernel
theorem dX9_isEnd_4 : decode cX9_isEnd 4 = .ok (.ifCond .ne 7, 3) := by decide +kernel
theorem dX9_isEnd_7 : decode cX9_isEnd 7 = .ok (.iconst 1, 1) := by decide +kernel
theorem dX9_isEnd_8 : decode cX9_isEnd 8 = .ok (.goto 4, 3) := by decide +kernel
theorem dX9_isEnd_11 : decode cX9_isEnd 11 = .ok (.iconst 0, 1) := by decide +kernel
theorem dX9_isEnd_12 : decode cX9_isEnd 12 = .ok (.ireturn, 1) := by decide +kernel
theorem ci_X9_isEnd : Cond.instanceMethod yX9_isEnd ∈ TW := TW_of 857 (by decide +kernel) (by decide +kernel)
theorem cs_X9_isEnd : Cond.selects yX9_isEnd.cls yX9_isEnd yX9_isEnd ∈ TW := TW_of 858 (by decide +kernel) (by decide +kernel)
abbrev cX9_begin : ByteArray := prog_11_method_3_code
def yX9_begin : MethodName := ⟨RX9, "begin", "()V"⟩
theorem dX9_begin_0 : decode cX9_begin 0 = .ok (.aload_n 0, 1) := by decide +kernel
theorem dX9_begin_1 : decode cX9_begin 1 = .ok (.iconst (-1), 1) := by decide +kernel
theorem dX9_begin_2 : decode cX9_begin 2 = .ok (.putfield 15, 3) := by decide +kernel
theorem dX9_begin_5 : decode cX9_begin 5 = .ok (.aload_n 0, 1) := by decide +kernel
theorem dX9_begin_6 : decode cX9_begin 6 = .ok (.iconst 0, 1) := by decide +kernel
theorem dX9_begin_7 : decode cX9_begin 7 = .ok (.putfield 22, 3) := by decide +kernel
theorem dX9_begin_10 : decode cX9_begin 10 = .ok (.aload_n 0, 1) := by decide +kernel
theorem dX9_begin_11 : decode cX9_begin 11 = .ok (.iconst 0, 1) := by decide +kernel
theorem dX9_begin_12 : decode cX9_begin 12 = .ok (.putfield 25, 3) := by decide +kernel
theorem dX9_begin_15 : decode cX9_begin 15 = .ok (.aload_n 0, 1) := by decide +kernel
theorem dX9_begin_16 : decode cX9_begin 16 = .ok (.iconst 0, 1) := by decide +kernel
theorem dX9_begin_17 : decode cX9_begin 17 = .ok (.putfield 28, 3) := by decide +kernel
theorem dX9_begin_20 : decode cX9_begin 20 = .ok (.aload_n 0, 1) := by decide +kernel
theorem dX9_begin_21 : decode cX9_begin 21 = .ok (.invokevirtual 31, 3) := by decide +kernel
theorem dX9_begin_24 : decode cX9_begin 24 = .ok (.return_, 1) := by decide +kernel
theorem ci_X9_begin : Cond.instanceMethod yX9_begin ∈ TW := TW_of 848 (by decide +kernel) (by decide +kernel)
theorem cs_X9_begin : Cond.selects yX9_begin.cls yX9_begin yX9_begin ∈ TW := TW_of 849 (by decide +kernel) (by decide +kernel)
abbrev cX9_putFour : ByteArray := prog_11_method_2_code
def yX9_putFour : MethodName := ⟨RX9, "putFour", "(I)V"⟩
theorem dX9_putFour_0 : decode cX9_putFour 0 = .ok (.bipush 24, 2) := by decide +kernel
theorem dX9_putFour_2 : decode cX9_putFour 2 = .ok (.istore_n 2, 1) := by decide +kernel
theorem dX9_putFour_3 : decode cX9_putFour 3 = .ok (.iload_n 2, 1) := by decide +kernel
theorem dX9_putFour_4 : decode cX9_putFour 4 = .ok (.ifCond .lt 42, 3) := by decide +kernel
theorem dX9_putFour_7 : decode cX9_putFour 7 = .ok (.aload_n 0, 1) := by decide +kernel
theorem dX9_putFour_8 : decode cX9_putFour 8 = .ok (.getfield 19, 3) := by decide +kernel
theorem dX9_putFour_11 : decode cX9_putFour 11 = .ok (.sipush 900, 3) := by decide +kernel
theorem dX9_putFour_14 : decode cX9_putFour 14 = .ok (.if_icmp .ge 32, 3) := by decide +kernel
theorem dX9_putFour_17 : decode cX9_putFour 17 = .ok (.aload_n 0, 1) := by decide +kernel
theorem dX9_putFour_18 : decode cX9_putFour 18 = .ok (.getfield 9, 3) := by decide +kernel
theorem dX9_putFour_21 : decode cX9_putFour 21 = .ok (.aload_n 0, 1) := by decide +kernel
theorem dX9_putFour_22 : decode cX9_putFour 22 = .ok (.getfield 19, 3) := by decide +kernel
theorem dX9_putFour_25 : decode cX9_putFour 25 = .ok (.iload_n 1, 1) := by decide +kernel
theorem dX9_putFour_26 : decode cX9_putFour 26 = .ok (.iload_n 2, 1) := by decide +kernel
theorem dX9_putFour_27 : decode cX9_putFour 27 = .ok (.iushr, 1) := by decide +kernel
theorem dX9_putFour_28 : decode cX9_putFour 28 = .ok (.i2b, 1) := by decide +kernel
theorem dX9_putFour_29 : decode cX9_putFour 29 = .ok (.bastore, 1) := by decide +kernel
theorem dX9_putFour_30 : decode cX9_putFour 30 = .ok (.aload_n 0, 1) := by decide +kernel
theorem dX9_putFour_31 : decode cX9_putFour 31 = .ok (.dup, 1) := by decide +kernel
theorem dX9_putFour_32 : decode cX9_putFour 32 = .ok (.getfield 19, 3) := by decide +kernel
theorem dX9_putFour_35 : decode cX9_putFour 35 = .ok (.iconst 1, 1) := by decide +kernel
theorem dX9_putFour_36 : decode cX9_putFour 36 = .ok (.iadd, 1) := by decide +kernel
theorem dX9_putFour_37 : decode cX9_putFour 37 = .ok (.putfield 19, 3) := by decide +kernel
theorem dX9_putFour_40 : decode cX9_putFour 40 = .ok (.iinc 2 (-8), 3) := by decide +kernel
theorem dX9_putFour_43 : decode cX9_putFour 43 = .ok (.goto (-40), 3) := by decide +kernel
theorem dX9_putFour_46 : decode cX9_putFour 46 = .ok (.return_, 1) := by decide +kernel
theorem ci_X9_putFour : Cond.instanceMethod yX9_putFour ∈ TW := TW_of 1301 (by decide +kernel) (by decide +kernel)
theorem cs_X9_putFour : Cond.selects yX9_putFour.cls yX9_putFour yX9_putFour ∈ TW := TW_of 1302 (by decide +kernel) (by decide +kernel)
theorem ml_X9_37 : Cond.methodLink RX9 37 Lib.Math.min.name ∈ TW := TW_of 855 (by decide +kernel) (by decide +kernel)
theorem cw_X9_47 : CWd RX9 47 yX9_fail cX9_fail 2 (some .boolean) 1 := ⟨TW_of 893 (by decide +kernel) (by decide +kernel), TW_of 896 (by decide +kernel) (by decide +kernel), TW_of 17 (by decide +kernel) (by decide +kernel), by decide +kernel⟩
theorem cw_X9_31 : CWd RX9 31 yX9_advance cX9_advance 2 none 0 := ⟨TW_of 851 (by decide +kernel) (by decide +kernel), TW_of 854 (by decide +kernel) (by decide +kernel), TW_of 17 (by decide +kernel) (by decide +kernel), by decide +kernel⟩
theorem cw_X9_43 : CWd RX9 43 yX9_isSign cX9_isSign 2 (some .boolean) 1 := ⟨TW_of 947 (by decide +kernel) (by decide +kernel), TW_of 950 (by decide +kernel) (by decide +kernel), TW_of 17 (by decide +kernel) (by decide +kernel), by decide +kernel⟩
set_option maxRecDepth 20000 in
set_option maxHeartbeats 1000000 in
theorem l_X9_isKeyword_23 {l : Launch} {Z : ZT} {g : va_W} {h : Hp} {p1 : Nat} (hk_p1 : okS p1 = true) {p : Program} {e : Env} {s : State} {m : MethodId} {args : Array Value} {below : List Frame} {meth : Method} {c : Code} (C : CX p s m args meth c cX9_isKeyword RX9 3 (some .boolean) Z g) {out : Int32} : ∀ (n : Nat) (x2 : Int32) (ls : Array Slot) (H : Heap) (locs : List Loc), XW Z h g s.heap H locs → lv_has ls 3 [(0, .ref (Z.1 1)), (1, .ref (Z.2.2.2.2 (2 * p1))), (2, .int x2)] → Lp (F_X9_isKeyword_23 h p1) n x2 = some out → W p l e (rmD 8) s m args below meth c H locs 0 0 (MQ below (va_Qi (fun r (_ : Unit) => r = out) (fun _ => Wd Z h g) (FR Z)) args s 0 0 (FR Z)) (F0 m 23 ls []) := by
  intro n
  induction n with
  | zero => intro x2 ls H locs hW hl hf; cases hf
  | succ n ih =>
    intro x2 ls H locs hW hl hf
    rw [Lp_s] at hf
    refine lv_iload_n C.1 C.2.1 dX9_isKeyword_23 rfl (lv_at hl 2 rfl) ?_
    refine lv_aload_n C.1 C.2.1 dX9_isKeyword_24 rfl (lv_at hl 0 rfl) ?_
    refine xg_X9_28 C hW (k_1) dX9_isKeyword_25 ?_
    refine x_cmpge (tgt := 71) C hf dX9_isKeyword_28 (by decide) (fun hf => ?_) (fun hf => ?_)
    · refine lv_iconst (v := 1) C.1 C.2.1 dX9_isKeyword_71 (by decide) ?_
      exact x_zret C hW (by decide) dX9_isKeyword_72 (Option.some.inj hf)
    · refine lv_aload_n C.1 C.2.1 dX9_isKeyword_31 rfl (lv_at hl 0 rfl) ?_
      refine xg_X9_25 C hW (k_1) dX9_isKeyword_32 ?_
      refine lv_iload_n C.1 C.2.1 dX9_isKeyword_35 rfl (lv_at hl 2 rfl) ?_
      refine lv_iadd C.1 C.2.1 dX9_isKeyword_36 ?_
      refine lv_aload_n C.1 C.2.1 dX9_isKeyword_37 rfl (lv_at hl 0 rfl) ?_
      refine xg_X9_19 C hW (k_1) dX9_isKeyword_38 ?_
      refine x_cmpge (tgt := 71) C hf dX9_isKeyword_41 (by decide) (fun hf => ?_) (fun hf => ?_)
      · refine lv_iconst (v := 1) C.1 C.2.1 dX9_isKeyword_71 (by decide) ?_
        exact x_zret C hW (by decide) dX9_isKeyword_72 (Option.some.inj hf)
      · refine lv_aload_n C.1 C.2.1 dX9_isKeyword_44 rfl (lv_at hl 0 rfl) ?_
        refine xg_X9_9 C hW (k_1) dX9_isKeyword_45 ?_
        refine lv_aload_n C.1 C.2.1 dX9_isKeyword_48 rfl (lv_at hl 0 rfl) ?_
        refine xg_X9_25 C hW (k_1) dX9_isKeyword_49 ?_
        refine lv_iload_n C.1 C.2.1 dX9_isKeyword_52 rfl (lv_at hl 2 rfl) ?_
        refine lv_iadd C.1 C.2.1 dX9_isKeyword_53 ?_
        refine x_baldC C hW a_2 hf dX9_isKeyword_54 (fun hf => ?_)
        refine lv_aload_n C.1 C.2.1 dX9_isKeyword_55 rfl (lv_at hl 1 rfl) ?_
        refine lv_iload_n C.1 C.2.1 dX9_isKeyword_56 rfl (lv_at hl 2 rfl) ?_
        obtain ⟨hx, hf⟩ := ck_t hf
        refine x_calli hW (x_runT C hW hl hk_p1 rfl (c_charAtX hk_p1 hx) cw_X9_56 tin_charAt tse_charAt (rm_ok (by decide) (by decide)) ⟨Nat.le_refl _, Nat.le_refl _⟩ (As := [.int x2]) rfl rfl (Nat.le_of_ble_eq_true rfl) dX9_isKeyword_57) (fun H locs hW => ?_)
        refine x_cmpeq (tgt := 65) C hf dX9_isKeyword_60 (by decide) (fun hf => ?_) (fun hf => ?_)
        · refine x_iinc (w := 1) C hf dX9_isKeyword_65 hl (k := 2) rfl (by decide) (by decide) (fun v1 => [(2, .int v1), (0, .ref (Z.1 1)), (1, .ref (Z.2.2.2.2 (2 * p1)))]) (fun _ => rfl) (fun v1 ls hf hl => ?_)
          refine lv_goto (tgt := 23) C.1 C.2.1 dX9_isKeyword_68 (by decide) ?_
          exact ih v1 ls _ _ hW (lv_sub hl [1, 2, 0] rfl) hf
        · refine lv_iconst (v := 0) C.1 C.2.1 dX9_isKeyword_63 (by decide) ?_
          exact x_zret C hW (by decide) dX9_isKeyword_64 (Option.some.inj hf)
set_option maxRecDepth 20000 in
set_option maxHeartbeats 1000000 in
theorem c_X9_isKeyword {l : Launch} {Z : ZT} {g : va_W} {h : Hp} {p1 : Nat} (hk_p1 : okS p1 = true) {out : Int32} (hf : f_X9_isKeyword h p1 = some out) : Met l yX9_isKeyword (wY yX9_isKeyword cX9_isKeyword 3 (some .boolean)) (rmD 8) (va_Pc [.ref (Z.1 1), .ref (Z.2.2.2.2 (2 * p1))] (Wd Z h g)) (va_Qi (fun r (_ : Unit) => r = out) (fun _ => Wd Z h g) (FR Z)) 0 0 (FR Z) := by
  refine metX RX9 rfl (by decide +kernel) (Nat.le_of_ble_eq_true rfl) ?_
  intro p e s m args below meth c C hW ls hl
  have hl : lv_has ls 3 [(0, .ref (Z.1 1)), (1, .ref (Z.2.2.2.2 (2 * p1)))] := hl
  unfold f_X9_isKeyword at hf
  refine lv_aload_n C.1 C.2.1 dX9_isKeyword_0 rfl (lv_at hl 0 rfl) ?_
  refine xg_X9_34 C hW (k_1) dX9_isKeyword_1 ?_
  refine lv_iconst (v := 1) C.1 C.2.1 dX9_isKeyword_4 (by decide) ?_
  refine x_cmpne (tgt := 19) C hf dX9_isKeyword_5 (by decide) (fun hf => ?_) (fun hf => ?_)
  · refine lv_iconst (v := 0) C.1 C.2.1 dX9_isKeyword_19 (by decide) ?_
    exact x_zret C hW (by decide) dX9_isKeyword_20 (Option.some.inj hf)
  · refine lv_aload_n C.1 C.2.1 dX9_isKeyword_8 rfl (lv_at hl 0 rfl) ?_
    refine xg_X9_28 C hW (k_1) dX9_isKeyword_9 ?_
    refine lv_aload_n C.1 C.2.1 dX9_isKeyword_12 rfl (lv_at hl 1 rfl) ?_
    refine x_calli hW (x_runT C hW hl hk_p1 rfl (c_length hk_p1) cw_X9_51 tin_length tse_length (rm_ok (by decide) (by decide)) ⟨Nat.le_refl _, Nat.le_refl _⟩ (As := []) rfl rfl (Nat.le_of_ble_eq_true rfl) dX9_isKeyword_13) (fun H locs hW => ?_)
    refine x_cmpeq (tgt := 21) C hf dX9_isKeyword_16 (by decide) (fun hf => ?_) (fun hf => ?_)
    · refine lv_iconst (v := 0) C.1 C.2.1 dX9_isKeyword_21 (by decide) ?_
      refine lv_istore_n (lv' := [(2, .int (0 : Int32)), (0, .ref (Z.1 1)), (1, .ref (Z.2.2.2.2 (2 * p1)))]) C.1 C.2.1 dX9_isKeyword_22 rfl hl (by decide) rfl (fun ls hl => ?_)
      exact l_X9_isKeyword_23 hk_p1 C FU (0 : Int32) ls _ _ hW (lv_sub hl [1, 2, 0] rfl) hf
    · refine lv_iconst (v := 0) C.1 C.2.1 dX9_isKeyword_19 (by decide) ?_
      exact x_zret C hW (by decide) dX9_isKeyword_20 (Option.some.inj hf)
set_option maxRecDepth 20000 in
set_option maxHeartbeats 1000000 in
theorem j_X9_advance_188 {l : Launch} {Z : ZT} {g : va_W} {h : Hp} {x1 : Int32} {p : Program} {e : Env} {s : State} {m : MethodId} {args : Array Value} {below : List Frame} {meth : Method} {c : Code} (C : CX p s m args meth c cX9_advance RX9 2 none Z g) {out : Hp} {ls : Array Slot} {H : Heap} {locs : List Loc} (hW : XW Z h g s.heap H locs) (hl : lv_has ls 2 [(0, .ref (Z.1 1)), (1, .int x1)]) (hf : J_X9_advance_188 h x1 = some out) : W p l e (rmD 0) s m args below meth c H locs 0 0 (MQ below (va_Qv (fun (_ : Unit) => True) (fun _ => Wd Z out g) (FR Z)) args s 0 0 (FR Z)) (F0 m 188 ls []) := by
  rw [J_X9_advance_188] at hf
  refine lv_aload_n C.1 C.2.1 dX9_advance_188 rfl (lv_at hl 0 rfl) ?_
  refine lv_iload_n C.1 C.2.1 dX9_advance_189 rfl (lv_at hl 1 rfl) ?_
  refine lv_aload_n C.1 C.2.1 dX9_advance_190 rfl (lv_at hl 0 rfl) ?_
  refine xg_X9_25 C hW (k_1) dX9_advance_191 ?_
  refine lv_isub C.1 C.2.1 dX9_advance_194 ?_
  refine xp_X9_28 C hW (k_1) hf dX9_advance_195 (fun h1 H locs hf hW => ?_)
  obtain rfl := Option.some.inj hf
  exact x_vret C hW dX9_advance_198 trivial
set_option maxRecDepth 20000 in
set_option maxHeartbeats 1000000 in
theorem j_X9_advance_174 {l : Launch} {Z : ZT} {g : va_W} {h : Hp} {x1 : Int32} {s1 : Int32} {p : Program} {e : Env} {s : State} {m : MethodId} {args : Array Value} {below : List Frame} {meth : Method} {c : Code} (C : CX p s m args meth c cX9_advance RX9 2 none Z g) {out : Hp} {ls : Array Slot} {H : Heap} {locs : List Loc} (hW : XW Z h g s.heap H locs) (hl : lv_has ls 2 [(0, .ref (Z.1 1)), (1, .int x1)]) (hf : J_X9_advance_174 h x1 s1 = some out) : W p l e (rmD 0) s m args below meth c H locs 0 0 (MQ below (va_Qv (fun (_ : Unit) => True) (fun _ => Wd Z out g) (FR Z)) args s 0 0 (FR Z)) (F0 m 174 ls [.int s1, .ref (Z.1 1)]) := by
  rw [J_X9_advance_174] at hf
  refine xp_X9_34 C hW (k_1) hf dX9_advance_174 (fun h2 H locs hf hW => ?_)
  refine lv_iload_n C.1 C.2.1 dX9_advance_177 rfl (lv_at hl 1 rfl) ?_
  refine lv_iconst (v := 1) C.1 C.2.1 dX9_advance_178 (by decide) ?_
  refine lv_iadd C.1 C.2.1 dX9_advance_179 ?_
  refine lv_aload_n C.1 C.2.1 dX9_advance_180 rfl (lv_at hl 0 rfl) ?_
  refine xg_X9_19 C hW (k_1) dX9_advance_181 ?_
  refine x_min C hl (ml_X9_37) (by decide) ⟨Nat.le_refl _, Nat.le_refl _⟩ (Nat.le_of_ble_eq_true rfl) dX9_advance_184 ?_
  refine x_istn C hf dX9_advance_187 rfl hl (by decide) (fun v3 => [(1, .int v3), (0, .ref (Z.1 1))]) (fun _ => rfl) (fun v3 ls hf hl => ?_)
  exact j_X9_advance_188 C hW (lv_sub hl [1, 0] rfl) hf
set_option maxRecDepth 20000 in
set_option maxHeartbeats 1000000 in
theorem j_X9_advance_152 {l : Launch} {Z : ZT} {g : va_W} {h : Hp} {x1 : Int32} {p : Program} {e : Env} {s : State} {m : MethodId} {args : Array Value} {below : List Frame} {meth : Method} {c : Code} (C : CX p s m args meth c cX9_advance RX9 2 none Z g) {out : Hp} {ls : Array Slot} {H : Heap} {locs : List Loc} (hW : XW Z h g s.heap H locs) (hl : lv_has ls 2 [(0, .ref (Z.1 1)), (1, .int x1)]) (hf : J_X9_advance_152 h x1 = some out) : W p l e (rmD 0) s m args below meth c H locs 0 0 (MQ below (va_Qv (fun (_ : Unit) => True) (fun _ => Wd Z out g) (FR Z)) args s 0 0 (FR Z)) (F0 m 152 ls []) := by
  refine lv_iload_n C.1 C.2.1 dX9_advance_152 rfl (lv_at hl 1 rfl) ?_
  refine lv_aload_n C.1 C.2.1 dX9_advance_153 rfl (lv_at hl 0 rfl) ?_
  refine xg_X9_25 C hW (k_1) dX9_advance_154 ?_
  refine x_cmpne (tgt := 188) C hf dX9_advance_157 (by decide) (fun hf => ?_) (fun hf => ?_)
  · exact j_X9_advance_188 C hW (lv_sub hl [0, 1] rfl) hf
  · refine lv_aload_n C.1 C.2.1 dX9_advance_160 rfl (lv_at hl 0 rfl) ?_
    refine lv_iload_n C.1 C.2.1 dX9_advance_161 rfl (lv_at hl 1 rfl) ?_
    refine lv_aload_n C.1 C.2.1 dX9_advance_162 rfl (lv_at hl 0 rfl) ?_
    refine xg_X9_19 C hW (k_1) dX9_advance_163 ?_
    refine x_cmpge (tgt := 173) C hf dX9_advance_166 (by decide) (fun hf => ?_) (fun hf => ?_)
    · refine lv_iconst (v := 0) C.1 C.2.1 dX9_advance_173 (by decide) ?_
      exact j_X9_advance_174 C hW (lv_sub hl [0, 1] rfl) hf
    · refine lv_iconst (v := 3) C.1 C.2.1 dX9_advance_169 (by decide) ?_
      refine lv_goto (tgt := 174) C.1 C.2.1 dX9_advance_170 (by decide) ?_
      exact j_X9_advance_174 C hW (lv_sub hl [0, 1] rfl) hf
set_option maxRecDepth 20000 in
set_option maxHeartbeats 1000000 in
theorem l_X9_advance_116 {l : Launch} {Z : ZT} {g : va_W} {h : Hp} {p : Program} {e : Env} {s : State} {m : MethodId} {args : Array Value} {below : List Frame} {meth : Method} {c : Code} (C : CX p s m args meth c cX9_advance RX9 2 none Z g) {out : Hp} : ∀ (n : Nat) (x1 : Int32) (ls : Array Slot) (H : Heap) (locs : List Loc), XW Z h g s.heap H locs → lv_has ls 2 [(0, .ref (Z.1 1)), (1, .int x1)] → Lp (F_X9_advance_116 h) n x1 = some out → W p l e (rmD 0) s m args below meth c H locs 0 0 (MQ below (va_Qv (fun (_ : Unit) => True) (fun _ => Wd Z out g) (FR Z)) args s 0 0 (FR Z)) (F0 m 116 ls []) := by
  intro n
  induction n with
  | zero => intro x1 ls H locs hW hl hf; cases hf
  | succ n ih =>
    intro x1 ls H locs hW hl hf
    rw [Lp_s] at hf
    refine lv_iload_n C.1 C.2.1 dX9_advance_116 rfl (lv_at hl 1 rfl) ?_
    refine lv_aload_n C.1 C.2.1 dX9_advance_117 rfl (lv_at hl 0 rfl) ?_
    refine xg_X9_19 C hW (k_1) dX9_advance_118 ?_
    refine x_cmpge (tgt := 152) C hf dX9_advance_121 (by decide) (fun hf => ?_) (fun hf => ?_)
    · exact j_X9_advance_152 C hW (lv_sub hl [0, 1] rfl) hf
    · refine lv_aload_n C.1 C.2.1 dX9_advance_124 rfl (lv_at hl 0 rfl) ?_
      refine xg_X9_9 C hW (k_1) dX9_advance_125 ?_
      refine lv_iload_n C.1 C.2.1 dX9_advance_128 rfl (lv_at hl 1 rfl) ?_
      refine x_baldC C hW a_2 hf dX9_advance_129 (fun hf => ?_)
      refine lv_bipush (v := 48) C.1 C.2.1 dX9_advance_130 (by decide) ?_
      refine x_cmplt (tgt := 152) C hf dX9_advance_132 (by decide) (fun hf => ?_) (fun hf => ?_)
      · exact j_X9_advance_152 C hW (lv_sub hl [0, 1] rfl) hf
      · refine lv_aload_n C.1 C.2.1 dX9_advance_135 rfl (lv_at hl 0 rfl) ?_
        refine xg_X9_9 C hW (k_1) dX9_advance_136 ?_
        refine lv_iload_n C.1 C.2.1 dX9_advance_139 rfl (lv_at hl 1 rfl) ?_
        refine x_baldC C hW a_2 hf dX9_advance_140 (fun hf => ?_)
        refine lv_bipush (v := 57) C.1 C.2.1 dX9_advance_141 (by decide) ?_
        refine x_cmpgt (tgt := 152) C hf dX9_advance_143 (by decide) (fun hf => ?_) (fun hf => ?_)
        · exact j_X9_advance_152 C hW (lv_sub hl [0, 1] rfl) hf
        · refine x_iinc (w := 1) C hf dX9_advance_146 hl (k := 1) rfl (by decide) (by decide) (fun v4 => [(1, .int v4), (0, .ref (Z.1 1))]) (fun _ => rfl) (fun v4 ls hf hl => ?_)
          refine lv_goto (tgt := 116) C.1 C.2.1 dX9_advance_149 (by decide) ?_
          exact ih v4 ls _ _ hW (lv_sub hl [1, 0] rfl) hf
set_option maxRecDepth 20000 in
set_option maxHeartbeats 1000000 in
theorem j_X9_advance_103 {l : Launch} {Z : ZT} {g : va_W} {h : Hp} {x1 : Int32} {p : Program} {e : Env} {s : State} {m : MethodId} {args : Array Value} {below : List Frame} {meth : Method} {c : Code} (C : CX p s m args meth c cX9_advance RX9 2 none Z g) {out : Hp} {ls : Array Slot} {H : Heap} {locs : List Loc} (hW : XW Z h g s.heap H locs) (hl : lv_has ls 2 [(0, .ref (Z.1 1)), (1, .int x1)]) (hf : J_X9_advance_103 h x1 = some out) : W p l e (rmD 0) s m args below meth c H locs 0 0 (MQ below (va_Qv (fun (_ : Unit) => True) (fun _ => Wd Z out g) (FR Z)) args s 0 0 (FR Z)) (F0 m 103 ls []) := by
  refine lv_iload_n C.1 C.2.1 dX9_advance_103 rfl (lv_at hl 1 rfl) ?_
  refine lv_aload_n C.1 C.2.1 dX9_advance_104 rfl (lv_at hl 0 rfl) ?_
  refine xg_X9_25 C hW (k_1) dX9_advance_105 ?_
  refine x_cmpne (tgt := 152) C hf dX9_advance_108 (by decide) (fun hf => ?_) (fun hf => ?_)
  · exact j_X9_advance_152 C hW (lv_sub hl [0, 1] rfl) hf
  · refine lv_aload_n C.1 C.2.1 dX9_advance_111 rfl (lv_at hl 0 rfl) ?_
    refine lv_iconst (v := 2) C.1 C.2.1 dX9_advance_112 (by decide) ?_
    refine xp_X9_34 C hW (k_1) hf dX9_advance_113 (fun h5 H locs hf hW => ?_)
    exact l_X9_advance_116 C FU x1 ls _ _ hW (lv_sub hl [0, 1] rfl) hf
set_option maxRecDepth 20000 in
set_option maxHeartbeats 1000000 in
theorem l_X9_advance_67 {l : Launch} {Z : ZT} {g : va_W} {h : Hp} {p : Program} {e : Env} {s : State} {m : MethodId} {args : Array Value} {below : List Frame} {meth : Method} {c : Code} (C : CX p s m args meth c cX9_advance RX9 2 none Z g) {out : Hp} : ∀ (n : Nat) (x1 : Int32) (ls : Array Slot) (H : Heap) (locs : List Loc), XW Z h g s.heap H locs → lv_has ls 2 [(0, .ref (Z.1 1)), (1, .int x1)] → Lp (F_X9_advance_67 h) n x1 = some out → W p l e (rmD 0) s m args below meth c H locs 0 0 (MQ below (va_Qv (fun (_ : Unit) => True) (fun _ => Wd Z out g) (FR Z)) args s 0 0 (FR Z)) (F0 m 67 ls []) := by
  intro n
  induction n with
  | zero => intro x1 ls H locs hW hl hf; cases hf
  | succ n ih =>
    intro x1 ls H locs hW hl hf
    rw [Lp_s] at hf
    refine lv_iload_n C.1 C.2.1 dX9_advance_67 rfl (lv_at hl 1 rfl) ?_
    refine lv_aload_n C.1 C.2.1 dX9_advance_68 rfl (lv_at hl 0 rfl) ?_
    refine xg_X9_19 C hW (k_1) dX9_advance_69 ?_
    refine x_cmpge (tgt := 103) C hf dX9_advance_72 (by decide) (fun hf => ?_) (fun hf => ?_)
    · exact j_X9_advance_103 C hW (lv_sub hl [0, 1] rfl) hf
    · refine lv_aload_n C.1 C.2.1 dX9_advance_75 rfl (lv_at hl 0 rfl) ?_
      refine xg_X9_9 C hW (k_1) dX9_advance_76 ?_
      refine lv_iload_n C.1 C.2.1 dX9_advance_79 rfl (lv_at hl 1 rfl) ?_
      refine x_baldC C hW a_2 hf dX9_advance_80 (fun hf => ?_)
      refine lv_bipush (v := 97) C.1 C.2.1 dX9_advance_81 (by decide) ?_
      refine x_cmplt (tgt := 103) C hf dX9_advance_83 (by decide) (fun hf => ?_) (fun hf => ?_)
      · exact j_X9_advance_103 C hW (lv_sub hl [0, 1] rfl) hf
      · refine lv_aload_n C.1 C.2.1 dX9_advance_86 rfl (lv_at hl 0 rfl) ?_
        refine xg_X9_9 C hW (k_1) dX9_advance_87 ?_
        refine lv_iload_n C.1 C.2.1 dX9_advance_90 rfl (lv_at hl 1 rfl) ?_
        refine x_baldC C hW a_2 hf dX9_advance_91 (fun hf => ?_)
        refine lv_bipush (v := 122) C.1 C.2.1 dX9_advance_92 (by decide) ?_
        refine x_cmpgt (tgt := 103) C hf dX9_advance_94 (by decide) (fun hf => ?_) (fun hf => ?_)
        · exact j_X9_advance_103 C hW (lv_sub hl [0, 1] rfl) hf
        · refine x_iinc (w := 1) C hf dX9_advance_97 hl (k := 1) rfl (by decide) (by decide) (fun v6 => [(1, .int v6), (0, .ref (Z.1 1))]) (fun _ => rfl) (fun v6 ls hf hl => ?_)
          refine lv_goto (tgt := 67) C.1 C.2.1 dX9_advance_100 (by decide) ?_
          exact ih v6 ls _ _ hW (lv_sub hl [1, 0] rfl) hf
set_option maxRecDepth 20000 in
set_option maxHeartbeats 1000000 in
theorem j_X9_advance_57 {l : Launch} {Z : ZT} {g : va_W} {h : Hp} {x1 : Int32} {p : Program} {e : Env} {s : State} {m : MethodId} {args : Array Value} {below : List Frame} {meth : Method} {c : Code} (C : CX p s m args meth c cX9_advance RX9 2 none Z g) {out : Hp} {ls : Array Slot} {H : Heap} {locs : List Loc} (hW : XW Z h g s.heap H locs) (hl : lv_has ls 2 [(0, .ref (Z.1 1)), (1, .int x1)]) (hf : J_X9_advance_57 h x1 = some out) : W p l e (rmD 0) s m args below meth c H locs 0 0 (MQ below (va_Qv (fun (_ : Unit) => True) (fun _ => Wd Z out g) (FR Z)) args s 0 0 (FR Z)) (F0 m 57 ls []) := by
  rw [J_X9_advance_57] at hf
  refine lv_aload_n C.1 C.2.1 dX9_advance_57 rfl (lv_at hl 0 rfl) ?_
  refine lv_iload_n C.1 C.2.1 dX9_advance_58 rfl (lv_at hl 1 rfl) ?_
  refine xp_X9_25 C hW (k_1) hf dX9_advance_59 (fun h7 H locs hf hW => ?_)
  refine lv_aload_n C.1 C.2.1 dX9_advance_62 rfl (lv_at hl 0 rfl) ?_
  refine lv_iconst (v := 1) C.1 C.2.1 dX9_advance_63 (by decide) ?_
  refine xp_X9_34 C hW (k_1) hf dX9_advance_64 (fun h8 H locs hf hW => ?_)
  exact l_X9_advance_67 C FU x1 ls _ _ hW (lv_sub hl [0, 1] rfl) hf
set_option maxRecDepth 20000 in
set_option maxHeartbeats 1000000 in
theorem j_X9_advance_51 {l : Launch} {Z : ZT} {g : va_W} {h : Hp} {r10 : Int32 → Option (Hp)} {x1 : Int32} {p : Program} {e : Env} {s : State} {m : MethodId} {args : Array Value} {below : List Frame} {meth : Method} {c : Code} (C : CX p s m args meth c cX9_advance RX9 2 none Z g) {out : Hp} (hr10 : ∀ (x1 : Int32) (ls : Array Slot) (H : Heap) (locs : List Loc), XW Z h g s.heap H locs → lv_has ls 2 [(0, .ref (Z.1 1)), (1, .int x1)] → r10 x1 = some out → W p l e (rmD 0) s m args below meth c H locs 0 0 (MQ below (va_Qv (fun (_ : Unit) => True) (fun _ => Wd Z out g) (FR Z)) args s 0 0 (FR Z)) (F0 m 10 ls [])) {ls : Array Slot} {H : Heap} {locs : List Loc} (hW : XW Z h g s.heap H locs) (hl : lv_has ls 2 [(0, .ref (Z.1 1)), (1, .int x1)]) (hf : J_X9_advance_51 h r10 x1 = some out) : W p l e (rmD 0) s m args below meth c H locs 0 0 (MQ below (va_Qv (fun (_ : Unit) => True) (fun _ => Wd Z out g) (FR Z)) args s 0 0 (FR Z)) (F0 m 51 ls []) := by
  rw [J_X9_advance_51] at hf
  refine x_iinc (w := 1) C hf dX9_advance_51 hl (k := 1) rfl (by decide) (by decide) (fun v9 => [(1, .int v9), (0, .ref (Z.1 1))]) (fun _ => rfl) (fun v9 ls hf hl => ?_)
  refine lv_goto (tgt := 10) C.1 C.2.1 dX9_advance_54 (by decide) ?_
  exact hr10 v9 ls _ _ hW (lv_sub hl [1, 0] rfl) hf
set_option maxRecDepth 20000 in
set_option maxHeartbeats 1000000 in
theorem l_X9_advance_10 {l : Launch} {Z : ZT} {g : va_W} {h : Hp} {p : Program} {e : Env} {s : State} {m : MethodId} {args : Array Value} {below : List Frame} {meth : Method} {c : Code} (C : CX p s m args meth c cX9_advance RX9 2 none Z g) {out : Hp} : ∀ (n : Nat) (x1 : Int32) (ls : Array Slot) (H : Heap) (locs : List Loc), XW Z h g s.heap H locs → lv_has ls 2 [(0, .ref (Z.1 1)), (1, .int x1)] → Lp (F_X9_advance_10 h) n x1 = some out → W p l e (rmD 0) s m args below meth c H locs 0 0 (MQ below (va_Qv (fun (_ : Unit) => True) (fun _ => Wd Z out g) (FR Z)) args s 0 0 (FR Z)) (F0 m 10 ls []) := by
  intro n
  induction n with
  | zero => intro x1 ls H locs hW hl hf; cases hf
  | succ n ih =>
    intro x1 ls H locs hW hl hf
    rw [Lp_s] at hf
    refine lv_iload_n C.1 C.2.1 dX9_advance_10 rfl (lv_at hl 1 rfl) ?_
    refine lv_aload_n C.1 C.2.1 dX9_advance_11 rfl (lv_at hl 0 rfl) ?_
    refine xg_X9_19 C hW (k_1) dX9_advance_12 ?_
    refine x_cmpge (tgt := 57) C hf dX9_advance_15 (by decide) (fun hf => ?_) (fun hf => ?_)
    · exact j_X9_advance_57 C hW (lv_sub hl [0, 1] rfl) hf
    · refine lv_aload_n C.1 C.2.1 dX9_advance_18 rfl (lv_at hl 0 rfl) ?_
      refine xg_X9_9 C hW (k_1) dX9_advance_19 ?_
      refine lv_iload_n C.1 C.2.1 dX9_advance_22 rfl (lv_at hl 1 rfl) ?_
      refine x_baldC C hW a_2 hf dX9_advance_23 (fun hf => ?_)
      refine lv_bipush (v := 32) C.1 C.2.1 dX9_advance_24 (by decide) ?_
      refine x_cmpeq (tgt := 51) C hf dX9_advance_26 (by decide) (fun hf => ?_) (fun hf => ?_)
      · exact j_X9_advance_51 C (fun z0 => ih z0) hW (lv_sub hl [0, 1] rfl) hf
      · refine lv_aload_n C.1 C.2.1 dX9_advance_29 rfl (lv_at hl 0 rfl) ?_
        refine xg_X9_9 C hW (k_1) dX9_advance_30 ?_
        refine lv_iload_n C.1 C.2.1 dX9_advance_33 rfl (lv_at hl 1 rfl) ?_
        refine x_baldC C hW a_2 hf dX9_advance_34 (fun hf => ?_)
        refine lv_bipush (v := 9) C.1 C.2.1 dX9_advance_35 (by decide) ?_
        refine x_cmpeq (tgt := 51) C hf dX9_advance_37 (by decide) (fun hf => ?_) (fun hf => ?_)
        · exact j_X9_advance_51 C (fun z0 => ih z0) hW (lv_sub hl [0, 1] rfl) hf
        · refine lv_aload_n C.1 C.2.1 dX9_advance_40 rfl (lv_at hl 0 rfl) ?_
          refine xg_X9_9 C hW (k_1) dX9_advance_41 ?_
          refine lv_iload_n C.1 C.2.1 dX9_advance_44 rfl (lv_at hl 1 rfl) ?_
          refine x_baldC C hW a_2 hf dX9_advance_45 (fun hf => ?_)
          refine lv_bipush (v := 10) C.1 C.2.1 dX9_advance_46 (by decide) ?_
          refine x_cmpne (tgt := 57) C hf dX9_advance_48 (by decide) (fun hf => ?_) (fun hf => ?_)
          · exact j_X9_advance_57 C hW (lv_sub hl [0, 1] rfl) hf
          · exact j_X9_advance_51 C (fun z0 => ih z0) hW (lv_sub hl [0, 1] rfl) hf
set_option maxRecDepth 20000 in
set_option maxHeartbeats 1000000 in
theorem c_X9_advance {l : Launch} {Z : ZT} {g : va_W} {h : Hp} {out : Hp} (hf : f_X9_advance h = some out) : Met l yX9_advance (wY yX9_advance cX9_advance 2 none) (rmD 0) (va_Pc [.ref (Z.1 1)] (Wd Z h g)) (va_Qv (fun (_ : Unit) => True) (fun _ => Wd Z out g) (FR Z)) 0 0 (FR Z) := by
  refine metX RX9 rfl (by decide +kernel) (Nat.le_of_ble_eq_true rfl) ?_
  intro p e s m args below meth c C hW ls hl
  have hl : lv_has ls 2 [(0, .ref (Z.1 1))] := hl
  unfold f_X9_advance at hf
  refine lv_aload_n C.1 C.2.1 dX9_advance_0 rfl (lv_at hl 0 rfl) ?_
  refine xg_X9_25 C hW (k_1) dX9_advance_1 ?_
  refine lv_aload_n C.1 C.2.1 dX9_advance_4 rfl (lv_at hl 0 rfl) ?_
  refine xg_X9_28 C hW (k_1) dX9_advance_5 ?_
  refine lv_iadd C.1 C.2.1 dX9_advance_8 ?_
  refine x_istn C hf dX9_advance_9 rfl hl (by decide) (fun v10 => [(1, .int v10), (0, .ref (Z.1 1))]) (fun _ => rfl) (fun v10 ls hf hl => ?_)
  exact l_X9_advance_10 C FU v10 ls _ _ hW (lv_sub hl [1, 0] rfl) hf
set_option maxRecDepth 20000 in
set_option maxHeartbeats 1000000 in
theorem c_X9_fail {l : Launch} {Z : ZT} {g : va_W} {h : Hp} {p1 : Int32} {out : Int32 × Hp} (hf : f_X9_fail h p1 = some out) : Met l yX9_fail (wY yX9_fail cX9_fail 2 (some .boolean)) (rmD 0) (va_Pc [.ref (Z.1 1), .int p1] (Wd Z h g)) (va_Qi (fun r (_ : Unit) => r = out.1) (fun _ => Wd Z out.2 g) (FR Z)) 0 0 (FR Z) := by
  refine metX RX9 rfl (by decide +kernel) (Nat.le_of_ble_eq_true rfl) ?_
  intro p e s m args below meth c C hW ls hl
  have hl : lv_has ls 2 [(0, .ref (Z.1 1)), (1, .int p1)] := hl
  unfold f_X9_fail at hf
  refine lv_aload_n C.1 C.2.1 dX9_fail_0 rfl (lv_at hl 0 rfl) ?_
  refine lv_iload_n C.1 C.2.1 dX9_fail_1 rfl (lv_at hl 1 rfl) ?_
  refine xp_X9_22 C hW (k_1) hf dX9_fail_2 (fun h1 H locs hf hW => ?_)
  refine lv_aload_n C.1 C.2.1 dX9_fail_5 rfl (lv_at hl 0 rfl) ?_
  refine lv_aload_n C.1 C.2.1 dX9_fail_6 rfl (lv_at hl 0 rfl) ?_
  refine xg_X9_25 C hW (k_1) dX9_fail_7 ?_
  refine xp_X9_15 C hW (k_1) hf dX9_fail_10 (fun h2 H locs hf hW => ?_)
  refine lv_iconst (v := 0) C.1 C.2.1 dX9_fail_13 (by decide) ?_
  obtain rfl := Option.some.inj hf
  exact x_zret C hW (by decide) dX9_fail_14 rfl
set_option maxRecDepth 20000 in
set_option maxHeartbeats 1000000 in
theorem c_X9_isSign {l : Launch} {Z : ZT} {g : va_W} {h : Hp} {p1 : Int32} {out : Int32} (hf : f_X9_isSign h p1 = some out) : Met l yX9_isSign (wY yX9_isSign cX9_isSign 2 (some .boolean)) (rmD 0) (va_Pc [.ref (Z.1 1), .int p1] (Wd Z h g)) (va_Qi (fun r (_ : Unit) => r = out) (fun _ => Wd Z h g) (FR Z)) 0 0 (FR Z) := by
  refine metX RX9 rfl (by decide +kernel) (Nat.le_of_ble_eq_true rfl) ?_
  intro p e s m args below meth c C hW ls hl
  have hl : lv_has ls 2 [(0, .ref (Z.1 1)), (1, .int p1)] := hl
  unfold f_X9_isSign at hf
  refine lv_aload_n C.1 C.2.1 dX9_isSign_0 rfl (lv_at hl 0 rfl) ?_
  refine xg_X9_34 C hW (k_1) dX9_isSign_1 ?_
  refine lv_iconst (v := 3) C.1 C.2.1 dX9_isSign_4 (by decide) ?_
  refine x_cmpne (tgt := 36) C hf dX9_isSign_5 (by decide) (fun hf => ?_) (fun hf => ?_)
  · refine lv_iconst (v := 0) C.1 C.2.1 dX9_isSign_36 (by decide) ?_
    exact x_zret C hW (by decide) dX9_isSign_37 (Option.some.inj hf)
  · refine lv_aload_n C.1 C.2.1 dX9_isSign_8 rfl (lv_at hl 0 rfl) ?_
    refine xg_X9_25 C hW (k_1) dX9_isSign_9 ?_
    refine lv_aload_n C.1 C.2.1 dX9_isSign_12 rfl (lv_at hl 0 rfl) ?_
    refine xg_X9_19 C hW (k_1) dX9_isSign_13 ?_
    refine x_cmpge (tgt := 36) C hf dX9_isSign_16 (by decide) (fun hf => ?_) (fun hf => ?_)
    · refine lv_iconst (v := 0) C.1 C.2.1 dX9_isSign_36 (by decide) ?_
      exact x_zret C hW (by decide) dX9_isSign_37 (Option.some.inj hf)
    · refine lv_aload_n C.1 C.2.1 dX9_isSign_19 rfl (lv_at hl 0 rfl) ?_
      refine xg_X9_9 C hW (k_1) dX9_isSign_20 ?_
      refine lv_aload_n C.1 C.2.1 dX9_isSign_23 rfl (lv_at hl 0 rfl) ?_
      refine xg_X9_25 C hW (k_1) dX9_isSign_24 ?_
      refine x_baldC C hW a_2 hf dX9_isSign_27 (fun hf => ?_)
      refine lv_iload_n C.1 C.2.1 dX9_isSign_28 rfl (lv_at hl 1 rfl) ?_
      refine x_cmpne (tgt := 36) C hf dX9_isSign_29 (by decide) (fun hf => ?_) (fun hf => ?_)
      · refine lv_iconst (v := 0) C.1 C.2.1 dX9_isSign_36 (by decide) ?_
        exact x_zret C hW (by decide) dX9_isSign_37 (Option.some.inj hf)
      · refine lv_iconst (v := 1) C.1 C.2.1 dX9_isSign_32 (by decide) ?_
        refine lv_goto (tgt := 37) C.1 C.2.1 dX9_isSign_33 (by decide) ?_
        exact x_zret C hW (by decide) dX9_isSign_37 (Option.some.inj hf)
set_option maxRecDepth 20000 in
set_option maxHeartbeats 1000000 in
theorem j_X9_nameHere_17 {l : Launch} {Z : ZT} {g : va_W} {h : Hp} {p : Program} {e : Env} {s : State} {m : MethodId} {args : Array Value} {below : List Frame} {meth : Method} {c : Code} (C : CX p s m args meth c cX9_nameHere RX9 3 (some .int) Z g) {out : Int32 × Hp} {ls : Array Slot} {H : Heap} {locs : List Loc} (hW : XW Z h g s.heap H locs) (hl : lv_has ls 3 [(0, .ref (Z.1 1))]) (hf : J_X9_nameHere_17 h = some out) : W p l e (rmD 1) s m args below meth c H locs 0 0 (MQ below (va_Qi (fun r (_ : Unit) => r = out.1) (fun _ => Wd Z out.2 g) (FR Z)) args s 0 0 (FR Z)) (F0 m 17 ls []) := by
  rw [J_X9_nameHere_17] at hf
  refine lv_aload_n C.1 C.2.1 dX9_nameHere_17 rfl (lv_at hl 0 rfl) ?_
  refine lv_iconst (v := 1) C.1 C.2.1 dX9_nameHere_18 (by decide) ?_
  obtain ⟨u1, hcu1, hf⟩ := bnd_t hf
  refine x_calli hW (x_runV C hW hl (wk7 (k_1)) rfl rfl (c_X9_fail hcu1) (cw_X9_47) ci_X9_fail cs_X9_fail (rm_ok (by decide) (by decide)) ⟨Nat.le_refl _, Nat.le_refl _⟩ (As := [.int (1 : Int32)]) rfl rfl (Nat.le_of_ble_eq_true rfl) dX9_nameHere_19) (fun H locs hW => ?_)
  refine lv_pop C.1 C.2.1 dX9_nameHere_22 rfl ?_
  refine lv_iconst (v := -1) C.1 C.2.1 dX9_nameHere_23 (by decide) ?_
  obtain rfl := Option.some.inj hf
  exact x_iret C hW dX9_nameHere_24 rfl
set_option maxRecDepth 20000 in
set_option maxHeartbeats 1000000 in
theorem l_X9_nameHere_29 {l : Launch} {Z : ZT} {g : va_W} {h : Hp} {p : Program} {e : Env} {s : State} {m : MethodId} {args : Array Value} {below : List Frame} {meth : Method} {c : Code} (C : CX p s m args meth c cX9_nameHere RX9 3 (some .int) Z g) {out : Int32 × Hp} : ∀ (n : Nat) (x1 : Int32) (x2 : Int32) (ls : Array Slot) (H : Heap) (locs : List Loc), XW Z h g s.heap H locs → lv_has ls 3 [(0, .ref (Z.1 1)), (1, .int x1), (2, .int x2)] → Lp (F_X9_nameHere_29 h) n (x1, x2) = some out → W p l e (rmD 1) s m args below meth c H locs 0 0 (MQ below (va_Qi (fun r (_ : Unit) => r = out.1) (fun _ => Wd Z out.2 g) (FR Z)) args s 0 0 (FR Z)) (F0 m 29 ls []) := by
  intro n
  induction n with
  | zero => intro x1 x2 ls H locs hW hl hf; cases hf
  | succ n ih =>
    intro x1 x2 ls H locs hW hl hf
    rw [Lp_s] at hf
    refine lv_iload_n C.1 C.2.1 dX9_nameHere_29 rfl (lv_at hl 2 rfl) ?_
    refine lv_aload_n C.1 C.2.1 dX9_nameHere_30 rfl (lv_at hl 0 rfl) ?_
    refine xg_X9_28 C hW (k_1) dX9_nameHere_31 ?_
    refine x_cmpge (tgt := 78) C hf dX9_nameHere_34 (by decide) (fun hf => ?_) (fun hf => ?_)
    · refine lv_iload_n C.1 C.2.1 dX9_nameHere_78 rfl (lv_at hl 1 rfl) ?_
      obtain rfl := Option.some.inj hf
      exact x_iret C hW dX9_nameHere_79 rfl
    · refine lv_aload_n C.1 C.2.1 dX9_nameHere_37 rfl (lv_at hl 0 rfl) ?_
      refine xg_X9_25 C hW (k_1) dX9_nameHere_38 ?_
      refine lv_iload_n C.1 C.2.1 dX9_nameHere_41 rfl (lv_at hl 2 rfl) ?_
      refine lv_iadd C.1 C.2.1 dX9_nameHere_42 ?_
      refine lv_aload_n C.1 C.2.1 dX9_nameHere_43 rfl (lv_at hl 0 rfl) ?_
      refine xg_X9_19 C hW (k_1) dX9_nameHere_44 ?_
      refine x_cmpge (tgt := 78) C hf dX9_nameHere_47 (by decide) (fun hf => ?_) (fun hf => ?_)
      · refine lv_iload_n C.1 C.2.1 dX9_nameHere_78 rfl (lv_at hl 1 rfl) ?_
        obtain rfl := Option.some.inj hf
        exact x_iret C hW dX9_nameHere_79 rfl
      · refine lv_iload_n C.1 C.2.1 dX9_nameHere_50 rfl (lv_at hl 1 rfl) ?_
        refine lv_bipush (v := 32) C.1 C.2.1 dX9_nameHere_51 (by decide) ?_
        refine lv_imul C.1 C.2.1 dX9_nameHere_53 ?_
        refine lv_aload_n C.1 C.2.1 dX9_nameHere_54 rfl (lv_at hl 0 rfl) ?_
        refine xg_X9_9 C hW (k_1) dX9_nameHere_55 ?_
        refine lv_aload_n C.1 C.2.1 dX9_nameHere_58 rfl (lv_at hl 0 rfl) ?_
        refine xg_X9_25 C hW (k_1) dX9_nameHere_59 ?_
        refine lv_iload_n C.1 C.2.1 dX9_nameHere_62 rfl (lv_at hl 2 rfl) ?_
        refine lv_iadd C.1 C.2.1 dX9_nameHere_63 ?_
        refine x_baldC C hW a_2 hf dX9_nameHere_64 (fun hf => ?_)
        refine lv_iadd C.1 C.2.1 dX9_nameHere_65 ?_
        refine lv_bipush (v := 97) C.1 C.2.1 dX9_nameHere_66 (by decide) ?_
        refine lv_isub C.1 C.2.1 dX9_nameHere_68 ?_
        refine lv_iconst (v := 1) C.1 C.2.1 dX9_nameHere_69 (by decide) ?_
        refine lv_iadd C.1 C.2.1 dX9_nameHere_70 ?_
        refine x_istn C hf dX9_nameHere_71 rfl hl (by decide) (fun v2 => [(1, .int v2), (0, .ref (Z.1 1)), (2, .int x2)]) (fun _ => rfl) (fun v2 ls hf hl => ?_)
        refine x_iinc (w := 1) C hf dX9_nameHere_72 hl (k := 2) rfl (by decide) (by decide) (fun v3 => [(2, .int v3), (1, .int v2), (0, .ref (Z.1 1))]) (fun _ => rfl) (fun v3 ls hf hl => ?_)
        refine lv_goto (tgt := 29) C.1 C.2.1 dX9_nameHere_75 (by decide) ?_
        exact ih v2 v3 ls _ _ hW (lv_sub hl [2, 1, 0] rfl) hf
set_option maxRecDepth 20000 in
set_option maxHeartbeats 1000000 in
theorem c_X9_nameHere {l : Launch} {Z : ZT} {g : va_W} {h : Hp} {out : Int32 × Hp} (hf : f_X9_nameHere h = some out) : Met l yX9_nameHere (wY yX9_nameHere cX9_nameHere 3 (some .int)) (rmD 1) (va_Pc [.ref (Z.1 1)] (Wd Z h g)) (va_Qi (fun r (_ : Unit) => r = out.1) (fun _ => Wd Z out.2 g) (FR Z)) 0 0 (FR Z) := by
  refine metX RX9 rfl (by decide +kernel) (Nat.le_of_ble_eq_true rfl) ?_
  intro p e s m args below meth c C hW ls hl
  have hl : lv_has ls 3 [(0, .ref (Z.1 1))] := hl
  unfold f_X9_nameHere at hf
  refine lv_aload_n C.1 C.2.1 dX9_nameHere_0 rfl (lv_at hl 0 rfl) ?_
  refine xg_X9_34 C hW (k_1) dX9_nameHere_1 ?_
  refine lv_iconst (v := 1) C.1 C.2.1 dX9_nameHere_4 (by decide) ?_
  refine x_cmpne (tgt := 17) C hf dX9_nameHere_5 (by decide) (fun hf => ?_) (fun hf => ?_)
  · exact j_X9_nameHere_17 C hW (lv_sub hl [0] rfl) hf
  · refine lv_aload_n C.1 C.2.1 dX9_nameHere_8 rfl (lv_at hl 0 rfl) ?_
    refine xg_X9_28 C hW (k_1) dX9_nameHere_9 ?_
    refine lv_bipush (v := 6) C.1 C.2.1 dX9_nameHere_12 (by decide) ?_
    refine x_cmple (tgt := 25) C hf dX9_nameHere_14 (by decide) (fun hf => ?_) (fun hf => ?_)
    · refine lv_iconst (v := 0) C.1 C.2.1 dX9_nameHere_25 (by decide) ?_
      refine lv_istore_n (lv' := [(1, .int (0 : Int32)), (0, .ref (Z.1 1))]) C.1 C.2.1 dX9_nameHere_26 rfl hl (by decide) rfl (fun ls hl => ?_)
      refine lv_iconst (v := 0) C.1 C.2.1 dX9_nameHere_27 (by decide) ?_
      refine lv_istore_n (lv' := [(2, .int (0 : Int32)), (1, .int (0 : Int32)), (0, .ref (Z.1 1))]) C.1 C.2.1 dX9_nameHere_28 rfl hl (by decide) rfl (fun ls hl => ?_)
      exact l_X9_nameHere_29 C FU (0 : Int32) (0 : Int32) ls _ _ hW (lv_sub hl [2, 1, 0] rfl) hf
    · exact j_X9_nameHere_17 C hW (lv_sub hl [0] rfl) hf
set_option maxRecDepth 20000 in
set_option maxHeartbeats 1000000 in
theorem c_X9_takeSign {l : Launch} {Z : ZT} {g : va_W} {h : Hp} {p1 : Int32} {out : Int32 × Hp} (hf : f_X9_takeSign h p1 = some out) : Met l yX9_takeSign (wY yX9_takeSign cX9_takeSign 2 (some .boolean)) (rmD 1) (va_Pc [.ref (Z.1 1), .int p1] (Wd Z h g)) (va_Qi (fun r (_ : Unit) => r = out.1) (fun _ => Wd Z out.2 g) (FR Z)) 0 0 (FR Z) := by
  refine metX RX9 rfl (by decide +kernel) (Nat.le_of_ble_eq_true rfl) ?_
  intro p e s m args below meth c C hW ls hl
  have hl : lv_has ls 2 [(0, .ref (Z.1 1)), (1, .int p1)] := hl
  unfold f_X9_takeSign at hf
  refine lv_aload_n C.1 C.2.1 dX9_takeSign_0 rfl (lv_at hl 0 rfl) ?_
  refine lv_iload_n C.1 C.2.1 dX9_takeSign_1 rfl (lv_at hl 1 rfl) ?_
  obtain ⟨u1, hcu1, hf⟩ := bnd_t hf
  refine x_calli hW (x_runV C hW hl (wk7 (k_1)) rfl rfl (c_X9_isSign hcu1) (cw_X9_43) ci_X9_isSign cs_X9_isSign (rm_ok (by decide) (by decide)) ⟨Nat.le_refl _, Nat.le_refl _⟩ (As := [.int p1]) rfl rfl (Nat.le_of_ble_eq_true rfl) dX9_takeSign_2) (fun H locs hW => ?_)
  refine x_ifne (tgt := 14) C hf dX9_takeSign_5 (by decide) (fun hf => ?_) (fun hf => ?_)
  · refine lv_aload_n C.1 C.2.1 dX9_takeSign_14 rfl (lv_at hl 0 rfl) ?_
    obtain ⟨u2, hcu2, hf⟩ := bnd_t hf
    refine x_callv hW (x_runV C hW hl (wk7 (k_1)) rfl rfl (c_X9_advance hcu2) (cw_X9_31) ci_X9_advance cs_X9_advance (rm_ok (by decide) (by decide)) ⟨Nat.le_refl _, Nat.le_refl _⟩ (As := []) rfl rfl (Nat.le_of_ble_eq_true rfl) dX9_takeSign_15) (fun H locs hW => ?_)
    refine lv_iconst (v := 1) C.1 C.2.1 dX9_takeSign_18 (by decide) ?_
    obtain rfl := Option.some.inj hf
    exact x_zret C hW (by decide) dX9_takeSign_19 rfl
  · refine lv_aload_n C.1 C.2.1 dX9_takeSign_8 rfl (lv_at hl 0 rfl) ?_
    refine lv_iconst (v := 1) C.1 C.2.1 dX9_takeSign_9 (by decide) ?_
    obtain ⟨u3, hcu3, hf⟩ := bnd_t hf
    refine x_calli hW (x_runV C hW hl (wk7 (k_1)) rfl rfl (c_X9_fail hcu3) (cw_X9_47) ci_X9_fail cs_X9_fail (rm_ok (by decide) (by decide)) ⟨Nat.le_refl _, Nat.le_refl _⟩ (As := [.int (1 : Int32)]) rfl rfl (Nat.le_of_ble_eq_true rfl) dX9_takeSign_10) (fun H locs hW => ?_)
    obtain ⟨hz, hf⟩ := ck_t hf
    obtain rfl := Option.some.inj hf
    exact x_zret C hW hz dX9_takeSign_13 rfl
set_option maxRecDepth 20000 in
set_option maxHeartbeats 1000000 in
theorem j_X9_numberHere_97 {l : Launch} {Z : ZT} {g : va_W} {p1 : Int32} {p2 : Int32} {h : Hp} {p : Program} {e : Env} {s : State} {m : MethodId} {args : Array Value} {below : List Frame} {meth : Method} {c : Code} (C : CX p s m args meth c cX9_numberHere RX9 5 (some .int) Z g) {out : Int32 × Hp} {ls : Array Slot} {H : Heap} {locs : List Loc} (hW : XW Z h g s.heap H locs) (hl : lv_has ls 5 [(0, .ref (Z.1 1)), (1, .int p1), (2, .int p2)]) (hf : J_X9_numberHere_97 p1 p2 h = some out) : W p l e (rmD 1) s m args below meth c H locs 0 0 (MQ below (va_Qi (fun r (_ : Unit) => r = out.1) (fun _ => Wd Z out.2 g) (FR Z)) args s 0 0 (FR Z)) (F0 m 97 ls []) := by
  rw [J_X9_numberHere_97] at hf
  refine lv_aload_n C.1 C.2.1 dX9_numberHere_97 rfl (lv_at hl 0 rfl) ?_
  refine lv_iconst (v := 2) C.1 C.2.1 dX9_numberHere_98 (by decide) ?_
  obtain ⟨u1, hcu1, hf⟩ := bnd_t hf
  refine x_calli hW (x_runV C hW hl (wk7 (k_1)) rfl rfl (c_X9_fail hcu1) (cw_X9_47) ci_X9_fail cs_X9_fail (rm_ok (by decide) (by decide)) ⟨Nat.le_refl _, Nat.le_refl _⟩ (As := [.int (2 : Int32)]) rfl rfl (Nat.le_of_ble_eq_true rfl) dX9_numberHere_99) (fun H locs hW => ?_)
  refine lv_pop C.1 C.2.1 dX9_numberHere_102 rfl ?_
  refine lv_iconst (v := -1) C.1 C.2.1 dX9_numberHere_103 (by decide) ?_
  obtain rfl := Option.some.inj hf
  exact x_iret C hW dX9_numberHere_104 rfl
set_option maxRecDepth 20000 in
set_option maxHeartbeats 1000000 in
theorem j_X9_numberHere_87 {l : Launch} {Z : ZT} {g : va_W} {p1 : Int32} {p2 : Int32} {h : Hp} {x3 : Int32} {p : Program} {e : Env} {s : State} {m : MethodId} {args : Array Value} {below : List Frame} {meth : Method} {c : Code} (C : CX p s m args meth c cX9_numberHere RX9 5 (some .int) Z g) {out : Int32 × Hp} {ls : Array Slot} {H : Heap} {locs : List Loc} (hW : XW Z h g s.heap H locs) (hl : lv_has ls 5 [(0, .ref (Z.1 1)), (1, .int p1), (2, .int p2), (3, .int x3)]) (hf : J_X9_numberHere_87 p1 p2 h x3 = some out) : W p l e (rmD 1) s m args below meth c H locs 0 0 (MQ below (va_Qi (fun r (_ : Unit) => r = out.1) (fun _ => Wd Z out.2 g) (FR Z)) args s 0 0 (FR Z)) (F0 m 87 ls []) := by
  refine lv_iload_n C.1 C.2.1 dX9_numberHere_87 rfl (lv_at hl 3 rfl) ?_
  refine lv_iload_n C.1 C.2.1 dX9_numberHere_88 rfl (lv_at hl 1 rfl) ?_
  refine x_cmplt (tgt := 97) C hf dX9_numberHere_89 (by decide) (fun hf => ?_) (fun hf => ?_)
  · exact j_X9_numberHere_97 C hW (lv_sub hl [0, 1, 2] rfl) hf
  · refine lv_iload_n C.1 C.2.1 dX9_numberHere_92 rfl (lv_at hl 3 rfl) ?_
    refine lv_iload_n C.1 C.2.1 dX9_numberHere_93 rfl (lv_at hl 2 rfl) ?_
    refine x_cmple (tgt := 105) C hf dX9_numberHere_94 (by decide) (fun hf => ?_) (fun hf => ?_)
    · refine lv_iload_n C.1 C.2.1 dX9_numberHere_105 rfl (lv_at hl 3 rfl) ?_
      obtain rfl := Option.some.inj hf
      exact x_iret C hW dX9_numberHere_106 rfl
    · exact j_X9_numberHere_97 C hW (lv_sub hl [0, 1, 2] rfl) hf
set_option maxRecDepth 20000 in
set_option maxHeartbeats 1000000 in
theorem l_X9_numberHere_37 {l : Launch} {Z : ZT} {g : va_W} {p1 : Int32} {p2 : Int32} {h : Hp} {p : Program} {e : Env} {s : State} {m : MethodId} {args : Array Value} {below : List Frame} {meth : Method} {c : Code} (C : CX p s m args meth c cX9_numberHere RX9 5 (some .int) Z g) {out : Int32 × Hp} : ∀ (n : Nat) (x3 : Int32) (x4 : Int32) (ls : Array Slot) (H : Heap) (locs : List Loc), XW Z h g s.heap H locs → lv_has ls 5 [(0, .ref (Z.1 1)), (1, .int p1), (2, .int p2), (3, .int x3), (4, .int x4)] → Lp (F_X9_numberHere_37 p1 p2 h) n (x3, x4) = some out → W p l e (rmD 1) s m args below meth c H locs 0 0 (MQ below (va_Qi (fun r (_ : Unit) => r = out.1) (fun _ => Wd Z out.2 g) (FR Z)) args s 0 0 (FR Z)) (F0 m 37 ls []) := by
  intro n
  induction n with
  | zero => intro x3 x4 ls H locs hW hl hf; cases hf
  | succ n ih =>
    intro x3 x4 ls H locs hW hl hf
    rw [Lp_s] at hf
    refine lv_iload C.1 C.2.1 dX9_numberHere_37 (lv_at hl 4 rfl) ?_
    refine lv_aload_n C.1 C.2.1 dX9_numberHere_39 rfl (lv_at hl 0 rfl) ?_
    refine xg_X9_28 C hW (k_1) dX9_numberHere_40 ?_
    refine x_cmpge (tgt := 87) C hf dX9_numberHere_43 (by decide) (fun hf => ?_) (fun hf => ?_)
    · exact j_X9_numberHere_87 C hW (lv_sub hl [0, 1, 2, 3] rfl) hf
    · refine lv_aload_n C.1 C.2.1 dX9_numberHere_46 rfl (lv_at hl 0 rfl) ?_
      refine xg_X9_25 C hW (k_1) dX9_numberHere_47 ?_
      refine lv_iload C.1 C.2.1 dX9_numberHere_50 (lv_at hl 4 rfl) ?_
      refine lv_iadd C.1 C.2.1 dX9_numberHere_52 ?_
      refine lv_aload_n C.1 C.2.1 dX9_numberHere_53 rfl (lv_at hl 0 rfl) ?_
      refine xg_X9_19 C hW (k_1) dX9_numberHere_54 ?_
      refine x_cmpge (tgt := 87) C hf dX9_numberHere_57 (by decide) (fun hf => ?_) (fun hf => ?_)
      · exact j_X9_numberHere_87 C hW (lv_sub hl [0, 1, 2, 3] rfl) hf
      · refine lv_iload_n C.1 C.2.1 dX9_numberHere_60 rfl (lv_at hl 3 rfl) ?_
        refine lv_bipush (v := 10) C.1 C.2.1 dX9_numberHere_61 (by decide) ?_
        refine lv_imul C.1 C.2.1 dX9_numberHere_63 ?_
        refine lv_aload_n C.1 C.2.1 dX9_numberHere_64 rfl (lv_at hl 0 rfl) ?_
        refine xg_X9_9 C hW (k_1) dX9_numberHere_65 ?_
        refine lv_aload_n C.1 C.2.1 dX9_numberHere_68 rfl (lv_at hl 0 rfl) ?_
        refine xg_X9_25 C hW (k_1) dX9_numberHere_69 ?_
        refine lv_iload C.1 C.2.1 dX9_numberHere_72 (lv_at hl 4 rfl) ?_
        refine lv_iadd C.1 C.2.1 dX9_numberHere_74 ?_
        refine x_baldC C hW a_2 hf dX9_numberHere_75 (fun hf => ?_)
        refine lv_iadd C.1 C.2.1 dX9_numberHere_76 ?_
        refine lv_bipush (v := 48) C.1 C.2.1 dX9_numberHere_77 (by decide) ?_
        refine lv_isub C.1 C.2.1 dX9_numberHere_79 ?_
        refine x_istn C hf dX9_numberHere_80 rfl hl (by decide) (fun v2 => [(3, .int v2), (0, .ref (Z.1 1)), (1, .int p1), (2, .int p2), (4, .int x4)]) (fun _ => rfl) (fun v2 ls hf hl => ?_)
        refine x_iinc (w := 1) C hf dX9_numberHere_81 hl (k := 4) rfl (by decide) (by decide) (fun v3 => [(4, .int v3), (3, .int v2), (0, .ref (Z.1 1)), (1, .int p1), (2, .int p2)]) (fun _ => rfl) (fun v3 ls hf hl => ?_)
        refine lv_goto (tgt := 37) C.1 C.2.1 dX9_numberHere_84 (by decide) ?_
        exact ih v2 v3 ls _ _ hW (lv_sub hl [2, 3, 4, 1, 0] rfl) hf
set_option maxRecDepth 20000 in
set_option maxHeartbeats 1000000 in
theorem c_X9_numberHere {l : Launch} {Z : ZT} {g : va_W} {h : Hp} {p1 : Int32} {p2 : Int32} {out : Int32 × Hp} (hf : f_X9_numberHere h p1 p2 = some out) : Met l yX9_numberHere (wY yX9_numberHere cX9_numberHere 5 (some .int)) (rmD 1) (va_Pc [.ref (Z.1 1), .int p1, .int p2] (Wd Z h g)) (va_Qi (fun r (_ : Unit) => r = out.1) (fun _ => Wd Z out.2 g) (FR Z)) 0 0 (FR Z) := by
  refine metX RX9 rfl (by decide +kernel) (Nat.le_of_ble_eq_true rfl) ?_
  intro p e s m args below meth c C hW ls hl
  have hl : lv_has ls 5 [(0, .ref (Z.1 1)), (1, .int p1), (2, .int p2)] := hl
  unfold f_X9_numberHere at hf
  refine lv_aload_n C.1 C.2.1 dX9_numberHere_0 rfl (lv_at hl 0 rfl) ?_
  refine xg_X9_34 C hW (k_1) dX9_numberHere_1 ?_
  refine lv_iconst (v := 2) C.1 C.2.1 dX9_numberHere_4 (by decide) ?_
  refine x_cmpeq (tgt := 16) C hf dX9_numberHere_5 (by decide) (fun hf => ?_) (fun hf => ?_)
  · refine lv_aload_n C.1 C.2.1 dX9_numberHere_16 rfl (lv_at hl 0 rfl) ?_
    refine xg_X9_28 C hW (k_1) dX9_numberHere_17 ?_
    refine lv_iconst (v := 5) C.1 C.2.1 dX9_numberHere_20 (by decide) ?_
    refine x_cmple (tgt := 32) C hf dX9_numberHere_21 (by decide) (fun hf => ?_) (fun hf => ?_)
    · refine lv_iconst (v := 0) C.1 C.2.1 dX9_numberHere_32 (by decide) ?_
      refine lv_istore_n (lv' := [(3, .int (0 : Int32)), (0, .ref (Z.1 1)), (1, .int p1), (2, .int p2)]) C.1 C.2.1 dX9_numberHere_33 rfl hl (by decide) rfl (fun ls hl => ?_)
      refine lv_iconst (v := 0) C.1 C.2.1 dX9_numberHere_34 (by decide) ?_
      refine lv_istore (lv' := [(4, .int (0 : Int32)), (3, .int (0 : Int32)), (0, .ref (Z.1 1)), (1, .int p1), (2, .int p2)]) C.1 C.2.1 dX9_numberHere_35 hl (by decide) rfl (fun ls hl => ?_)
      exact l_X9_numberHere_37 C FU (0 : Int32) (0 : Int32) ls _ _ hW (lv_sub hl [2, 3, 4, 1, 0] rfl) hf
    · refine lv_aload_n C.1 C.2.1 dX9_numberHere_24 rfl (lv_at hl 0 rfl) ?_
      refine lv_iconst (v := 2) C.1 C.2.1 dX9_numberHere_25 (by decide) ?_
      obtain ⟨u4, hcu4, hf⟩ := bnd_t hf
      refine x_calli hW (x_runV C hW hl (wk7 (k_1)) rfl rfl (c_X9_fail hcu4) (cw_X9_47) ci_X9_fail cs_X9_fail (rm_ok (by decide) (by decide)) ⟨Nat.le_refl _, Nat.le_refl _⟩ (As := [.int (2 : Int32)]) rfl rfl (Nat.le_of_ble_eq_true rfl) dX9_numberHere_26) (fun H locs hW => ?_)
      refine lv_pop C.1 C.2.1 dX9_numberHere_29 rfl ?_
      refine lv_iconst (v := -1) C.1 C.2.1 dX9_numberHere_30 (by decide) ?_
      obtain rfl := Option.some.inj hf
      exact x_iret C hW dX9_numberHere_31 rfl
  · refine lv_aload_n C.1 C.2.1 dX9_numberHere_8 rfl (lv_at hl 0 rfl) ?_
    refine lv_iconst (v := 1) C.1 C.2.1 dX9_numberHere_9 (by decide) ?_
    obtain ⟨u5, hcu5, hf⟩ := bnd_t hf
    refine x_calli hW (x_runV C hW hl (wk7 (k_1)) rfl rfl (c_X9_fail hcu5) (cw_X9_47) ci_X9_fail cs_X9_fail (rm_ok (by decide) (by decide)) ⟨Nat.le_refl _, Nat.le_refl _⟩ (As := [.int (1 : Int32)]) rfl rfl (Nat.le_of_ble_eq_true rfl) dX9_numberHere_10) (fun H locs hW => ?_)
    refine lv_pop C.1 C.2.1 dX9_numberHere_13 rfl ?_
    refine lv_iconst (v := -1) C.1 C.2.1 dX9_numberHere_14 (by decide) ?_
    obtain rfl := Option.some.inj hf
    exact x_iret C hW dX9_numberHere_15 rfl
set_option maxRecDepth 20000 in
set_option maxHeartbeats 1000000 in
theorem c_X9_isEnd {l : Launch} {Z : ZT} {g : va_W} {h : Hp} {out : Int32} (hf : f_X9_isEnd h = some out) : Met l yX9_isEnd (wY yX9_isEnd cX9_isEnd 1 (some .boolean)) (rmD 0) (va_Pc [.ref (Z.1 1)] (Wd Z h g)) (va_Qi (fun r (_ : Unit) => r = out) (fun _ => Wd Z h g) (FR Z)) 0 0 (FR Z) := by
  refine metX RX9 rfl (by decide +kernel) (Nat.le_of_ble_eq_true rfl) ?_
  intro p e s m args below meth c C hW ls hl
  have hl : lv_has ls 1 [(0, .ref (Z.1 1))] := hl
  unfold f_X9_isEnd at hf
  refine lv_aload_n C.1 C.2.1 dX9_isEnd_0 rfl (lv_at hl 0 rfl) ?_
  refine xg_X9_34 C hW (k_1) dX9_isEnd_1 ?_
  refine x_ifne (tgt := 11) C hf dX9_isEnd_4 (by decide) (fun hf => ?_) (fun hf => ?_)
  · refine lv_iconst (v := 0) C.1 C.2.1 dX9_isEnd_11 (by decide) ?_
    exact x_zret C hW (by decide) dX9_isEnd_12 (Option.some.inj hf)
  · refine lv_iconst (v := 1) C.1 C.2.1 dX9_isEnd_7 (by decide) ?_
    refine lv_goto (tgt := 12) C.1 C.2.1 dX9_isEnd_8 (by decide) ?_
    exact x_zret C hW (by decide) dX9_isEnd_12 (Option.some.inj hf)
set_option maxRecDepth 20000 in
set_option maxHeartbeats 1000000 in
theorem c_X9_begin {l : Launch} {Z : ZT} {g : va_W} {h : Hp} {out : Hp} (hf : f_X9_begin h = some out) : Met l yX9_begin (wY yX9_begin cX9_begin 1 none) (rmD 1) (va_Pc [.ref (Z.1 1)] (Wd Z h g)) (va_Qv (fun (_ : Unit) => True) (fun _ => Wd Z out g) (FR Z)) 0 0 (FR Z) := by
  refine metX RX9 rfl (by decide +kernel) (Nat.le_of_ble_eq_true rfl) ?_
  intro p e s m args below meth c C hW ls hl
  have hl : lv_has ls 1 [(0, .ref (Z.1 1))] := hl
  unfold f_X9_begin at hf
  refine lv_aload_n C.1 C.2.1 dX9_begin_0 rfl (lv_at hl 0 rfl) ?_
  refine lv_iconst (v := -1) C.1 C.2.1 dX9_begin_1 (by decide) ?_
  refine xp_X9_15 C hW (k_1) hf dX9_begin_2 (fun h1 H locs hf hW => ?_)
  refine lv_aload_n C.1 C.2.1 dX9_begin_5 rfl (lv_at hl 0 rfl) ?_
  refine lv_iconst (v := 0) C.1 C.2.1 dX9_begin_6 (by decide) ?_
  refine xp_X9_22 C hW (k_1) hf dX9_begin_7 (fun h2 H locs hf hW => ?_)
  refine lv_aload_n C.1 C.2.1 dX9_begin_10 rfl (lv_at hl 0 rfl) ?_
  refine lv_iconst (v := 0) C.1 C.2.1 dX9_begin_11 (by decide) ?_
  refine xp_X9_25 C hW (k_1) hf dX9_begin_12 (fun h3 H locs hf hW => ?_)
  refine lv_aload_n C.1 C.2.1 dX9_begin_15 rfl (lv_at hl 0 rfl) ?_
  refine lv_iconst (v := 0) C.1 C.2.1 dX9_begin_16 (by decide) ?_
  refine xp_X9_28 C hW (k_1) hf dX9_begin_17 (fun h4 H locs hf hW => ?_)
  refine lv_aload_n C.1 C.2.1 dX9_begin_20 rfl (lv_at hl 0 rfl) ?_
  obtain ⟨u5, hcu5, hf⟩ := bnd_t hf
  refine x_callv hW (x_runV C hW hl (wk7 (k_1)) rfl rfl (c_X9_advance hcu5) (cw_X9_31) ci_X9_advance cs_X9_advance (rm_ok (by decide) (by decide)) ⟨Nat.le_refl _, Nat.le_refl _⟩ (As := []) rfl rfl (Nat.le_of_ble_eq_true rfl) dX9_begin_21) (fun H locs hW => ?_)
  obtain rfl := Option.some.inj hf
  exact x_vret C hW dX9_begin_24 trivial
set_option maxRecDepth 20000 in
set_option maxHeartbeats 1000000 in
theorem l_X9_putFour_3 {l : Launch} {Z : ZT} {g : va_W} {p1 : Int32} {p : Program} {e : Env} {s : State} {m : MethodId} {args : Array Value} {below : List Frame} {meth : Method} {c : Code} (C : CX p s m args meth c cX9_putFour RX9 3 none Z g) {out : Hp} : ∀ (n : Nat) (x2 : Int32) (h : Hp) (ls : Array Slot) (H : Heap) (locs : List Loc), XW Z h g s.heap H locs → lv_has ls 3 [(0, .ref (Z.1 1)), (1, .int p1), (2, .int x2)] → Lp (F_X9_putFour_3 p1) n (x2, h) = some out → W p l e (rmD 0) s m args below meth c H locs 0 0 (MQ below (va_Qv (fun (_ : Unit) => True) (fun _ => Wd Z out g) (FR Z)) args s 0 0 (FR Z)) (F0 m 3 ls []) := by
  intro n
  induction n with
  | zero => intro x2 h ls H locs hW hl hf; cases hf
  | succ n ih =>
    intro x2 h ls H locs hW hl hf
    rw [Lp_s] at hf
    refine lv_iload_n C.1 C.2.1 dX9_putFour_3 rfl (lv_at hl 2 rfl) ?_
    refine x_iflt (tgt := 46) C hf dX9_putFour_4 (by decide) (fun hf => ?_) (fun hf => ?_)
    · obtain rfl := Option.some.inj hf
      exact x_vret C hW dX9_putFour_46 trivial
    · refine lv_aload_n C.1 C.2.1 dX9_putFour_7 rfl (lv_at hl 0 rfl) ?_
      refine xg_X9_19 C hW (k_1) dX9_putFour_8 ?_
      refine lv_sipush (v := 900) C.1 C.2.1 dX9_putFour_11 (by decide) ?_
      refine x_cmpge (tgt := 46) C hf dX9_putFour_14 (by decide) (fun hf => ?_) (fun hf => ?_)
      · obtain rfl := Option.some.inj hf
        exact x_vret C hW dX9_putFour_46 trivial
      · refine lv_aload_n C.1 C.2.1 dX9_putFour_17 rfl (lv_at hl 0 rfl) ?_
        refine xg_X9_9 C hW (k_1) dX9_putFour_18 ?_
        refine lv_aload_n C.1 C.2.1 dX9_putFour_21 rfl (lv_at hl 0 rfl) ?_
        refine xg_X9_19 C hW (k_1) dX9_putFour_22 ?_
        refine lv_iload_n C.1 C.2.1 dX9_putFour_25 rfl (lv_at hl 1 rfl) ?_
        refine lv_iload_n C.1 C.2.1 dX9_putFour_26 rfl (lv_at hl 2 rfl) ?_
        refine lv_iushr (v := iushr p1 x2) C.1 C.2.1 dX9_putFour_27 rfl ?_
        refine lv_i2b (v := i2b (iushr p1 x2)) C.1 C.2.1 dX9_putFour_28 rfl ?_
        refine x_bastC C hW a_2 hf dX9_putFour_29 (fun h1 H locs hf hW => ?_)
        refine lv_aload_n C.1 C.2.1 dX9_putFour_30 rfl (lv_at hl 0 rfl) ?_
        refine lv_dup C.1 C.2.1 dX9_putFour_31 rfl ?_
        refine xg_X9_19 C hW (k_1) dX9_putFour_32 ?_
        refine lv_iconst (v := 1) C.1 C.2.1 dX9_putFour_35 (by decide) ?_
        refine lv_iadd C.1 C.2.1 dX9_putFour_36 ?_
        refine xp_X9_19 C hW (k_1) hf dX9_putFour_37 (fun h2 H locs hf hW => ?_)
        refine x_iinc (w := -8) C hf dX9_putFour_40 hl (k := 2) rfl (by decide) (by decide) (fun v3 => [(2, .int v3), (0, .ref (Z.1 1)), (1, .int p1)]) (fun _ => rfl) (fun v3 ls hf hl => ?_)
        refine lv_goto (tgt := 3) C.1 C.2.1 dX9_putFour_43 (by decide) ?_
        exact ih v3 h2 ls _ _ hW (lv_sub hl [1, 2, 0] rfl) hf
set_option maxRecDepth 20000 in
set_option maxHeartbeats 1000000 in
theorem c_X9_putFour {l : Launch} {Z : ZT} {g : va_W} {h : Hp} {p1 : Int32} {out : Hp} (hf : f_X9_putFour h p1 = some out) : Met l yX9_putFour (wY yX9_putFour cX9_putFour 3 none) (rmD 0) (va_Pc [.ref (Z.1 1), .int p1] (Wd Z h g)) (va_Qv (fun (_ : Unit) => True) (fun _ => Wd Z out g) (FR Z)) 0 0 (FR Z) := by
  refine metX RX9 rfl (by decide +kernel) (Nat.le_of_ble_eq_true rfl) ?_
  intro p e s m args below meth c C hW ls hl
  have hl : lv_has ls 3 [(0, .ref (Z.1 1)), (1, .int p1)] := hl
  unfold f_X9_putFour at hf
  refine lv_bipush (v := 24) C.1 C.2.1 dX9_putFour_0 (by decide) ?_
  refine lv_istore_n (lv' := [(2, .int (24 : Int32)), (0, .ref (Z.1 1)), (1, .int p1)]) C.1 C.2.1 dX9_putFour_2 rfl hl (by decide) rfl (fun ls hl => ?_)
  exact l_X9_putFour_3 C FU (24 : Int32) h ls _ _ hW (lv_sub hl [1, 2, 0] rfl) hf
