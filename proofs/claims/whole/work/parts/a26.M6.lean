abbrev cX11_movesPhrase : ByteArray := prog_13_method_120_code
def yX11_movesPhrase : MethodName := ⟨RX11, "movesPhrase", "(II)Z"⟩
theorem dX11_movesPhrase_0 : decode cX11_movesPhrase 0 = .ok (.aload_n 0, 1) := by decide +kernel
theorem dX11_movesPhrase_1 : decode cX11_movesPhrase 1 = .ok (.iload_n 1, 1) := by decide +kernel
theorem dX11_movesPhrase_2 : decode cX11_movesPhrase 2 = .ok (.invokevirtual 397, 3) := by decide +kernel
theorem dX11_movesPhrase_5 : decode cX11_movesPhrase 5 = .ok (.istore_n 3, 1) := by decide +kernel
theorem dX11_movesPhrase_6 : decode cX11_movesPhrase 6 = .ok (.aload_n 0, 1) := by decide +kernel
theorem dX11_movesPhrase_7 : decode cX11_movesPhrase 7 = .ok (.iload_n 2, 1) := by decide +kernel
theorem dX11_movesPhrase_8 : decode cX11_movesPhrase 8 = .ok (.invokevirtual 397, 3) := by decide +kernel
theorem dX11_movesPhrase_11 : decode cX11_movesPhrase 11 = .ok (.istore 4, 2) := by decide +kernel
theorem dX11_movesPhrase_13 : decode cX11_movesPhrase 13 = .ok (.iload_n 3, 1) := by decide +kernel
theorem dX11_movesPhrase_14 : decode cX11_movesPhrase 14 = .ok (.iconst (-1), 1) := by decide +kernel
theorem dX11_movesPhrase_15 : decode cX11_movesPhrase 15 = .ok (.if_icmp .eq 9, 3) := by decide +kernel
theorem dX11_movesPhrase_18 : decode cX11_movesPhrase 18 = .ok (.iload 4, 2) := by decide +kernel
theorem dX11_movesPhrase_20 : decode cX11_movesPhrase 20 = .ok (.iconst (-1), 1) := by decide +kernel
theorem dX11_movesPhrase_21 : decode cX11_movesPhrase 21 = .ok (.if_icmp .ne 5, 3) := by decide +kernel
theorem dX11_movesPhrase_24 : decode cX11_movesPhrase 24 = .ok (.iconst 0, 1) := by decide +kernel
theorem dX11_movesPhrase_25 : decode cX11_movesPhrase 25 = .ok (.ireturn, 1) := by decide +kernel
theorem dX11_movesPhrase_26 : decode cX11_movesPhrase 26 = .ok (.aload_n 0, 1) := by decide +kernel
theorem dX11_movesPhrase_27 : decode cX11_movesPhrase 27 = .ok (.getfield 66, 3) := by decide +kernel
theorem dX11_movesPhrase_30 : decode cX11_movesPhrase 30 = .ok (.iload_n 3, 1) := by decide +kernel
theorem dX11_movesPhrase_31 : decode cX11_movesPhrase 31 = .ok (.iaload, 1) := by decide +kernel
theorem dX11_movesPhrase_32 : decode cX11_movesPhrase 32 = .ok (.istore 5, 2) := by decide +kernel
theorem dX11_movesPhrase_34 : decode cX11_movesPhrase 34 = .ok (.aload_n 0, 1) := by decide +kernel
theorem dX11_movesPhrase_35 : decode cX11_movesPhrase 35 = .ok (.getfield 66, 3) := by decide +kernel
theorem dX11_movesPhrase_38 : decode cX11_movesPhrase 38 = .ok (.iload_n 3, 1) := by decide +kernel
theorem dX11_movesPhrase_39 : decode cX11_movesPhrase 39 = .ok (.aload_n 0, 1) := by decide +kernel
theorem dX11_movesPhrase_40 : decode cX11_movesPhrase 40 = .ok (.getfield 57, 3) := by decide +kernel
theorem dX11_movesPhrase_43 : decode cX11_movesPhrase 43 = .ok (.iload_n 1, 1) := by decide +kernel
theorem dX11_movesPhrase_44 : decode cX11_movesPhrase 44 = .ok (.iaload, 1) := by decide +kernel
theorem dX11_movesPhrase_45 : decode cX11_movesPhrase 45 = .ok (.iadd, 1) := by decide +kernel
theorem dX11_movesPhrase_46 : decode cX11_movesPhrase 46 = .ok (.iconst 1, 1) := by decide +kernel
theorem dX11_movesPhrase_47 : decode cX11_movesPhrase 47 = .ok (.isub, 1) := by decide +kernel
theorem dX11_movesPhrase_48 : decode cX11_movesPhrase 48 = .ok (.iaload, 1) := by decide +kernel
theorem dX11_movesPhrase_49 : decode cX11_movesPhrase 49 = .ok (.istore 6, 2) := by decide +kernel
theorem dX11_movesPhrase_51 : decode cX11_movesPhrase 51 = .ok (.aload_n 0, 1) := by decide +kernel
theorem dX11_movesPhrase_52 : decode cX11_movesPhrase 52 = .ok (.getfield 66, 3) := by decide +kernel
theorem dX11_movesPhrase_55 : decode cX11_movesPhrase 55 = .ok (.iload 4, 2) := by decide +kernel
theorem dX11_movesPhrase_57 : decode cX11_movesPhrase 57 = .ok (.aload_n 0, 1) := by decide +kernel
theorem dX11_movesPhrase_58 : decode cX11_movesPhrase 58 = .ok (.getfield 57, 3) := by decide +kernel
theorem dX11_movesPhrase_61 : decode cX11_movesPhrase 61 = .ok (.iload_n 2, 1) := by decide +kernel
theorem dX11_movesPhrase_62 : decode cX11_movesPhrase 62 = .ok (.iaload, 1) := by decide +kernel
theorem dX11_movesPhrase_63 : decode cX11_movesPhrase 63 = .ok (.iadd, 1) := by decide +kernel
theorem dX11_movesPhrase_64 : decode cX11_movesPhrase 64 = .ok (.iconst 1, 1) := by decide +kernel
theorem dX11_movesPhrase_65 : decode cX11_movesPhrase 65 = .ok (.isub, 1) := by decide +kernel
theorem dX11_movesPhrase_66 : decode cX11_movesPhrase 66 = .ok (.iaload, 1) := by decide +kernel
theorem dX11_movesPhrase_67 : decode cX11_movesPhrase 67 = .ok (.istore 7, 2) := by decide +kernel
theorem dX11_movesPhrase_69 : decode cX11_movesPhrase 69 = .ok (.iload 7, 2) := by decide +kernel
theorem dX11_movesPhrase_71 : decode cX11_movesPhrase 71 = .ok (.iload 5, 2) := by decide +kernel
theorem dX11_movesPhrase_73 : decode cX11_movesPhrase 73 = .ok (.iload 6, 2) := by decide +kernel
theorem dX11_movesPhrase_75 : decode cX11_movesPhrase 75 = .ok (.invokestatic 166, 3) := by decide +kernel
theorem dX11_movesPhrase_78 : decode cX11_movesPhrase 78 = .ok (.ifCond .eq 5, 3) := by decide +kernel
theorem dX11_movesPhrase_81 : decode cX11_movesPhrase 81 = .ok (.iconst 0, 1) := by decide +kernel
theorem dX11_movesPhrase_82 : decode cX11_movesPhrase 82 = .ok (.ireturn, 1) := by decide +kernel
theorem dX11_movesPhrase_83 : decode cX11_movesPhrase 83 = .ok (.aload_n 0, 1) := by decide +kernel
theorem dX11_movesPhrase_84 : decode cX11_movesPhrase 84 = .ok (.iload 5, 2) := by decide +kernel
theorem dX11_movesPhrase_86 : decode cX11_movesPhrase 86 = .ok (.iload 6, 2) := by decide +kernel
theorem dX11_movesPhrase_88 : decode cX11_movesPhrase 88 = .ok (.iload 7, 2) := by decide +kernel
theorem dX11_movesPhrase_90 : decode cX11_movesPhrase 90 = .ok (.invokevirtual 393, 3) := by decide +kernel
theorem dX11_movesPhrase_93 : decode cX11_movesPhrase 93 = .ok (.ifCond .lt 7, 3) := by decide +kernel
theorem dX11_movesPhrase_96 : decode cX11_movesPhrase 96 = .ok (.iconst 1, 1) := by decide +kernel
theorem dX11_movesPhrase_97 : decode cX11_movesPhrase 97 = .ok (.goto 4, 3) := by decide +kernel
theorem dX11_movesPhrase_100 : decode cX11_movesPhrase 100 = .ok (.iconst 0, 1) := by decide +kernel
theorem dX11_movesPhrase_101 : decode cX11_movesPhrase 101 = .ok (.ireturn, 1) := by decide +kernel
theorem ci_X11_movesPhrase : Cond.instanceMethod yX11_movesPhrase ∈ TW := TW_of 1987 (by decide +kernel) (by decide +kernel)
theorem cs_X11_movesPhrase : Cond.selects yX11_movesPhrase.cls yX11_movesPhrase yX11_movesPhrase ∈ TW := TW_of 95 (by decide +kernel) (by decide +kernel)
abbrev cX11_executes : ByteArray := prog_13_method_121_code
def yX11_executes : MethodName := ⟨RX11, "executes", "(I)I"⟩
theorem dX11_executes_0 : decode cX11_executes 0 = .ok (.aload_n 0, 1) := by decide +kernel
theorem dX11_executes_1 : decode cX11_executes 1 = .ok (.getfield 403, 3) := by decide +kernel
theorem dX11_executes_4 : decode cX11_executes 4 = .ok (.sipush 200, 3) := by decide +kernel
theorem dX11_executes_7 : decode cX11_executes 7 = .ok (.if_icmp .ne 10, 3) := by decide +kernel
theorem dX11_executes_10 : decode cX11_executes 10 = .ok (.aload_n 0, 1) := by decide +kernel
theorem dX11_executes_11 : decode cX11_executes 11 = .ok (.iconst 1, 1) := by decide +kernel
theorem dX11_executes_12 : decode cX11_executes 12 = .ok (.putfield 406, 3) := by decide +kernel
theorem dX11_executes_15 : decode cX11_executes 15 = .ok (.iload_n 1, 1) := by decide +kernel
theorem dX11_executes_16 : decode cX11_executes 16 = .ok (.ireturn, 1) := by decide +kernel
theorem dX11_executes_17 : decode cX11_executes 17 = .ok (.aload_n 0, 1) := by decide +kernel
theorem dX11_executes_18 : decode cX11_executes 18 = .ok (.dup, 1) := by decide +kernel
theorem dX11_executes_19 : decode cX11_executes 19 = .ok (.getfield 403, 3) := by decide +kernel
theorem dX11_executes_22 : decode cX11_executes 22 = .ok (.iconst 1, 1) := by decide +kernel
theorem dX11_executes_23 : decode cX11_executes 23 = .ok (.iadd, 1) := by decide +kernel
theorem dX11_executes_24 : decode cX11_executes 24 = .ok (.putfield 403, 3) := by decide +kernel
theorem dX11_executes_27 : decode cX11_executes 27 = .ok (.aload_n 0, 1) := by decide +kernel
theorem dX11_executes_28 : decode cX11_executes 28 = .ok (.getfield 57, 3) := by decide +kernel
theorem dX11_executes_31 : decode cX11_executes 31 = .ok (.iload_n 1, 1) := by decide +kernel
theorem dX11_executes_32 : decode cX11_executes 32 = .ok (.iaload, 1) := by decide +kernel
theorem dX11_executes_33 : decode cX11_executes 33 = .ok (.istore_n 2, 1) := by decide +kernel
theorem dX11_executes_34 : decode cX11_executes 34 = .ok (.iload_n 2, 1) := by decide +kernel
theorem dX11_executes_35 : decode cX11_executes 35 = .ok (.iconst 5, 1) := by decide +kernel
theorem dX11_executes_36 : decode cX11_executes 36 = .ok (.if_icmp .ne 50, 3) := by decide +kernel
theorem dX11_executes_39 : decode cX11_executes 39 = .ok (.iconst 0, 1) := by decide +kernel
theorem dX11_executes_40 : decode cX11_executes 40 = .ok (.istore_n 3, 1) := by decide +kernel
theorem dX11_executes_41 : decode cX11_executes 41 = .ok (.iload_n 3, 1) := by decide +kernel
theorem dX11_executes_42 : decode cX11_executes 42 = .ok (.aload_n 0, 1) := by decide +kernel
theorem dX11_executes_43 : decode cX11_executes 43 = .ok (.getfield 57, 3) := by decide +kernel
theorem dX11_executes_46 : decode cX11_executes 46 = .ok (.iload_n 1, 1) := by decide +kernel
theorem dX11_executes_47 : decode cX11_executes 47 = .ok (.iconst 1, 1) := by decide +kernel
theorem dX11_executes_48 : decode cX11_executes 48 = .ok (.iadd, 1) := by decide +kernel
theorem dX11_executes_49 : decode cX11_executes 49 = .ok (.iaload, 1) := by decide +kernel
theorem dX11_executes_50 : decode cX11_executes 50 = .ok (.if_icmp .ge 23, 3) := by decide +kernel
theorem dX11_executes_53 : decode cX11_executes 53 = .ok (.aload_n 0, 1) := by decide +kernel
theorem dX11_executes_54 : decode cX11_executes 54 = .ok (.getfield 406, 3) := by decide +kernel
theorem dX11_executes_57 : decode cX11_executes 57 = .ok (.ifCond .ne 16, 3) := by decide +kernel
theorem dX11_executes_60 : decode cX11_executes 60 = .ok (.aload_n 0, 1) := by decide +kernel
theorem dX11_executes_61 : decode cX11_executes 61 = .ok (.iload_n 1, 1) := by decide +kernel
theorem dX11_executes_62 : decode cX11_executes 62 = .ok (.iconst 2, 1) := by decide +kernel
theorem dX11_executes_63 : decode cX11_executes 63 = .ok (.iadd, 1) := by decide +kernel
theorem dX11_executes_64 : decode cX11_executes 64 = .ok (.invokevirtual 410, 3) := by decide +kernel
theorem dX11_executes_67 : decode cX11_executes 67 = .ok (.iinc 3 1, 3) := by decide +kernel
theorem dX11_executes_70 : decode cX11_executes 70 = .ok (.goto (-29), 3) := by decide +kernel
theorem dX11_executes_73 : decode cX11_executes 73 = .ok (.iload_n 1, 1) := by decide +kernel
theorem dX11_executes_74 : decode cX11_executes 74 = .ok (.iconst 3, 1) := by decide +kernel
theorem dX11_executes_75 : decode cX11_executes 75 = .ok (.iadd, 1) := by decide +kernel
theorem dX11_executes_76 : decode cX11_executes 76 = .ok (.aload_n 0, 1) := by decide +kernel
theorem dX11_executes_77 : decode cX11_executes 77 = .ok (.getfield 57, 3) := by decide +kernel
theorem dX11_executes_80 : decode cX11_executes 80 = .ok (.iload_n 1, 1) := by decide +kernel
theorem dX11_executes_81 : decode cX11_executes 81 = .ok (.iconst 2, 1) := by decide +kernel
theorem dX11_executes_82 : decode cX11_executes 82 = .ok (.iadd, 1) := by decide +kernel
theorem dX11_executes_83 : decode cX11_executes 83 = .ok (.iaload, 1) := by decide +kernel
theorem dX11_executes_84 : decode cX11_executes 84 = .ok (.iadd, 1) := by decide +kernel
theorem dX11_executes_85 : decode cX11_executes 85 = .ok (.ireturn, 1) := by decide +kernel
theorem dX11_executes_86 : decode cX11_executes 86 = .ok (.aload_n 0, 1) := by decide +kernel
theorem dX11_executes_87 : decode cX11_executes 87 = .ok (.iload_n 1, 1) := by decide +kernel
theorem dX11_executes_88 : decode cX11_executes 88 = .ok (.iconst 1, 1) := by decide +kernel
theorem dX11_executes_89 : decode cX11_executes 89 = .ok (.iadd, 1) := by decide +kernel
theorem dX11_executes_90 : decode cX11_executes 90 = .ok (.invokevirtual 413, 3) := by decide +kernel
theorem dX11_executes_93 : decode cX11_executes 93 = .ok (.istore_n 3, 1) := by decide +kernel
theorem dX11_executes_94 : decode cX11_executes 94 = .ok (.iload_n 2, 1) := by decide +kernel
theorem dX11_executes_95 : decode cX11_executes 95 = .ok (.iconst 4, 1) := by decide +kernel
theorem dX11_executes_96 : decode cX11_executes 96 = .ok (.if_icmp .ne 49, 3) := by decide +kernel
theorem dX11_executes_99 : decode cX11_executes 99 = .ok (.iload_n 3, 1) := by decide +kernel
theorem dX11_executes_100 : decode cX11_executes 100 = .ok (.iconst 1, 1) := by decide +kernel
theorem dX11_executes_101 : decode cX11_executes 101 = .ok (.iadd, 1) := by decide +kernel
theorem dX11_executes_102 : decode cX11_executes 102 = .ok (.aload_n 0, 1) := by decide +kernel
theorem dX11_executes_103 : decode cX11_executes 103 = .ok (.getfield 57, 3) := by decide +kernel
theorem dX11_executes_106 : decode cX11_executes 106 = .ok (.iload_n 3, 1) := by decide +kernel
theorem dX11_executes_107 : decode cX11_executes 107 = .ok (.iaload, 1) := by decide +kernel
theorem dX11_executes_108 : decode cX11_executes 108 = .ok (.iadd, 1) := by decide +kernel
theorem dX11_executes_109 : decode cX11_executes 109 = .ok (.istore 4, 2) := by decide +kernel
theorem dX11_executes_111 : decode cX11_executes 111 = .ok (.aload_n 0, 1) := by decide +kernel
theorem dX11_executes_112 : decode cX11_executes 112 = .ok (.aload_n 0, 1) := by decide +kernel
theorem dX11_executes_113 : decode cX11_executes 113 = .ok (.iload_n 1, 1) := by decide +kernel
theorem dX11_executes_114 : decode cX11_executes 114 = .ok (.iconst 1, 1) := by decide +kernel
theorem dX11_executes_115 : decode cX11_executes 115 = .ok (.iadd, 1) := by decide +kernel
theorem dX11_executes_116 : decode cX11_executes 116 = .ok (.invokevirtual 397, 3) := by decide +kernel
theorem dX11_executes_119 : decode cX11_executes 119 = .ok (.iconst (-1), 1) := by decide +kernel
theorem dX11_executes_120 : decode cX11_executes 120 = .ok (.if_icmp .eq 7, 3) := by decide +kernel
theorem dX11_executes_123 : decode cX11_executes 123 = .ok (.iload_n 3, 1) := by decide +kernel
theorem dX11_executes_124 : decode cX11_executes 124 = .ok (.goto 5, 3) := by decide +kernel
theorem dX11_executes_127 : decode cX11_executes 127 = .ok (.iload 4, 2) := by decide +kernel
theorem dX11_executes_129 : decode cX11_executes 129 = .ok (.invokevirtual 410, 3) := by decide +kernel
theorem dX11_executes_132 : decode cX11_executes 132 = .ok (.iload 4, 2) := by decide +kernel
theorem dX11_executes_134 : decode cX11_executes 134 = .ok (.iconst 1, 1) := by decide +kernel
theorem dX11_executes_135 : decode cX11_executes 135 = .ok (.iadd, 1) := by decide +kernel
theorem dX11_executes_136 : decode cX11_executes 136 = .ok (.aload_n 0, 1) := by decide +kernel
theorem dX11_executes_137 : decode cX11_executes 137 = .ok (.getfield 57, 3) := by decide +kernel
theorem dX11_executes_140 : decode cX11_executes 140 = .ok (.iload 4, 2) := by decide +kernel
theorem dX11_executes_142 : decode cX11_executes 142 = .ok (.iaload, 1) := by decide +kernel
theorem dX11_executes_143 : decode cX11_executes 143 = .ok (.iadd, 1) := by decide +kernel
theorem dX11_executes_144 : decode cX11_executes 144 = .ok (.ireturn, 1) := by decide +kernel
theorem dX11_executes_145 : decode cX11_executes 145 = .ok (.iload_n 2, 1) := by decide +kernel
theorem dX11_executes_146 : decode cX11_executes 146 = .ok (.iconst 3, 1) := by decide +kernel
theorem dX11_executes_147 : decode cX11_executes 147 = .ok (.if_icmp .ne 16, 3) := by decide +kernel
theorem dX11_executes_150 : decode cX11_executes 150 = .ok (.aload_n 0, 1) := by decide +kernel
theorem dX11_executes_151 : decode cX11_executes 151 = .ok (.iload_n 1, 1) := by decide +kernel
theorem dX11_executes_152 : decode cX11_executes 152 = .ok (.iconst 1, 1) := by decide +kernel
theorem dX11_executes_153 : decode cX11_executes 153 = .ok (.iadd, 1) := by decide +kernel
theorem dX11_executes_154 : decode cX11_executes 154 = .ok (.iload_n 3, 1) := by decide +kernel
theorem dX11_executes_155 : decode cX11_executes 155 = .ok (.invokevirtual 416, 3) := by decide +kernel
theorem dX11_executes_158 : decode cX11_executes 158 = .ok (.istore 4, 2) := by decide +kernel
theorem dX11_executes_160 : decode cX11_executes 160 = .ok (.goto 41, 3) := by decide +kernel
theorem dX11_executes_163 : decode cX11_executes 163 = .ok (.iload_n 2, 1) := by decide +kernel
theorem dX11_executes_164 : decode cX11_executes 164 = .ok (.ifCond .ne 13, 3) := by decide +kernel
theorem dX11_executes_167 : decode cX11_executes 167 = .ok (.aload_n 0, 1) := by decide +kernel
theorem dX11_executes_168 : decode cX11_executes 168 = .ok (.iload_n 1, 1) := by decide +kernel
theorem dX11_executes_169 : decode cX11_executes 169 = .ok (.iconst 1, 1) := by decide +kernel
theorem dX11_executes_170 : decode cX11_executes 170 = .ok (.iadd, 1) := by decide +kernel
theorem dX11_executes_171 : decode cX11_executes 171 = .ok (.invokevirtual 400, 3) := by decide +kernel
theorem dX11_executes_174 : decode cX11_executes 174 = .ok (.goto 25, 3) := by decide +kernel
theorem dX11_executes_177 : decode cX11_executes 177 = .ok (.iload_n 2, 1) := by decide +kernel
theorem dX11_executes_178 : decode cX11_executes 178 = .ok (.iconst 1, 1) := by decide +kernel
theorem dX11_executes_179 : decode cX11_executes 179 = .ok (.if_icmp .ne 13, 3) := by decide +kernel
theorem dX11_executes_182 : decode cX11_executes 182 = .ok (.aload_n 0, 1) := by decide +kernel
theorem dX11_executes_183 : decode cX11_executes 183 = .ok (.iload_n 1, 1) := by decide +kernel
theorem dX11_executes_184 : decode cX11_executes 184 = .ok (.iconst 1, 1) := by decide +kernel
theorem dX11_executes_185 : decode cX11_executes 185 = .ok (.iadd, 1) := by decide +kernel
theorem dX11_executes_186 : decode cX11_executes 186 = .ok (.invokevirtual 419, 3) := by decide +kernel
theorem dX11_executes_189 : decode cX11_executes 189 = .ok (.goto 10, 3) := by decide +kernel
theorem dX11_executes_192 : decode cX11_executes 192 = .ok (.aload_n 0, 1) := by decide +kernel
theorem dX11_executes_193 : decode cX11_executes 193 = .ok (.iload_n 1, 1) := by decide +kernel
theorem dX11_executes_194 : decode cX11_executes 194 = .ok (.iconst 1, 1) := by decide +kernel
theorem dX11_executes_195 : decode cX11_executes 195 = .ok (.iadd, 1) := by decide +kernel
theorem dX11_executes_196 : decode cX11_executes 196 = .ok (.invokevirtual 422, 3) := by decide +kernel
theorem dX11_executes_199 : decode cX11_executes 199 = .ok (.istore 4, 2) := by decide +kernel
theorem dX11_executes_201 : decode cX11_executes 201 = .ok (.aload_n 0, 1) := by decide +kernel
theorem dX11_executes_202 : decode cX11_executes 202 = .ok (.dup, 1) := by decide +kernel
theorem dX11_executes_203 : decode cX11_executes 203 = .ok (.getfield 425, 3) := by decide +kernel
theorem dX11_executes_206 : decode cX11_executes 206 = .ok (.iload 4, 2) := by decide +kernel
theorem dX11_executes_208 : decode cX11_executes 208 = .ok (.ifCond .eq 7, 3) := by decide +kernel
theorem dX11_executes_211 : decode cX11_executes 211 = .ok (.iconst 0, 1) := by decide +kernel
theorem dX11_executes_212 : decode cX11_executes 212 = .ok (.goto 4, 3) := by decide +kernel
theorem dX11_executes_215 : decode cX11_executes 215 = .ok (.iconst 1, 1) := by decide +kernel
theorem dX11_executes_216 : decode cX11_executes 216 = .ok (.iadd, 1) := by decide +kernel
theorem dX11_executes_217 : decode cX11_executes 217 = .ok (.putfield 425, 3) := by decide +kernel
theorem dX11_executes_220 : decode cX11_executes 220 = .ok (.iload_n 2, 1) := by decide +kernel
theorem dX11_executes_221 : decode cX11_executes 221 = .ok (.iconst 3, 1) := by decide +kernel
theorem dX11_executes_222 : decode cX11_executes 222 = .ok (.if_icmp .ne 11, 3) := by decide +kernel
theorem dX11_executes_225 : decode cX11_executes 225 = .ok (.aload_n 0, 1) := by decide +kernel
theorem dX11_executes_226 : decode cX11_executes 226 = .ok (.iload_n 3, 1) := by decide +kernel
theorem dX11_executes_227 : decode cX11_executes 227 = .ok (.invokevirtual 413, 3) := by decide +kernel
theorem dX11_executes_230 : decode cX11_executes 230 = .ok (.goto 4, 3) := by decide +kernel
theorem dX11_executes_233 : decode cX11_executes 233 = .ok (.iload_n 3, 1) := by decide +kernel
theorem dX11_executes_234 : decode cX11_executes 234 = .ok (.ireturn, 1) := by decide +kernel
theorem ci_X11_executes : Cond.instanceMethod yX11_executes ∈ TW := TW_of 1971 (by decide +kernel) (by decide +kernel)
theorem cs_X11_executes : Cond.selects yX11_executes.cls yX11_executes yX11_executes ∈ TW := TW_of 91 (by decide +kernel) (by decide +kernel)
abbrev cX11_executesBlock : ByteArray := prog_13_method_122_code
def yX11_executesBlock : MethodName := ⟨RX11, "executesBlock", "(I)V"⟩
theorem dX11_executesBlock_0 : decode cX11_executesBlock 0 = .ok (.iload_n 1, 1) := by decide +kernel
theorem dX11_executesBlock_1 : decode cX11_executesBlock 1 = .ok (.iconst 1, 1) := by decide +kernel
theorem dX11_executesBlock_2 : decode cX11_executesBlock 2 = .ok (.iadd, 1) := by decide +kernel
theorem dX11_executesBlock_3 : decode cX11_executesBlock 3 = .ok (.aload_n 0, 1) := by decide +kernel
theorem dX11_executesBlock_4 : decode cX11_executesBlock 4 = .ok (.getfield 57, 3) := by decide +kernel
theorem dX11_executesBlock_7 : decode cX11_executesBlock 7 = .ok (.iload_n 1, 1) := by decide +kernel
theorem dX11_executesBlock_8 : decode cX11_executesBlock 8 = .ok (.iaload, 1) := by decide +kernel
theorem dX11_executesBlock_9 : decode cX11_executesBlock 9 = .ok (.iadd, 1) := by decide +kernel
theorem dX11_executesBlock_10 : decode cX11_executesBlock 10 = .ok (.istore_n 2, 1) := by decide +kernel
theorem dX11_executesBlock_11 : decode cX11_executesBlock 11 = .ok (.iload_n 1, 1) := by decide +kernel
theorem dX11_executesBlock_12 : decode cX11_executesBlock 12 = .ok (.iconst 1, 1) := by decide +kernel
theorem dX11_executesBlock_13 : decode cX11_executesBlock 13 = .ok (.iadd, 1) := by decide +kernel
theorem dX11_executesBlock_14 : decode cX11_executesBlock 14 = .ok (.istore_n 3, 1) := by decide +kernel
theorem dX11_executesBlock_15 : decode cX11_executesBlock 15 = .ok (.iload_n 3, 1) := by decide +kernel
theorem dX11_executesBlock_16 : decode cX11_executesBlock 16 = .ok (.iload_n 2, 1) := by decide +kernel
theorem dX11_executesBlock_17 : decode cX11_executesBlock 17 = .ok (.if_icmp .ge 19, 3) := by decide +kernel
theorem dX11_executesBlock_20 : decode cX11_executesBlock 20 = .ok (.aload_n 0, 1) := by decide +kernel
theorem dX11_executesBlock_21 : decode cX11_executesBlock 21 = .ok (.getfield 406, 3) := by decide +kernel
theorem dX11_executesBlock_24 : decode cX11_executesBlock 24 = .ok (.ifCond .ne 12, 3) := by decide +kernel
theorem dX11_executesBlock_27 : decode cX11_executesBlock 27 = .ok (.aload_n 0, 1) := by decide +kernel
theorem dX11_executesBlock_28 : decode cX11_executesBlock 28 = .ok (.iload_n 3, 1) := by decide +kernel
theorem dX11_executesBlock_29 : decode cX11_executesBlock 29 = .ok (.invokevirtual 428, 3) := by decide +kernel
theorem dX11_executesBlock_32 : decode cX11_executesBlock 32 = .ok (.istore_n 3, 1) := by decide +kernel
theorem dX11_executesBlock_33 : decode cX11_executesBlock 33 = .ok (.goto (-18), 3) := by decide +kernel
theorem dX11_executesBlock_36 : decode cX11_executesBlock 36 = .ok (.return_, 1) := by decide +kernel
theorem ci_X11_executesBlock : Cond.instanceMethod yX11_executesBlock ∈ TW := TW_of 1975 (by decide +kernel) (by decide +kernel)
theorem cs_X11_executesBlock : Cond.selects yX11_executesBlock.cls yX11_executesBlock yX11_executesBlock ∈ TW := TW_of 92 (by decide +kernel) (by decide +kernel)
abbrev cX11_runScript : ByteArray := prog_13_method_123_code
def yX11_runScript : MethodName := ⟨RX11, "runScript", "()I"⟩
theorem dX11_runScript_0 : decode cX11_runScript 0 = .ok (.aload_n 0, 1) := by decide +kernel
theorem dX11_runScript_1 : decode cX11_runScript 1 = .ok (.iconst 0, 1) := by decide +kernel
theorem dX11_runScript_2 : decode cX11_runScript 2 = .ok (.putfield 3, 3) := by decide +kernel
theorem dX11_runScript_5 : decode cX11_runScript 5 = .ok (.aload_n 0, 1) := by decide +kernel
theorem dX11_runScript_6 : decode cX11_runScript 6 = .ok (.invokevirtual 390, 3) := by decide +kernel
theorem dX11_runScript_9 : decode cX11_runScript 9 = .ok (.aload_n 0, 1) := by decide +kernel
theorem dX11_runScript_10 : decode cX11_runScript 10 = .ok (.iconst 0, 1) := by decide +kernel
theorem dX11_runScript_11 : decode cX11_runScript 11 = .ok (.putfield 403, 3) := by decide +kernel
theorem dX11_runScript_14 : decode cX11_runScript 14 = .ok (.aload_n 0, 1) := by decide +kernel
theorem dX11_runScript_15 : decode cX11_runScript 15 = .ok (.iconst 0, 1) := by decide +kernel
theorem dX11_runScript_16 : decode cX11_runScript 16 = .ok (.putfield 425, 3) := by decide +kernel
theorem dX11_runScript_19 : decode cX11_runScript 19 = .ok (.aload_n 0, 1) := by decide +kernel
theorem dX11_runScript_20 : decode cX11_runScript 20 = .ok (.iconst 0, 1) := by decide +kernel
theorem dX11_runScript_21 : decode cX11_runScript 21 = .ok (.putfield 406, 3) := by decide +kernel
theorem dX11_runScript_24 : decode cX11_runScript 24 = .ok (.iconst 0, 1) := by decide +kernel
theorem dX11_runScript_25 : decode cX11_runScript 25 = .ok (.istore_n 1, 1) := by decide +kernel
theorem dX11_runScript_26 : decode cX11_runScript 26 = .ok (.iload_n 1, 1) := by decide +kernel
theorem dX11_runScript_27 : decode cX11_runScript 27 = .ok (.aload_n 0, 1) := by decide +kernel
theorem dX11_runScript_28 : decode cX11_runScript 28 = .ok (.getfield 272, 3) := by decide +kernel
theorem dX11_runScript_31 : decode cX11_runScript 31 = .ok (.if_icmp .ge 19, 3) := by decide +kernel
theorem dX11_runScript_34 : decode cX11_runScript 34 = .ok (.aload_n 0, 1) := by decide +kernel
theorem dX11_runScript_35 : decode cX11_runScript 35 = .ok (.getfield 406, 3) := by decide +kernel
theorem dX11_runScript_38 : decode cX11_runScript 38 = .ok (.ifCond .ne 12, 3) := by decide +kernel
theorem dX11_runScript_41 : decode cX11_runScript 41 = .ok (.aload_n 0, 1) := by decide +kernel
theorem dX11_runScript_42 : decode cX11_runScript 42 = .ok (.iload_n 1, 1) := by decide +kernel
theorem dX11_runScript_43 : decode cX11_runScript 43 = .ok (.invokevirtual 428, 3) := by decide +kernel
theorem dX11_runScript_46 : decode cX11_runScript 46 = .ok (.istore_n 1, 1) := by decide +kernel
theorem dX11_runScript_47 : decode cX11_runScript 47 = .ok (.goto (-21), 3) := by decide +kernel
theorem dX11_runScript_50 : decode cX11_runScript 50 = .ok (.aload_n 0, 1) := by decide +kernel
theorem dX11_runScript_51 : decode cX11_runScript 51 = .ok (.getfield 403, 3) := by decide +kernel
theorem dX11_runScript_54 : decode cX11_runScript 54 = .ok (.ireturn, 1) := by decide +kernel
theorem ci_X11_runScript : Cond.instanceMethod yX11_runScript ∈ TW := TW_of 1966 (by decide +kernel) (by decide +kernel)
theorem cs_X11_runScript : Cond.selects yX11_runScript.cls yX11_runScript yX11_runScript ∈ TW := TW_of 1967 (by decide +kernel) (by decide +kernel)
abbrev cX11_failed : ByteArray := prog_13_method_124_code
def yX11_failed : MethodName := ⟨RX11, "failed", "()I"⟩
theorem dX11_failed_0 : decode cX11_failed 0 = .ok (.aload_n 0, 1) := by decide +kernel
theorem dX11_failed_1 : decode cX11_failed 1 = .ok (.iconst 0, 1) := by decide +kernel
theorem dX11_failed_2 : decode cX11_failed 2 = .ok (.putfield 3, 3) := by decide +kernel
theorem dX11_failed_5 : decode cX11_failed 5 = .ok (.aload_n 0, 1) := by decide +kernel
theorem dX11_failed_6 : decode cX11_failed 6 = .ok (.getfield 425, 3) := by decide +kernel
theorem dX11_failed_9 : decode cX11_failed 9 = .ok (.ireturn, 1) := by decide +kernel
theorem ci_X11_failed : Cond.instanceMethod yX11_failed ∈ TW := TW_of 2002 (by decide +kernel) (by decide +kernel)
theorem cs_X11_failed : Cond.selects yX11_failed.cls yX11_failed yX11_failed ∈ TW := TW_of 2003 (by decide +kernel) (by decide +kernel)
abbrev cX11_wasStopped : ByteArray := prog_13_method_125_code
def yX11_wasStopped : MethodName := ⟨RX11, "wasStopped", "()Z"⟩
theorem dX11_wasStopped_0 : decode cX11_wasStopped 0 = .ok (.aload_n 0, 1) := by decide +kernel
theorem dX11_wasStopped_1 : decode cX11_wasStopped 1 = .ok (.iconst 0, 1) := by decide +kernel
theorem dX11_wasStopped_2 : decode cX11_wasStopped 2 = .ok (.putfield 3, 3) := by decide +kernel
theorem dX11_wasStopped_5 : decode cX11_wasStopped 5 = .ok (.aload_n 0, 1) := by decide +kernel
theorem dX11_wasStopped_6 : decode cX11_wasStopped 6 = .ok (.getfield 406, 3) := by decide +kernel
theorem dX11_wasStopped_9 : decode cX11_wasStopped 9 = .ok (.ireturn, 1) := by decide +kernel
theorem ci_X11_wasStopped : Cond.instanceMethod yX11_wasStopped ∈ TW := TW_of 2006 (by decide +kernel) (by decide +kernel)
theorem cs_X11_wasStopped : Cond.selects yX11_wasStopped.cls yX11_wasStopped yX11_wasStopped ∈ TW := TW_of 2007 (by decide +kernel) (by decide +kernel)
abbrev cX11_says : ByteArray := prog_13_method_126_code
def yX11_says : MethodName := ⟨RX11, "says", "(I)V"⟩
theorem dX11_says_0 : decode cX11_says 0 = .ok (.aload_n 0, 1) := by decide +kernel
theorem dX11_says_1 : decode cX11_says 1 = .ok (.getfield 72, 3) := by decide +kernel
theorem dX11_says_4 : decode cX11_says 4 = .ok (.aload_n 0, 1) := by decide +kernel
theorem dX11_says_5 : decode cX11_says 5 = .ok (.getfield 431, 3) := by decide +kernel
theorem dX11_says_8 : decode cX11_says 8 = .ok (.iload_n 1, 1) := by decide +kernel
theorem dX11_says_9 : decode cX11_says 9 = .ok (.i2b, 1) := by decide +kernel
theorem dX11_says_10 : decode cX11_says 10 = .ok (.bastore, 1) := by decide +kernel
theorem dX11_says_11 : decode cX11_says 11 = .ok (.aload_n 0, 1) := by decide +kernel
theorem dX11_says_12 : decode cX11_says 12 = .ok (.dup, 1) := by decide +kernel
theorem dX11_says_13 : decode cX11_says 13 = .ok (.getfield 431, 3) := by decide +kernel
theorem dX11_says_16 : decode cX11_says 16 = .ok (.iconst 1, 1) := by decide +kernel
theorem dX11_says_17 : decode cX11_says 17 = .ok (.iadd, 1) := by decide +kernel
theorem dX11_says_18 : decode cX11_says 18 = .ok (.putfield 431, 3) := by decide +kernel
theorem dX11_says_21 : decode cX11_says 21 = .ok (.return_, 1) := by decide +kernel
theorem ci_X11_says : Cond.instanceMethod yX11_says ∈ TW := TW_of 2015 (by decide +kernel) (by decide +kernel)
theorem cs_X11_says : Cond.selects yX11_says.cls yX11_says yX11_says ∈ TW := TW_of 99 (by decide +kernel) (by decide +kernel)
abbrev cX11_saysNumber : ByteArray := prog_13_method_127_code
def yX11_saysNumber : MethodName := ⟨RX11, "saysNumber", "(I)V"⟩
theorem dX11_saysNumber_0 : decode cX11_saysNumber 0 = .ok (.iload_n 1, 1) := by decide +kernel
theorem dX11_saysNumber_1 : decode cX11_saysNumber 1 = .ok (.bipush 9, 2) := by decide +kernel
theorem dX11_saysNumber_3 : decode cX11_saysNumber 3 = .ok (.if_icmp .le 11, 3) := by decide +kernel
theorem dX11_saysNumber_6 : decode cX11_saysNumber 6 = .ok (.aload_n 0, 1) := by decide +kernel
theorem dX11_saysNumber_7 : decode cX11_saysNumber 7 = .ok (.iload_n 1, 1) := by decide +kernel
theorem dX11_saysNumber_8 : decode cX11_saysNumber 8 = .ok (.bipush 10, 2) := by decide +kernel
theorem dX11_saysNumber_10 : decode cX11_saysNumber 10 = .ok (.idiv, 1) := by decide +kernel
theorem dX11_saysNumber_11 : decode cX11_saysNumber 11 = .ok (.invokevirtual 434, 3) := by decide +kernel
theorem dX11_saysNumber_14 : decode cX11_saysNumber 14 = .ok (.aload_n 0, 1) := by decide +kernel
theorem dX11_saysNumber_15 : decode cX11_saysNumber 15 = .ok (.bipush 48, 2) := by decide +kernel
theorem dX11_saysNumber_17 : decode cX11_saysNumber 17 = .ok (.iload_n 1, 1) := by decide +kernel
theorem dX11_saysNumber_18 : decode cX11_saysNumber 18 = .ok (.bipush 10, 2) := by decide +kernel
theorem dX11_saysNumber_20 : decode cX11_saysNumber 20 = .ok (.irem, 1) := by decide +kernel
theorem dX11_saysNumber_21 : decode cX11_saysNumber 21 = .ok (.iadd, 1) := by decide +kernel
theorem dX11_saysNumber_22 : decode cX11_saysNumber 22 = .ok (.invokevirtual 437, 3) := by decide +kernel
theorem dX11_saysNumber_25 : decode cX11_saysNumber 25 = .ok (.return_, 1) := by decide +kernel
theorem ci_X11_saysNumber : Cond.instanceMethod yX11_saysNumber ∈ TW := TW_of 2027 (by decide +kernel) (by decide +kernel)
theorem cs_X11_saysNumber : Cond.selects yX11_saysNumber.cls yX11_saysNumber yX11_saysNumber ∈ TW := TW_of 101 (by decide +kernel) (by decide +kernel)
abbrev cX11_saysName : ByteArray := prog_13_method_128_code
def yX11_saysName : MethodName := ⟨RX11, "saysName", "(I)V"⟩
theorem dX11_saysName_0 : decode cX11_saysName 0 = .ok (.iload_n 1, 1) := by decide +kernel
theorem dX11_saysName_1 : decode cX11_saysName 1 = .ok (.bipush 26, 2) := by decide +kernel
theorem dX11_saysName_3 : decode cX11_saysName 3 = .ok (.if_icmp .le 11, 3) := by decide +kernel
theorem dX11_saysName_6 : decode cX11_saysName 6 = .ok (.aload_n 0, 1) := by decide +kernel
theorem dX11_saysName_7 : decode cX11_saysName 7 = .ok (.iload_n 1, 1) := by decide +kernel
theorem dX11_saysName_8 : decode cX11_saysName 8 = .ok (.bipush 27, 2) := by decide +kernel
theorem dX11_saysName_10 : decode cX11_saysName 10 = .ok (.idiv, 1) := by decide +kernel
theorem dX11_saysName_11 : decode cX11_saysName 11 = .ok (.invokevirtual 440, 3) := by decide +kernel
theorem dX11_saysName_14 : decode cX11_saysName 14 = .ok (.aload_n 0, 1) := by decide +kernel
theorem dX11_saysName_15 : decode cX11_saysName 15 = .ok (.bipush 97, 2) := by decide +kernel
theorem dX11_saysName_17 : decode cX11_saysName 17 = .ok (.iload_n 1, 1) := by decide +kernel
theorem dX11_saysName_18 : decode cX11_saysName 18 = .ok (.bipush 27, 2) := by decide +kernel
theorem dX11_saysName_20 : decode cX11_saysName 20 = .ok (.irem, 1) := by decide +kernel
theorem dX11_saysName_21 : decode cX11_saysName 21 = .ok (.iadd, 1) := by decide +kernel
theorem dX11_saysName_22 : decode cX11_saysName 22 = .ok (.iconst 1, 1) := by decide +kernel
theorem dX11_saysName_23 : decode cX11_saysName 23 = .ok (.isub, 1) := by decide +kernel
theorem dX11_saysName_24 : decode cX11_saysName 24 = .ok (.invokevirtual 437, 3) := by decide +kernel
theorem dX11_saysName_27 : decode cX11_saysName 27 = .ok (.return_, 1) := by decide +kernel
theorem ci_X11_saysName : Cond.instanceMethod yX11_saysName ∈ TW := TW_of 2019 (by decide +kernel) (by decide +kernel)
theorem cs_X11_saysName : Cond.selects yX11_saysName.cls yX11_saysName yX11_saysName ∈ TW := TW_of 100 (by decide +kernel) (by decide +kernel)
abbrev cX11_formatTranscript : ByteArray := prog_13_method_129_code
def yX11_formatTranscript : MethodName := ⟨RX11, "formatTranscript", "()I"⟩
theorem dX11_formatTranscript_0 : decode cX11_formatTranscript 0 = .ok (.aload_n 0, 1) := by decide +kernel
theorem dX11_formatTranscript_1 : decode cX11_formatTranscript 1 = .ok (.iconst 0, 1) := by decide +kernel
theorem dX11_formatTranscript_2 : decode cX11_formatTranscript 2 = .ok (.putfield 3, 3) := by decide +kernel
theorem dX11_formatTranscript_5 : decode cX11_formatTranscript 5 = .ok (.aload_n 0, 1) := by decide +kernel
theorem dX11_formatTranscript_6 : decode cX11_formatTranscript 6 = .ok (.invokevirtual 359, 3) := by decide +kernel
theorem dX11_formatTranscript_9 : decode cX11_formatTranscript 9 = .ok (.aload_n 0, 1) := by decide +kernel
theorem dX11_formatTranscript_10 : decode cX11_formatTranscript 10 = .ok (.iconst 0, 1) := by decide +kernel
theorem dX11_formatTranscript_11 : decode cX11_formatTranscript 11 = .ok (.putfield 431, 3) := by decide +kernel
theorem dX11_formatTranscript_14 : decode cX11_formatTranscript 14 = .ok (.iconst 0, 1) := by decide +kernel
theorem dX11_formatTranscript_15 : decode cX11_formatTranscript 15 = .ok (.istore_n 1, 1) := by decide +kernel
theorem dX11_formatTranscript_16 : decode cX11_formatTranscript 16 = .ok (.iload_n 1, 1) := by decide +kernel
theorem dX11_formatTranscript_17 : decode cX11_formatTranscript 17 = .ok (.aload_n 0, 1) := by decide +kernel
theorem dX11_formatTranscript_18 : decode cX11_formatTranscript 18 = .ok (.getfield 356, 3) := by decide +kernel
theorem dX11_formatTranscript_21 : decode cX11_formatTranscript 21 = .ok (.if_icmp .ge 67, 3) := by decide +kernel
theorem dX11_formatTranscript_24 : decode cX11_formatTranscript 24 = .ok (.iload_n 1, 1) := by decide +kernel
theorem dX11_formatTranscript_25 : decode cX11_formatTranscript 25 = .ok (.ifCond .le 9, 3) := by decide +kernel
theorem dX11_formatTranscript_28 : decode cX11_formatTranscript 28 = .ok (.aload_n 0, 1) := by decide +kernel
theorem dX11_formatTranscript_29 : decode cX11_formatTranscript 29 = .ok (.bipush 32, 2) := by decide +kernel
theorem dX11_formatTranscript_31 : decode cX11_formatTranscript 31 = .ok (.invokevirtual 437, 3) := by decide +kernel
theorem dX11_formatTranscript_34 : decode cX11_formatTranscript 34 = .ok (.iload_n 1, 1) := by decide +kernel
theorem dX11_formatTranscript_35 : decode cX11_formatTranscript 35 = .ok (.ifCond .le 32, 3) := by decide +kernel
theorem dX11_formatTranscript_38 : decode cX11_formatTranscript 38 = .ok (.aload_n 0, 1) := by decide +kernel
theorem dX11_formatTranscript_39 : decode cX11_formatTranscript 39 = .ok (.getfield 66, 3) := by decide +kernel
theorem dX11_formatTranscript_42 : decode cX11_formatTranscript 42 = .ok (.iload_n 1, 1) := by decide +kernel
theorem dX11_formatTranscript_43 : decode cX11_formatTranscript 43 = .ok (.iaload, 1) := by decide +kernel
theorem dX11_formatTranscript_44 : decode cX11_formatTranscript 44 = .ok (.aload_n 0, 1) := by decide +kernel
theorem dX11_formatTranscript_45 : decode cX11_formatTranscript 45 = .ok (.getfield 66, 3) := by decide +kernel
theorem dX11_formatTranscript_48 : decode cX11_formatTranscript 48 = .ok (.iload_n 1, 1) := by decide +kernel
theorem dX11_formatTranscript_49 : decode cX11_formatTranscript 49 = .ok (.iconst 1, 1) := by decide +kernel
theorem dX11_formatTranscript_50 : decode cX11_formatTranscript 50 = .ok (.isub, 1) := by decide +kernel
theorem dX11_formatTranscript_51 : decode cX11_formatTranscript 51 = .ok (.iaload, 1) := by decide +kernel
theorem dX11_formatTranscript_52 : decode cX11_formatTranscript 52 = .ok (.if_icmp .eq 15, 3) := by decide +kernel
theorem dX11_formatTranscript_55 : decode cX11_formatTranscript 55 = .ok (.aload_n 0, 1) := by decide +kernel
theorem dX11_formatTranscript_56 : decode cX11_formatTranscript 56 = .ok (.bipush 47, 2) := by decide +kernel
theorem dX11_formatTranscript_58 : decode cX11_formatTranscript 58 = .ok (.invokevirtual 437, 3) := by decide +kernel
theorem dX11_formatTranscript_61 : decode cX11_formatTranscript 61 = .ok (.aload_n 0, 1) := by decide +kernel
theorem dX11_formatTranscript_62 : decode cX11_formatTranscript 62 = .ok (.bipush 32, 2) := by decide +kernel
theorem dX11_formatTranscript_64 : decode cX11_formatTranscript 64 = .ok (.invokevirtual 437, 3) := by decide +kernel
theorem dX11_formatTranscript_67 : decode cX11_formatTranscript 67 = .ok (.aload_n 0, 1) := by decide +kernel
theorem dX11_formatTranscript_68 : decode cX11_formatTranscript 68 = .ok (.aload_n 0, 1) := by decide +kernel
theorem dX11_formatTranscript_69 : decode cX11_formatTranscript 69 = .ok (.aload_n 0, 1) := by decide +kernel
theorem dX11_formatTranscript_70 : decode cX11_formatTranscript 70 = .ok (.getfield 63, 3) := by decide +kernel
theorem dX11_formatTranscript_73 : decode cX11_formatTranscript 73 = .ok (.iload_n 1, 1) := by decide +kernel
theorem dX11_formatTranscript_74 : decode cX11_formatTranscript 74 = .ok (.iaload, 1) := by decide +kernel
theorem dX11_formatTranscript_75 : decode cX11_formatTranscript 75 = .ok (.iconst 1, 1) := by decide +kernel
theorem dX11_formatTranscript_76 : decode cX11_formatTranscript 76 = .ok (.invokevirtual 94, 3) := by decide +kernel
theorem dX11_formatTranscript_79 : decode cX11_formatTranscript 79 = .ok (.invokevirtual 440, 3) := by decide +kernel
theorem dX11_formatTranscript_82 : decode cX11_formatTranscript 82 = .ok (.iinc 1 1, 3) := by decide +kernel
theorem dX11_formatTranscript_85 : decode cX11_formatTranscript 85 = .ok (.goto (-69), 3) := by decide +kernel
theorem dX11_formatTranscript_88 : decode cX11_formatTranscript 88 = .ok (.aload_n 0, 1) := by decide +kernel
theorem dX11_formatTranscript_89 : decode cX11_formatTranscript 89 = .ok (.getfield 431, 3) := by decide +kernel
theorem dX11_formatTranscript_92 : decode cX11_formatTranscript 92 = .ok (.ireturn, 1) := by decide +kernel
theorem ci_X11_formatTranscript : Cond.instanceMethod yX11_formatTranscript ∈ TW := TW_of 2010 (by decide +kernel) (by decide +kernel)
theorem cs_X11_formatTranscript : Cond.selects yX11_formatTranscript.cls yX11_formatTranscript yX11_formatTranscript ∈ TW := TW_of 2011 (by decide +kernel) (by decide +kernel)
abbrev cX11_formatShot : ByteArray := prog_13_method_130_code
def yX11_formatShot : MethodName := ⟨RX11, "formatShot", "(I)I"⟩
theorem dX11_formatShot_0 : decode cX11_formatShot 0 = .ok (.aload_n 0, 1) := by decide +kernel
theorem dX11_formatShot_1 : decode cX11_formatShot 1 = .ok (.iconst 0, 1) := by decide +kernel
theorem dX11_formatShot_2 : decode cX11_formatShot 2 = .ok (.putfield 3, 3) := by decide +kernel
theorem dX11_formatShot_5 : decode cX11_formatShot 5 = .ok (.aload_n 0, 1) := by decide +kernel
theorem dX11_formatShot_6 : decode cX11_formatShot 6 = .ok (.iload_n 1, 1) := by decide +kernel
theorem dX11_formatShot_7 : decode cX11_formatShot 7 = .ok (.invokevirtual 320, 3) := by decide +kernel
theorem dX11_formatShot_10 : decode cX11_formatShot 10 = .ok (.ifCond .eq 5, 3) := by decide +kernel
theorem dX11_formatShot_13 : decode cX11_formatShot 13 = .ok (.iconst 0, 1) := by decide +kernel
theorem dX11_formatShot_14 : decode cX11_formatShot 14 = .ok (.ireturn, 1) := by decide +kernel
theorem dX11_formatShot_15 : decode cX11_formatShot 15 = .ok (.aload_n 0, 1) := by decide +kernel
theorem dX11_formatShot_16 : decode cX11_formatShot 16 = .ok (.iconst 0, 1) := by decide +kernel
theorem dX11_formatShot_17 : decode cX11_formatShot 17 = .ok (.putfield 431, 3) := by decide +kernel
theorem dX11_formatShot_20 : decode cX11_formatShot 20 = .ok (.aload_n 0, 1) := by decide +kernel
theorem dX11_formatShot_21 : decode cX11_formatShot 21 = .ok (.iload_n 1, 1) := by decide +kernel
theorem dX11_formatShot_22 : decode cX11_formatShot 22 = .ok (.invokevirtual 311, 3) := by decide +kernel
theorem dX11_formatShot_25 : decode cX11_formatShot 25 = .ok (.istore_n 2, 1) := by decide +kernel
theorem dX11_formatShot_26 : decode cX11_formatShot 26 = .ok (.aload_n 0, 1) := by decide +kernel
theorem dX11_formatShot_27 : decode cX11_formatShot 27 = .ok (.bipush 115, 2) := by decide +kernel
theorem dX11_formatShot_29 : decode cX11_formatShot 29 = .ok (.invokevirtual 437, 3) := by decide +kernel
theorem dX11_formatShot_32 : decode cX11_formatShot 32 = .ok (.aload_n 0, 1) := by decide +kernel
theorem dX11_formatShot_33 : decode cX11_formatShot 33 = .ok (.iload_n 1, 1) := by decide +kernel
theorem dX11_formatShot_34 : decode cX11_formatShot 34 = .ok (.invokevirtual 434, 3) := by decide +kernel
theorem dX11_formatShot_37 : decode cX11_formatShot 37 = .ok (.aload_n 0, 1) := by decide +kernel
theorem dX11_formatShot_38 : decode cX11_formatShot 38 = .ok (.bipush 32, 2) := by decide +kernel
theorem dX11_formatShot_40 : decode cX11_formatShot 40 = .ok (.invokevirtual 437, 3) := by decide +kernel
theorem dX11_formatShot_43 : decode cX11_formatShot 43 = .ok (.aload_n 0, 1) := by decide +kernel
theorem dX11_formatShot_44 : decode cX11_formatShot 44 = .ok (.aload_n 0, 1) := by decide +kernel
theorem dX11_formatShot_45 : decode cX11_formatShot 45 = .ok (.iload_n 2, 1) := by decide +kernel
theorem dX11_formatShot_46 : decode cX11_formatShot 46 = .ok (.invokevirtual 308, 3) := by decide +kernel
theorem dX11_formatShot_49 : decode cX11_formatShot 49 = .ok (.invokevirtual 434, 3) := by decide +kernel
theorem dX11_formatShot_52 : decode cX11_formatShot 52 = .ok (.aload_n 0, 1) := by decide +kernel
theorem dX11_formatShot_53 : decode cX11_formatShot 53 = .ok (.bipush 45, 2) := by decide +kernel
theorem dX11_formatShot_55 : decode cX11_formatShot 55 = .ok (.invokevirtual 437, 3) := by decide +kernel
theorem dX11_formatShot_58 : decode cX11_formatShot 58 = .ok (.aload_n 0, 1) := by decide +kernel
theorem dX11_formatShot_59 : decode cX11_formatShot 59 = .ok (.aload_n 0, 1) := by decide +kernel
theorem dX11_formatShot_60 : decode cX11_formatShot 60 = .ok (.iload_n 2, 1) := by decide +kernel
theorem dX11_formatShot_61 : decode cX11_formatShot 61 = .ok (.invokevirtual 305, 3) := by decide +kernel
theorem dX11_formatShot_64 : decode cX11_formatShot 64 = .ok (.invokevirtual 434, 3) := by decide +kernel
theorem dX11_formatShot_67 : decode cX11_formatShot 67 = .ok (.aload_n 0, 1) := by decide +kernel
theorem dX11_formatShot_68 : decode cX11_formatShot 68 = .ok (.getfield 29, 3) := by decide +kernel
theorem dX11_formatShot_71 : decode cX11_formatShot 71 = .ok (.iload_n 2, 1) := by decide +kernel
theorem dX11_formatShot_72 : decode cX11_formatShot 72 = .ok (.iaload, 1) := by decide +kernel
theorem dX11_formatShot_73 : decode cX11_formatShot 73 = .ok (.istore_n 3, 1) := by decide +kernel
theorem dX11_formatShot_74 : decode cX11_formatShot 74 = .ok (.iload_n 3, 1) := by decide +kernel
theorem dX11_formatShot_75 : decode cX11_formatShot 75 = .ok (.aload_n 0, 1) := by decide +kernel
theorem dX11_formatShot_76 : decode cX11_formatShot 76 = .ok (.getfield 29, 3) := by decide +kernel
theorem dX11_formatShot_79 : decode cX11_formatShot 79 = .ok (.iload_n 2, 1) := by decide +kernel
theorem dX11_formatShot_80 : decode cX11_formatShot 80 = .ok (.iconst 1, 1) := by decide +kernel
theorem dX11_formatShot_81 : decode cX11_formatShot 81 = .ok (.iadd, 1) := by decide +kernel
theorem dX11_formatShot_82 : decode cX11_formatShot 82 = .ok (.iaload, 1) := by decide +kernel
theorem dX11_formatShot_83 : decode cX11_formatShot 83 = .ok (.if_icmp .ge 76, 3) := by decide +kernel
theorem dX11_formatShot_86 : decode cX11_formatShot 86 = .ok (.aload_n 0, 1) := by decide +kernel
theorem dX11_formatShot_87 : decode cX11_formatShot 87 = .ok (.bipush 32, 2) := by decide +kernel
theorem dX11_formatShot_89 : decode cX11_formatShot 89 = .ok (.invokevirtual 437, 3) := by decide +kernel
theorem dX11_formatShot_92 : decode cX11_formatShot 92 = .ok (.aload_n 0, 1) := by decide +kernel
theorem dX11_formatShot_93 : decode cX11_formatShot 93 = .ok (.aload_n 0, 1) := by decide +kernel
theorem dX11_formatShot_94 : decode cX11_formatShot 94 = .ok (.getfield 13, 3) := by decide +kernel
theorem dX11_formatShot_97 : decode cX11_formatShot 97 = .ok (.iconst 5, 1) := by decide +kernel
theorem dX11_formatShot_98 : decode cX11_formatShot 98 = .ok (.aload_n 0, 1) := by decide +kernel
theorem dX11_formatShot_99 : decode cX11_formatShot 99 = .ok (.iload_n 3, 1) := by decide +kernel
theorem dX11_formatShot_100 : decode cX11_formatShot 100 = .ok (.iconst 0, 1) := by decide +kernel
theorem dX11_formatShot_101 : decode cX11_formatShot 101 = .ok (.invokevirtual 94, 3) := by decide +kernel
theorem dX11_formatShot_104 : decode cX11_formatShot 104 = .ok (.iadd, 1) := by decide +kernel
theorem dX11_formatShot_105 : decode cX11_formatShot 105 = .ok (.iaload, 1) := by decide +kernel
theorem dX11_formatShot_106 : decode cX11_formatShot 106 = .ok (.invokevirtual 440, 3) := by decide +kernel
theorem dX11_formatShot_109 : decode cX11_formatShot 109 = .ok (.aload_n 0, 1) := by decide +kernel
theorem dX11_formatShot_110 : decode cX11_formatShot 110 = .ok (.bipush 58, 2) := by decide +kernel
theorem dX11_formatShot_112 : decode cX11_formatShot 112 = .ok (.invokevirtual 437, 3) := by decide +kernel
theorem dX11_formatShot_115 : decode cX11_formatShot 115 = .ok (.aload_n 0, 1) := by decide +kernel
theorem dX11_formatShot_116 : decode cX11_formatShot 116 = .ok (.iload_n 3, 1) := by decide +kernel
theorem dX11_formatShot_117 : decode cX11_formatShot 117 = .ok (.invokevirtual 275, 3) := by decide +kernel
theorem dX11_formatShot_120 : decode cX11_formatShot 120 = .ok (.ifCond .ne 9, 3) := by decide +kernel
theorem dX11_formatShot_123 : decode cX11_formatShot 123 = .ok (.aload_n 0, 1) := by decide +kernel
theorem dX11_formatShot_124 : decode cX11_formatShot 124 = .ok (.bipush 91, 2) := by decide +kernel
theorem dX11_formatShot_126 : decode cX11_formatShot 126 = .ok (.invokevirtual 437, 3) := by decide +kernel
theorem dX11_formatShot_129 : decode cX11_formatShot 129 = .ok (.aload_n 0, 1) := by decide +kernel
theorem dX11_formatShot_130 : decode cX11_formatShot 130 = .ok (.aload_n 0, 1) := by decide +kernel
theorem dX11_formatShot_131 : decode cX11_formatShot 131 = .ok (.iload_n 3, 1) := by decide +kernel
theorem dX11_formatShot_132 : decode cX11_formatShot 132 = .ok (.iconst 1, 1) := by decide +kernel
theorem dX11_formatShot_133 : decode cX11_formatShot 133 = .ok (.invokevirtual 94, 3) := by decide +kernel
theorem dX11_formatShot_136 : decode cX11_formatShot 136 = .ok (.invokevirtual 440, 3) := by decide +kernel
theorem dX11_formatShot_139 : decode cX11_formatShot 139 = .ok (.aload_n 0, 1) := by decide +kernel
theorem dX11_formatShot_140 : decode cX11_formatShot 140 = .ok (.iload_n 3, 1) := by decide +kernel
theorem dX11_formatShot_141 : decode cX11_formatShot 141 = .ok (.invokevirtual 275, 3) := by decide +kernel
theorem dX11_formatShot_144 : decode cX11_formatShot 144 = .ok (.ifCond .ne 9, 3) := by decide +kernel
theorem dX11_formatShot_147 : decode cX11_formatShot 147 = .ok (.aload_n 0, 1) := by decide +kernel
theorem dX11_formatShot_148 : decode cX11_formatShot 148 = .ok (.bipush 93, 2) := by decide +kernel
theorem dX11_formatShot_150 : decode cX11_formatShot 150 = .ok (.invokevirtual 437, 3) := by decide +kernel
theorem dX11_formatShot_153 : decode cX11_formatShot 153 = .ok (.iinc 3 1, 3) := by decide +kernel
theorem dX11_formatShot_156 : decode cX11_formatShot 156 = .ok (.goto (-82), 3) := by decide +kernel
theorem dX11_formatShot_159 : decode cX11_formatShot 159 = .ok (.aload_n 0, 1) := by decide +kernel
theorem dX11_formatShot_160 : decode cX11_formatShot 160 = .ok (.getfield 431, 3) := by decide +kernel
theorem dX11_formatShot_163 : decode cX11_formatShot 163 = .ok (.ireturn, 1) := by decide +kernel
theorem ci_X11_formatShot : Cond.instanceMethod yX11_formatShot ∈ TW := TW_of 2022 (by decide +kernel) (by decide +kernel)
theorem cs_X11_formatShot : Cond.selects yX11_formatShot.cls yX11_formatShot yX11_formatShot ∈ TW := TW_of 2023 (by decide +kernel) (by decide +kernel)
abbrev cX11_formattedByte : ByteArray := prog_13_method_131_code
def yX11_formattedByte : MethodName := ⟨RX11, "formattedByte", "(I)I"⟩
theorem dX11_formattedByte_0 : decode cX11_formattedByte 0 = .ok (.aload_n 0, 1) := by decide +kernel
theorem dX11_formattedByte_1 : decode cX11_formattedByte 1 = .ok (.iconst 0, 1) := by decide +kernel
theorem dX11_formattedByte_2 : decode cX11_formattedByte 2 = .ok (.putfield 3, 3) := by decide +kernel
theorem dX11_formattedByte_5 : decode cX11_formattedByte 5 = .ok (.iload_n 1, 1) := by decide +kernel
theorem dX11_formattedByte_6 : decode cX11_formattedByte 6 = .ok (.iconst 0, 1) := by decide +kernel
theorem dX11_formattedByte_7 : decode cX11_formattedByte 7 = .ok (.aload_n 0, 1) := by decide +kernel
theorem dX11_formattedByte_8 : decode cX11_formattedByte 8 = .ok (.getfield 431, 3) := by decide +kernel
theorem dX11_formattedByte_11 : decode cX11_formattedByte 11 = .ok (.iconst 1, 1) := by decide +kernel
theorem dX11_formattedByte_12 : decode cX11_formattedByte 12 = .ok (.isub, 1) := by decide +kernel
theorem dX11_formattedByte_13 : decode cX11_formattedByte 13 = .ok (.invokestatic 166, 3) := by decide +kernel
theorem dX11_formattedByte_16 : decode cX11_formattedByte 16 = .ok (.ifCond .eq 12, 3) := by decide +kernel
theorem dX11_formattedByte_19 : decode cX11_formattedByte 19 = .ok (.aload_n 0, 1) := by decide +kernel
theorem dX11_formattedByte_20 : decode cX11_formattedByte 20 = .ok (.getfield 72, 3) := by decide +kernel
theorem dX11_formattedByte_23 : decode cX11_formattedByte 23 = .ok (.iload_n 1, 1) := by decide +kernel
theorem dX11_formattedByte_24 : decode cX11_formattedByte 24 = .ok (.baload, 1) := by decide +kernel
theorem dX11_formattedByte_25 : decode cX11_formattedByte 25 = .ok (.goto 4, 3) := by decide +kernel
theorem dX11_formattedByte_28 : decode cX11_formattedByte 28 = .ok (.iconst (-1), 1) := by decide +kernel
theorem dX11_formattedByte_29 : decode cX11_formattedByte 29 = .ok (.ireturn, 1) := by decide +kernel
theorem ci_X11_formattedByte : Cond.instanceMethod yX11_formattedByte ∈ TW := TW_of 2030 (by decide +kernel) (by decide +kernel)
theorem cs_X11_formattedByte : Cond.selects yX11_formattedByte.cls yX11_formattedByte yX11_formattedByte ∈ TW := TW_of 2031 (by decide +kernel) (by decide +kernel)
theorem cw_X11_410 : CWd RX11 410 yX11_executesBlock cX11_executesBlock 4 none 1 := ⟨TW_of 1973 (by decide +kernel) (by decide +kernel), TW_of 1976 (by decide +kernel) (by decide +kernel), TW_of 112 (by decide +kernel) (by decide +kernel), by decide +kernel⟩
theorem cw_X11_413 : CWd RX11 413 yX11_phraseEnd cX11_phraseEnd 2 (some .int) 1 := ⟨TW_of 1977 (by decide +kernel) (by decide +kernel), TW_of 1980 (by decide +kernel) (by decide +kernel), TW_of 112 (by decide +kernel) (by decide +kernel), by decide +kernel⟩
theorem cw_X11_416 : CWd RX11 416 yX11_movesPhrase cX11_movesPhrase 8 (some .boolean) 2 := ⟨TW_of 1985 (by decide +kernel) (by decide +kernel), TW_of 1988 (by decide +kernel) (by decide +kernel), TW_of 112 (by decide +kernel) (by decide +kernel), by decide +kernel⟩
theorem cw_X11_419 : CWd RX11 419 yX11_cleans cX11_cleans 3 (some .boolean) 1 := ⟨TW_of 1993 (by decide +kernel) (by decide +kernel), TW_of 1996 (by decide +kernel) (by decide +kernel), TW_of 112 (by decide +kernel) (by decide +kernel), by decide +kernel⟩
theorem cw_X11_422 : CWd RX11 422 yX11_restoresPhrase cX11_restoresPhrase 7 (some .boolean) 1 := ⟨TW_of 1997 (by decide +kernel) (by decide +kernel), TW_of 2000 (by decide +kernel) (by decide +kernel), TW_of 112 (by decide +kernel) (by decide +kernel), by decide +kernel⟩
theorem cw_X11_428 : CWd RX11 428 yX11_executes cX11_executes 5 (some .int) 1 := ⟨TW_of 1969 (by decide +kernel) (by decide +kernel), TW_of 1972 (by decide +kernel) (by decide +kernel), TW_of 112 (by decide +kernel) (by decide +kernel), by decide +kernel⟩
theorem cw_X11_434 : CWd RX11 434 yX11_saysNumber cX11_saysNumber 2 none 1 := ⟨TW_of 2025 (by decide +kernel) (by decide +kernel), TW_of 2028 (by decide +kernel) (by decide +kernel), TW_of 112 (by decide +kernel) (by decide +kernel), by decide +kernel⟩
theorem cw_X11_437 : CWd RX11 437 yX11_says cX11_says 2 none 1 := ⟨TW_of 2013 (by decide +kernel) (by decide +kernel), TW_of 2016 (by decide +kernel) (by decide +kernel), TW_of 112 (by decide +kernel) (by decide +kernel), by decide +kernel⟩
theorem cw_X11_440 : CWd RX11 440 yX11_saysName cX11_saysName 2 none 1 := ⟨TW_of 2017 (by decide +kernel) (by decide +kernel), TW_of 2020 (by decide +kernel) (by decide +kernel), TW_of 112 (by decide +kernel) (by decide +kernel), by decide +kernel⟩
set_option maxRecDepth 20000 in
set_option maxHeartbeats 1000000 in
theorem c_X11_movesPhrase {l : Launch} {Z : ZT} {h : Hp} {g : Hp} {p1 : Int32} {p2 : Int32} {out : Int32 × Hp} (hf : f_X11_movesPhrase g p1 p2 = some out) : Met l yX11_movesPhrase (wY yX11_movesPhrase cX11_movesPhrase 8 (some .boolean)) (rmD 3) (va_Pc [.ref (Z.1 125), .int p1, .int p2] (Wd Z h g)) (va_Qi (fun r (_ : Unit) => r = out.1) (fun _ => Wd Z h out.2) (FR Z)) 0 0 (FR Z) := by
  refine metX RX11 rfl (by decide +kernel) (Nat.le_of_ble_eq_true rfl) ?_
  intro p e s m args below meth c C hW ls hl
  have hl : lv_has ls 8 [(0, .ref (Z.1 125)), (1, .int p1), (2, .int p2)] := hl
  unfold f_X11_movesPhrase at hf
  refine lv_aload_n C.1 C.2.1 dX11_movesPhrase_0 rfl (lv_at hl 0 rfl) ?_
  refine lv_iload_n C.1 C.2.1 dX11_movesPhrase_1 rfl (lv_at hl 1 rfl) ?_
  obtain ⟨u1, hcu1, hf⟩ := bnd_t hf
  refine x_calli hW (x_runV C hW hl (wk9 (k_125)) rfl rfl (c_X11_find hcu1) (cw_X11_397) ci_X11_find cs_X11_find (rm_ok (by decide) (by decide)) ⟨Nat.le_refl _, Nat.le_refl _⟩ (As := [.int p1]) rfl rfl (Nat.le_of_ble_eq_true rfl) dX11_movesPhrase_2) (fun H locs hW => ?_)
  refine lv_istore_n (lv' := [(3, .int u1.1), (0, .ref (Z.1 125)), (1, .int p1), (2, .int p2)]) C.1 C.2.1 dX11_movesPhrase_5 rfl hl (by decide) rfl (fun ls hl => ?_)
  refine lv_aload_n C.1 C.2.1 dX11_movesPhrase_6 rfl (lv_at hl 1 rfl) ?_
  refine lv_iload_n C.1 C.2.1 dX11_movesPhrase_7 rfl (lv_at hl 3 rfl) ?_
  obtain ⟨u2, hcu2, hf⟩ := bnd_t hf
  refine x_calli hW (x_runV C hW hl (wk9 (k_125)) rfl rfl (c_X11_find hcu2) (cw_X11_397) ci_X11_find cs_X11_find (rm_ok (by decide) (by decide)) ⟨Nat.le_refl _, Nat.le_refl _⟩ (As := [.int p2]) rfl rfl (Nat.le_of_ble_eq_true rfl) dX11_movesPhrase_8) (fun H locs hW => ?_)
  refine lv_istore (lv' := [(4, .int u2.1), (3, .int u1.1), (0, .ref (Z.1 125)), (1, .int p1), (2, .int p2)]) C.1 C.2.1 dX11_movesPhrase_11 hl (by decide) rfl (fun ls hl => ?_)
  refine lv_iload_n C.1 C.2.1 dX11_movesPhrase_13 rfl (lv_at hl 1 rfl) ?_
  refine lv_iconst (v := -1) C.1 C.2.1 dX11_movesPhrase_14 (by decide) ?_
  refine x_cmpeq (tgt := 24) C hf dX11_movesPhrase_15 (by decide) (fun hf => ?_) (fun hf => ?_)
  · refine lv_iconst (v := 0) C.1 C.2.1 dX11_movesPhrase_24 (by decide) ?_
    obtain rfl := Option.some.inj hf
    exact x_zret C hW (by decide) dX11_movesPhrase_25 rfl
  · refine lv_iload C.1 C.2.1 dX11_movesPhrase_18 (lv_at hl 0 rfl) ?_
    refine lv_iconst (v := -1) C.1 C.2.1 dX11_movesPhrase_20 (by decide) ?_
    refine x_cmpne (tgt := 26) C hf dX11_movesPhrase_21 (by decide) (fun hf => ?_) (fun hf => ?_)
    · refine lv_aload_n C.1 C.2.1 dX11_movesPhrase_26 rfl (lv_at hl 2 rfl) ?_
      refine xg_X11_66 C hW (k_125) dX11_movesPhrase_27 ?_
      refine lv_iload_n C.1 C.2.1 dX11_movesPhrase_30 rfl (lv_at hl 1 rfl) ?_
      refine x_ialdM C hW a_142 hf dX11_movesPhrase_31 (fun hf => ?_)
      refine x_ist C hf dX11_movesPhrase_32 hl (by decide) (fun v3 => [(5, .int v3), (4, .int u2.1), (3, .int u1.1), (0, .ref (Z.1 125)), (1, .int p1), (2, .int p2)]) (fun _ => rfl) (fun v3 ls hf hl => ?_)
      refine lv_aload_n C.1 C.2.1 dX11_movesPhrase_34 rfl (lv_at hl 3 rfl) ?_
      refine xg_X11_66 C hW (k_125) dX11_movesPhrase_35 ?_
      refine lv_iload_n C.1 C.2.1 dX11_movesPhrase_38 rfl (lv_at hl 2 rfl) ?_
      refine lv_aload_n C.1 C.2.1 dX11_movesPhrase_39 rfl (lv_at hl 3 rfl) ?_
      refine xg_X11_57 C hW (k_125) dX11_movesPhrase_40 ?_
      refine lv_iload_n C.1 C.2.1 dX11_movesPhrase_43 rfl (lv_at hl 4 rfl) ?_
      refine x_ialdM C hW a_139 hf dX11_movesPhrase_44 (fun hf => ?_)
      refine lv_iadd C.1 C.2.1 dX11_movesPhrase_45 ?_
      refine lv_iconst (v := 1) C.1 C.2.1 dX11_movesPhrase_46 (by decide) ?_
      refine lv_isub C.1 C.2.1 dX11_movesPhrase_47 ?_
      refine x_ialdM C hW a_142 hf dX11_movesPhrase_48 (fun hf => ?_)
      refine x_ist C hf dX11_movesPhrase_49 hl (by decide) (fun v4 => [(6, .int v4), (5, .int v3), (4, .int u2.1), (3, .int u1.1), (0, .ref (Z.1 125)), (1, .int p1), (2, .int p2)]) (fun _ => rfl) (fun v4 ls hf hl => ?_)
      refine lv_aload_n C.1 C.2.1 dX11_movesPhrase_51 rfl (lv_at hl 4 rfl) ?_
      refine xg_X11_66 C hW (k_125) dX11_movesPhrase_52 ?_
      refine lv_iload C.1 C.2.1 dX11_movesPhrase_55 (lv_at hl 2 rfl) ?_
      refine lv_aload_n C.1 C.2.1 dX11_movesPhrase_57 rfl (lv_at hl 4 rfl) ?_
      refine xg_X11_57 C hW (k_125) dX11_movesPhrase_58 ?_
      refine lv_iload_n C.1 C.2.1 dX11_movesPhrase_61 rfl (lv_at hl 6 rfl) ?_
      refine x_ialdM C hW a_139 hf dX11_movesPhrase_62 (fun hf => ?_)
      refine lv_iadd C.1 C.2.1 dX11_movesPhrase_63 ?_
      refine lv_iconst (v := 1) C.1 C.2.1 dX11_movesPhrase_64 (by decide) ?_
      refine lv_isub C.1 C.2.1 dX11_movesPhrase_65 ?_
      refine x_ialdM C hW a_142 hf dX11_movesPhrase_66 (fun hf => ?_)
      refine x_ist C hf dX11_movesPhrase_67 hl (by decide) (fun v5 => [(7, .int v5), (6, .int v4), (5, .int v3), (4, .int u2.1), (3, .int u1.1), (0, .ref (Z.1 125)), (1, .int p1), (2, .int p2)]) (fun _ => rfl) (fun v5 ls hf hl => ?_)
      refine lv_iload C.1 C.2.1 dX11_movesPhrase_69 (lv_at hl 0 rfl) ?_
      refine lv_iload C.1 C.2.1 dX11_movesPhrase_71 (lv_at hl 2 rfl) ?_
      refine lv_iload C.1 C.2.1 dX11_movesPhrase_73 (lv_at hl 1 rfl) ?_
      obtain ⟨u6, hcu6, hf⟩ := bnd_t hf
      refine x_calli hW (x_runS C hW hl (c_X11_in hcu6) (cw_X11_166) ct_X11_in (rm_ok (by decide) (by decide)) ⟨Nat.le_refl _, Nat.le_refl _⟩ (As := [.int v5, .int v3, .int v4]) rfl rfl (Nat.le_of_ble_eq_true rfl) dX11_movesPhrase_75) (fun H locs hW => ?_)
      refine x_ifeq (tgt := 83) C hf dX11_movesPhrase_78 (by decide) (fun hf => ?_) (fun hf => ?_)
      · refine lv_aload_n C.1 C.2.1 dX11_movesPhrase_83 rfl (lv_at hl 5 rfl) ?_
        refine lv_iload C.1 C.2.1 dX11_movesPhrase_84 (lv_at hl 2 rfl) ?_
        refine lv_iload C.1 C.2.1 dX11_movesPhrase_86 (lv_at hl 1 rfl) ?_
        refine lv_iload C.1 C.2.1 dX11_movesPhrase_88 (lv_at hl 0 rfl) ?_
        obtain ⟨u7, hcu7, hf⟩ := bnd_t hf
        refine x_calli hW (x_runV C hW hl (wk9 (k_125)) rfl rfl (c_X11_movesAll hcu7) (cw_X11_393) ci_X11_movesAll cs_X11_movesAll (rm_ok (by decide) (by decide)) ⟨Nat.le_refl _, Nat.le_refl _⟩ (As := [.int v3, .int v4, .int v5]) rfl rfl (Nat.le_of_ble_eq_true rfl) dX11_movesPhrase_90) (fun H locs hW => ?_)
        refine x_iflt (tgt := 100) C hf dX11_movesPhrase_93 (by decide) (fun hf => ?_) (fun hf => ?_)
        · refine lv_iconst (v := 0) C.1 C.2.1 dX11_movesPhrase_100 (by decide) ?_
          obtain rfl := Option.some.inj hf
          exact x_zret C hW (by decide) dX11_movesPhrase_101 rfl
        · refine lv_iconst (v := 1) C.1 C.2.1 dX11_movesPhrase_96 (by decide) ?_
          refine lv_goto (tgt := 101) C.1 C.2.1 dX11_movesPhrase_97 (by decide) ?_
          obtain rfl := Option.some.inj hf
          exact x_zret C hW (by decide) dX11_movesPhrase_101 rfl
      · refine lv_iconst (v := 0) C.1 C.2.1 dX11_movesPhrase_81 (by decide) ?_
        obtain rfl := Option.some.inj hf
        exact x_zret C hW (by decide) dX11_movesPhrase_82 rfl
    · refine lv_iconst (v := 0) C.1 C.2.1 dX11_movesPhrase_24 (by decide) ?_
      obtain rfl := Option.some.inj hf
      exact x_zret C hW (by decide) dX11_movesPhrase_25 rfl
set_option maxRecDepth 20000 in
set_option maxHeartbeats 1000000 in
theorem j_X11_executes_216 {l : Launch} {Z : ZT} {h : Hp} {n0 : Nat} {cf_X11_executes : Hp → Int32 → Option (Int32 × Hp)} {cf_X11_executesBlock : Hp → Int32 → Option (Hp)} {p1 : Int32} {g : Hp} {x2 : Int32} {x3 : Int32} {s1 : Int32} {s2 : Int32} {p : Program} {e : Env} {s : State} {m : MethodId} {args : Array Value} {below : List Frame} {meth : Method} {c : Code} (C : CX p s m args meth c cX11_executes RX11 5 (some .int) Z) {out : Int32 × Hp} (hcf_X11_executes : ∀ {h g : Hp} {p1 : Int32} {out : Int32 × Hp}, cf_X11_executes g p1 = some out → Met l yX11_executes (wY yX11_executes cX11_executes 5 (some .int)) (rmD (6 + n0)) (va_Pc [.ref (Z.1 125), .int p1] (Wd Z h g)) (va_Qi (fun r (_ : Unit) => r = out.1) (fun _ => Wd Z h out.2) (FR Z)) 0 0 (FR Z)) (hcf_X11_executesBlock : ∀ {h g : Hp} {p1 : Int32} {out : Hp}, cf_X11_executesBlock g p1 = some out → Met l yX11_executesBlock (wY yX11_executesBlock cX11_executesBlock 4 none) (rmD (6 + n0)) (va_Pc [.ref (Z.1 125), .int p1] (Wd Z h g)) (va_Qv (fun (_ : Unit) => True) (fun _ => Wd Z h out) (FR Z)) 0 0 (FR Z)) {ls : Array Slot} {H : Heap} {locs : List Loc} (hW : XW Z h g s.heap H locs) (hl : lv_has ls 5 [(0, .ref (Z.1 125)), (1, .int p1), (2, .int x2), (3, .int x3)]) (hf : J_X11_executes_216 cf_X11_executes cf_X11_executesBlock p1 g x2 x3 s1 s2 = some out) : W p l e (rmD (6 + n0 + 1)) s m args below meth c H locs 0 0 (MQ below (va_Qi (fun r (_ : Unit) => r = out.1) (fun _ => Wd Z h out.2) (FR Z)) args s 0 0 (FR Z)) (F0 m 216 ls [.int s2, .int s1, .ref (Z.1 125)]) := by
  rw [J_X11_executes_216] at hf
  refine lv_iadd C.1 C.2.1 dX11_executes_216 ?_
  refine xp_X11_425 C hW (k_125) hf dX11_executes_217 (fun g1 H locs hf hW => ?_)
  refine lv_iload_n C.1 C.2.1 dX11_executes_220 rfl (lv_at hl 2 rfl) ?_
  refine lv_iconst (v := 3) C.1 C.2.1 dX11_executes_221 (by decide) ?_
  refine x_cmpne (tgt := 233) C hf dX11_executes_222 (by decide) (fun hf => ?_) (fun hf => ?_)
  · refine lv_iload_n C.1 C.2.1 dX11_executes_233 rfl (lv_at hl 3 rfl) ?_
    obtain rfl := Option.some.inj hf
    exact x_iret C hW dX11_executes_234 rfl
  · refine lv_aload_n C.1 C.2.1 dX11_executes_225 rfl (lv_at hl 0 rfl) ?_
    refine lv_iload_n C.1 C.2.1 dX11_executes_226 rfl (lv_at hl 3 rfl) ?_
    obtain ⟨u2, hcu2, hf⟩ := bnd_t hf
    refine x_calli hW (x_runV C hW hl (wk9 (k_125)) rfl rfl (c_X11_phraseEnd hcu2) (cw_X11_413) ci_X11_phraseEnd cs_X11_phraseEnd (rm_ok (by omega) (by decide)) ⟨Nat.le_refl _, Nat.le_refl _⟩ (As := [.int x3]) rfl rfl (Nat.le_of_ble_eq_true rfl) dX11_executes_227) (fun H locs hW => ?_)
    refine lv_goto (tgt := 234) C.1 C.2.1 dX11_executes_230 (by decide) ?_
    obtain rfl := Option.some.inj hf
    exact x_iret C hW dX11_executes_234 rfl
set_option maxRecDepth 20000 in
set_option maxHeartbeats 1000000 in
theorem j_X11_executes_201 {l : Launch} {Z : ZT} {h : Hp} {n0 : Nat} {cf_X11_executes : Hp → Int32 → Option (Int32 × Hp)} {cf_X11_executesBlock : Hp → Int32 → Option (Hp)} {p1 : Int32} {g : Hp} {x2 : Int32} {x3 : Int32} {x4 : Int32} {p : Program} {e : Env} {s : State} {m : MethodId} {args : Array Value} {below : List Frame} {meth : Method} {c : Code} (C : CX p s m args meth c cX11_executes RX11 5 (some .int) Z) {out : Int32 × Hp} (hcf_X11_executes : ∀ {h g : Hp} {p1 : Int32} {out : Int32 × Hp}, cf_X11_executes g p1 = some out → Met l yX11_executes (wY yX11_executes cX11_executes 5 (some .int)) (rmD (6 + n0)) (va_Pc [.ref (Z.1 125), .int p1] (Wd Z h g)) (va_Qi (fun r (_ : Unit) => r = out.1) (fun _ => Wd Z h out.2) (FR Z)) 0 0 (FR Z)) (hcf_X11_executesBlock : ∀ {h g : Hp} {p1 : Int32} {out : Hp}, cf_X11_executesBlock g p1 = some out → Met l yX11_executesBlock (wY yX11_executesBlock cX11_executesBlock 4 none) (rmD (6 + n0)) (va_Pc [.ref (Z.1 125), .int p1] (Wd Z h g)) (va_Qv (fun (_ : Unit) => True) (fun _ => Wd Z h out) (FR Z)) 0 0 (FR Z)) {ls : Array Slot} {H : Heap} {locs : List Loc} (hW : XW Z h g s.heap H locs) (hl : lv_has ls 5 [(0, .ref (Z.1 125)), (1, .int p1), (2, .int x2), (3, .int x3), (4, .int x4)]) (hf : J_X11_executes_201 cf_X11_executes cf_X11_executesBlock p1 g x2 x3 x4 = some out) : W p l e (rmD (6 + n0 + 1)) s m args below meth c H locs 0 0 (MQ below (va_Qi (fun r (_ : Unit) => r = out.1) (fun _ => Wd Z h out.2) (FR Z)) args s 0 0 (FR Z)) (F0 m 201 ls []) := by
  refine lv_aload_n C.1 C.2.1 dX11_executes_201 rfl (lv_at hl 0 rfl) ?_
  refine lv_dup C.1 C.2.1 dX11_executes_202 rfl ?_
  refine xg_X11_425 C hW (k_125) dX11_executes_203 ?_
  refine lv_iload C.1 C.2.1 dX11_executes_206 (lv_at hl 4 rfl) ?_
  refine x_ifeq (tgt := 215) C hf dX11_executes_208 (by decide) (fun hf => ?_) (fun hf => ?_)
  · refine lv_iconst (v := 1) C.1 C.2.1 dX11_executes_215 (by decide) ?_
    exact j_X11_executes_216 C hcf_X11_executes hcf_X11_executesBlock hW (lv_sub hl [0, 1, 2, 3] rfl) hf
  · refine lv_iconst (v := 0) C.1 C.2.1 dX11_executes_211 (by decide) ?_
    refine lv_goto (tgt := 216) C.1 C.2.1 dX11_executes_212 (by decide) ?_
    exact j_X11_executes_216 C hcf_X11_executes hcf_X11_executesBlock hW (lv_sub hl [0, 1, 2, 3] rfl) hf
set_option maxRecDepth 20000 in
set_option maxHeartbeats 1000000 in
theorem j_X11_executes_199 {l : Launch} {Z : ZT} {h : Hp} {n0 : Nat} {cf_X11_executes : Hp → Int32 → Option (Int32 × Hp)} {cf_X11_executesBlock : Hp → Int32 → Option (Hp)} {p1 : Int32} {g : Hp} {x2 : Int32} {x3 : Int32} {s0 : Int32} {p : Program} {e : Env} {s : State} {m : MethodId} {args : Array Value} {below : List Frame} {meth : Method} {c : Code} (C : CX p s m args meth c cX11_executes RX11 5 (some .int) Z) {out : Int32 × Hp} (hcf_X11_executes : ∀ {h g : Hp} {p1 : Int32} {out : Int32 × Hp}, cf_X11_executes g p1 = some out → Met l yX11_executes (wY yX11_executes cX11_executes 5 (some .int)) (rmD (6 + n0)) (va_Pc [.ref (Z.1 125), .int p1] (Wd Z h g)) (va_Qi (fun r (_ : Unit) => r = out.1) (fun _ => Wd Z h out.2) (FR Z)) 0 0 (FR Z)) (hcf_X11_executesBlock : ∀ {h g : Hp} {p1 : Int32} {out : Hp}, cf_X11_executesBlock g p1 = some out → Met l yX11_executesBlock (wY yX11_executesBlock cX11_executesBlock 4 none) (rmD (6 + n0)) (va_Pc [.ref (Z.1 125), .int p1] (Wd Z h g)) (va_Qv (fun (_ : Unit) => True) (fun _ => Wd Z h out) (FR Z)) 0 0 (FR Z)) {ls : Array Slot} {H : Heap} {locs : List Loc} (hW : XW Z h g s.heap H locs) (hl : lv_has ls 5 [(0, .ref (Z.1 125)), (1, .int p1), (2, .int x2), (3, .int x3)]) (hf : J_X11_executes_199 cf_X11_executes cf_X11_executesBlock p1 g x2 x3 s0 = some out) : W p l e (rmD (6 + n0 + 1)) s m args below meth c H locs 0 0 (MQ below (va_Qi (fun r (_ : Unit) => r = out.1) (fun _ => Wd Z h out.2) (FR Z)) args s 0 0 (FR Z)) (F0 m 199 ls [.int s0]) := by
  refine lv_istore (lv' := [(4, .int s0), (0, .ref (Z.1 125)), (1, .int p1), (2, .int x2), (3, .int x3)]) C.1 C.2.1 dX11_executes_199 hl (by decide) rfl (fun ls hl => ?_)
  exact j_X11_executes_201 C hcf_X11_executes hcf_X11_executesBlock hW (lv_sub hl [1, 2, 3, 4, 0] rfl) hf
set_option maxRecDepth 20000 in
set_option maxHeartbeats 1000000 in
theorem j_X11_executes_129 {l : Launch} {Z : ZT} {h : Hp} {n0 : Nat} {cf_X11_executes : Hp → Int32 → Option (Int32 × Hp)} {cf_X11_executesBlock : Hp → Int32 → Option (Hp)} {p1 : Int32} {g : Hp} {x4 : Int32} {s1 : Int32} {p : Program} {e : Env} {s : State} {m : MethodId} {args : Array Value} {below : List Frame} {meth : Method} {c : Code} (C : CX p s m args meth c cX11_executes RX11 5 (some .int) Z) {out : Int32 × Hp} (hcf_X11_executes : ∀ {h g : Hp} {p1 : Int32} {out : Int32 × Hp}, cf_X11_executes g p1 = some out → Met l yX11_executes (wY yX11_executes cX11_executes 5 (some .int)) (rmD (6 + n0)) (va_Pc [.ref (Z.1 125), .int p1] (Wd Z h g)) (va_Qi (fun r (_ : Unit) => r = out.1) (fun _ => Wd Z h out.2) (FR Z)) 0 0 (FR Z)) (hcf_X11_executesBlock : ∀ {h g : Hp} {p1 : Int32} {out : Hp}, cf_X11_executesBlock g p1 = some out → Met l yX11_executesBlock (wY yX11_executesBlock cX11_executesBlock 4 none) (rmD (6 + n0)) (va_Pc [.ref (Z.1 125), .int p1] (Wd Z h g)) (va_Qv (fun (_ : Unit) => True) (fun _ => Wd Z h out) (FR Z)) 0 0 (FR Z)) {ls : Array Slot} {H : Heap} {locs : List Loc} (hW : XW Z h g s.heap H locs) (hl : lv_has ls 5 [(0, .ref (Z.1 125)), (1, .int p1), (4, .int x4)]) (hf : J_X11_executes_129 cf_X11_executes cf_X11_executesBlock p1 g x4 s1 = some out) : W p l e (rmD (6 + n0 + 1)) s m args below meth c H locs 0 0 (MQ below (va_Qi (fun r (_ : Unit) => r = out.1) (fun _ => Wd Z h out.2) (FR Z)) args s 0 0 (FR Z)) (F0 m 129 ls [.int s1, .ref (Z.1 125)]) := by
  rw [J_X11_executes_129] at hf
  obtain ⟨u3, hcu3, hf⟩ := bnd_t hf
  refine x_callv hW (x_runV C hW hl (wk9 (k_125)) rfl rfl (hcf_X11_executesBlock hcu3) (cw_X11_410) ci_X11_executesBlock cs_X11_executesBlock (rm_ok (by omega) (by decide)) ⟨Nat.le_refl _, Nat.le_refl _⟩ (As := [.int s1]) rfl rfl (Nat.le_of_ble_eq_true rfl) dX11_executes_129) (fun H locs hW => ?_)
  refine lv_iload C.1 C.2.1 dX11_executes_132 (lv_at hl 2 rfl) ?_
  refine lv_iconst (v := 1) C.1 C.2.1 dX11_executes_134 (by decide) ?_
  refine lv_iadd C.1 C.2.1 dX11_executes_135 ?_
  refine lv_aload_n C.1 C.2.1 dX11_executes_136 rfl (lv_at hl 0 rfl) ?_
  refine xg_X11_57 C hW (k_125) dX11_executes_137 ?_
  refine lv_iload C.1 C.2.1 dX11_executes_140 (lv_at hl 2 rfl) ?_
  refine x_ialdM C hW a_139 hf dX11_executes_142 (fun hf => ?_)
  refine lv_iadd C.1 C.2.1 dX11_executes_143 ?_
  obtain rfl := Option.some.inj hf
  exact x_iret C hW dX11_executes_144 rfl
set_option maxRecDepth 20000 in
set_option maxHeartbeats 1000000 in
theorem j_X11_executes_73 {l : Launch} {Z : ZT} {h : Hp} {n0 : Nat} {cf_X11_executes : Hp → Int32 → Option (Int32 × Hp)} {cf_X11_executesBlock : Hp → Int32 → Option (Hp)} {p1 : Int32} {g : Hp} {p : Program} {e : Env} {s : State} {m : MethodId} {args : Array Value} {below : List Frame} {meth : Method} {c : Code} (C : CX p s m args meth c cX11_executes RX11 5 (some .int) Z) {out : Int32 × Hp} (hcf_X11_executes : ∀ {h g : Hp} {p1 : Int32} {out : Int32 × Hp}, cf_X11_executes g p1 = some out → Met l yX11_executes (wY yX11_executes cX11_executes 5 (some .int)) (rmD (6 + n0)) (va_Pc [.ref (Z.1 125), .int p1] (Wd Z h g)) (va_Qi (fun r (_ : Unit) => r = out.1) (fun _ => Wd Z h out.2) (FR Z)) 0 0 (FR Z)) (hcf_X11_executesBlock : ∀ {h g : Hp} {p1 : Int32} {out : Hp}, cf_X11_executesBlock g p1 = some out → Met l yX11_executesBlock (wY yX11_executesBlock cX11_executesBlock 4 none) (rmD (6 + n0)) (va_Pc [.ref (Z.1 125), .int p1] (Wd Z h g)) (va_Qv (fun (_ : Unit) => True) (fun _ => Wd Z h out) (FR Z)) 0 0 (FR Z)) {ls : Array Slot} {H : Heap} {locs : List Loc} (hW : XW Z h g s.heap H locs) (hl : lv_has ls 5 [(0, .ref (Z.1 125)), (1, .int p1)]) (hf : J_X11_executes_73 cf_X11_executes cf_X11_executesBlock p1 g = some out) : W p l e (rmD (6 + n0 + 1)) s m args below meth c H locs 0 0 (MQ below (va_Qi (fun r (_ : Unit) => r = out.1) (fun _ => Wd Z h out.2) (FR Z)) args s 0 0 (FR Z)) (F0 m 73 ls []) := by
  refine lv_iload_n C.1 C.2.1 dX11_executes_73 rfl (lv_at hl 1 rfl) ?_
  refine lv_iconst (v := 3) C.1 C.2.1 dX11_executes_74 (by decide) ?_
  refine lv_iadd C.1 C.2.1 dX11_executes_75 ?_
  refine lv_aload_n C.1 C.2.1 dX11_executes_76 rfl (lv_at hl 0 rfl) ?_
  refine xg_X11_57 C hW (k_125) dX11_executes_77 ?_
  refine lv_iload_n C.1 C.2.1 dX11_executes_80 rfl (lv_at hl 1 rfl) ?_
  refine lv_iconst (v := 2) C.1 C.2.1 dX11_executes_81 (by decide) ?_
  refine lv_iadd C.1 C.2.1 dX11_executes_82 ?_
  refine x_ialdM C hW a_139 hf dX11_executes_83 (fun hf => ?_)
  refine lv_iadd C.1 C.2.1 dX11_executes_84 ?_
  obtain rfl := Option.some.inj hf
  exact x_iret C hW dX11_executes_85 rfl
set_option maxRecDepth 20000 in
set_option maxHeartbeats 1000000 in
theorem l_X11_executes_41 {l : Launch} {Z : ZT} {h : Hp} {n0 : Nat} {cf_X11_executes : Hp → Int32 → Option (Int32 × Hp)} {cf_X11_executesBlock : Hp → Int32 → Option (Hp)} {p1 : Int32} {p : Program} {e : Env} {s : State} {m : MethodId} {args : Array Value} {below : List Frame} {meth : Method} {c : Code} (C : CX p s m args meth c cX11_executes RX11 5 (some .int) Z) {out : Int32 × Hp} (hcf_X11_executes : ∀ {h g : Hp} {p1 : Int32} {out : Int32 × Hp}, cf_X11_executes g p1 = some out → Met l yX11_executes (wY yX11_executes cX11_executes 5 (some .int)) (rmD (6 + n0)) (va_Pc [.ref (Z.1 125), .int p1] (Wd Z h g)) (va_Qi (fun r (_ : Unit) => r = out.1) (fun _ => Wd Z h out.2) (FR Z)) 0 0 (FR Z)) (hcf_X11_executesBlock : ∀ {h g : Hp} {p1 : Int32} {out : Hp}, cf_X11_executesBlock g p1 = some out → Met l yX11_executesBlock (wY yX11_executesBlock cX11_executesBlock 4 none) (rmD (6 + n0)) (va_Pc [.ref (Z.1 125), .int p1] (Wd Z h g)) (va_Qv (fun (_ : Unit) => True) (fun _ => Wd Z h out) (FR Z)) 0 0 (FR Z)) : ∀ (n : Nat) (x3 : Int32) (g : Hp) (ls : Array Slot) (H : Heap) (locs : List Loc), XW Z h g s.heap H locs → lv_has ls 5 [(0, .ref (Z.1 125)), (1, .int p1), (3, .int x3)] → Lp (F_X11_executes_41 cf_X11_executes cf_X11_executesBlock p1) n (x3, g) = some out → W p l e (rmD (6 + n0 + 1)) s m args below meth c H locs 0 0 (MQ below (va_Qi (fun r (_ : Unit) => r = out.1) (fun _ => Wd Z h out.2) (FR Z)) args s 0 0 (FR Z)) (F0 m 41 ls []) := by
  intro n
  induction n with
  | zero => intro x3 g ls H locs hW hl hf; cases hf
  | succ n ih =>
    intro x3 g ls H locs hW hl hf
    rw [Lp_s] at hf
    refine lv_iload_n C.1 C.2.1 dX11_executes_41 rfl (lv_at hl 2 rfl) ?_
    refine lv_aload_n C.1 C.2.1 dX11_executes_42 rfl (lv_at hl 0 rfl) ?_
    refine xg_X11_57 C hW (k_125) dX11_executes_43 ?_
    refine lv_iload_n C.1 C.2.1 dX11_executes_46 rfl (lv_at hl 1 rfl) ?_
    refine lv_iconst (v := 1) C.1 C.2.1 dX11_executes_47 (by decide) ?_
    refine lv_iadd C.1 C.2.1 dX11_executes_48 ?_
    refine x_ialdM C hW a_139 hf dX11_executes_49 (fun hf => ?_)
    refine x_cmpge (tgt := 73) C hf dX11_executes_50 (by decide) (fun hf => ?_) (fun hf => ?_)
    · exact j_X11_executes_73 C hcf_X11_executes hcf_X11_executesBlock hW (lv_sub hl [0, 1] rfl) hf
    · refine lv_aload_n C.1 C.2.1 dX11_executes_53 rfl (lv_at hl 0 rfl) ?_
      refine xg_X11_406 C hW (k_125) dX11_executes_54 ?_
      refine x_ifne (tgt := 73) C hf dX11_executes_57 (by decide) (fun hf => ?_) (fun hf => ?_)
      · exact j_X11_executes_73 C hcf_X11_executes hcf_X11_executesBlock hW (lv_sub hl [0, 1] rfl) hf
      · refine lv_aload_n C.1 C.2.1 dX11_executes_60 rfl (lv_at hl 0 rfl) ?_
        refine lv_iload_n C.1 C.2.1 dX11_executes_61 rfl (lv_at hl 1 rfl) ?_
        refine lv_iconst (v := 2) C.1 C.2.1 dX11_executes_62 (by decide) ?_
        refine lv_iadd C.1 C.2.1 dX11_executes_63 ?_
        obtain ⟨u4, hcu4, hf⟩ := bnd_t hf
        refine x_callv hW (x_runV C hW hl (wk9 (k_125)) rfl rfl (hcf_X11_executesBlock hcu4) (cw_X11_410) ci_X11_executesBlock cs_X11_executesBlock (rm_ok (by omega) (by decide)) ⟨Nat.le_refl _, Nat.le_refl _⟩ (As := [.int (p1 + (2 : Int32))]) rfl rfl (Nat.le_of_ble_eq_true rfl) dX11_executes_64) (fun H locs hW => ?_)
        refine x_iinc (w := 1) C hf dX11_executes_67 hl (k := 2) rfl (by decide) (by decide) (fun v5 => [(3, .int v5), (0, .ref (Z.1 125)), (1, .int p1)]) (fun _ => rfl) (fun v5 ls hf hl => ?_)
        refine lv_goto (tgt := 41) C.1 C.2.1 dX11_executes_70 (by decide) ?_
        exact ih v5 u4 ls _ _ hW (lv_sub hl [1, 2, 0] rfl) hf
set_option maxRecDepth 20000 in
set_option maxHeartbeats 1000000 in
theorem b_X11_executes {l : Launch} {Z : ZT} {h : Hp} {n0 : Nat} {cf_X11_executes : Hp → Int32 → Option (Int32 × Hp)} {cf_X11_executesBlock : Hp → Int32 → Option (Hp)} {g : Hp} {p1 : Int32} (hcf_X11_executes : ∀ {h g : Hp} {p1 : Int32} {out : Int32 × Hp}, cf_X11_executes g p1 = some out → Met l yX11_executes (wY yX11_executes cX11_executes 5 (some .int)) (rmD (6 + n0)) (va_Pc [.ref (Z.1 125), .int p1] (Wd Z h g)) (va_Qi (fun r (_ : Unit) => r = out.1) (fun _ => Wd Z h out.2) (FR Z)) 0 0 (FR Z)) (hcf_X11_executesBlock : ∀ {h g : Hp} {p1 : Int32} {out : Hp}, cf_X11_executesBlock g p1 = some out → Met l yX11_executesBlock (wY yX11_executesBlock cX11_executesBlock 4 none) (rmD (6 + n0)) (va_Pc [.ref (Z.1 125), .int p1] (Wd Z h g)) (va_Qv (fun (_ : Unit) => True) (fun _ => Wd Z h out) (FR Z)) 0 0 (FR Z)) {out : Int32 × Hp} (hf : B_X11_executes cf_X11_executes cf_X11_executesBlock g p1 = some out) : Met l yX11_executes (wY yX11_executes cX11_executes 5 (some .int)) (rmD (6 + n0 + 1)) (va_Pc [.ref (Z.1 125), .int p1] (Wd Z h g)) (va_Qi (fun r (_ : Unit) => r = out.1) (fun _ => Wd Z h out.2) (FR Z)) 0 0 (FR Z) := by
  refine metX RX11 rfl (by decide +kernel) (Nat.le_of_ble_eq_true rfl) ?_
  intro p e s m args below meth c C hW ls hl
  have hl : lv_has ls 5 [(0, .ref (Z.1 125)), (1, .int p1)] := hl
  unfold B_X11_executes at hf
  refine lv_aload_n C.1 C.2.1 dX11_executes_0 rfl (lv_at hl 0 rfl) ?_
  refine xg_X11_403 C hW (k_125) dX11_executes_1 ?_
  refine lv_sipush (v := 200) C.1 C.2.1 dX11_executes_4 (by decide) ?_
  refine x_cmpne (tgt := 17) C hf dX11_executes_7 (by decide) (fun hf => ?_) (fun hf => ?_)
  · refine lv_aload_n C.1 C.2.1 dX11_executes_17 rfl (lv_at hl 0 rfl) ?_
    refine lv_dup C.1 C.2.1 dX11_executes_18 rfl ?_
    refine xg_X11_403 C hW (k_125) dX11_executes_19 ?_
    refine lv_iconst (v := 1) C.1 C.2.1 dX11_executes_22 (by decide) ?_
    refine lv_iadd C.1 C.2.1 dX11_executes_23 ?_
    refine xp_X11_403 C hW (k_125) hf dX11_executes_24 (fun g6 H locs hf hW => ?_)
    refine lv_aload_n C.1 C.2.1 dX11_executes_27 rfl (lv_at hl 0 rfl) ?_
    refine xg_X11_57 C hW (k_125) dX11_executes_28 ?_
    refine lv_iload_n C.1 C.2.1 dX11_executes_31 rfl (lv_at hl 1 rfl) ?_
    refine x_ialdM C hW a_139 hf dX11_executes_32 (fun hf => ?_)
    refine x_istn C hf dX11_executes_33 rfl hl (by decide) (fun v7 => [(2, .int v7), (0, .ref (Z.1 125)), (1, .int p1)]) (fun _ => rfl) (fun v7 ls hf hl => ?_)
    refine lv_iload_n C.1 C.2.1 dX11_executes_34 rfl (lv_at hl 0 rfl) ?_
    refine lv_iconst (v := 5) C.1 C.2.1 dX11_executes_35 (by decide) ?_
    refine x_cmpne (tgt := 86) C hf dX11_executes_36 (by decide) (fun hf => ?_) (fun hf => ?_)
    · refine lv_aload_n C.1 C.2.1 dX11_executes_86 rfl (lv_at hl 1 rfl) ?_
      refine lv_iload_n C.1 C.2.1 dX11_executes_87 rfl (lv_at hl 2 rfl) ?_
      refine lv_iconst (v := 1) C.1 C.2.1 dX11_executes_88 (by decide) ?_
      refine lv_iadd C.1 C.2.1 dX11_executes_89 ?_
      obtain ⟨u8, hcu8, hf⟩ := bnd_t hf
      refine x_calli hW (x_runV C hW hl (wk9 (k_125)) rfl rfl (c_X11_phraseEnd hcu8) (cw_X11_413) ci_X11_phraseEnd cs_X11_phraseEnd (rm_ok (by omega) (by decide)) ⟨Nat.le_refl _, Nat.le_refl _⟩ (As := [.int (p1 + (1 : Int32))]) rfl rfl (Nat.le_of_ble_eq_true rfl) dX11_executes_90) (fun H locs hW => ?_)
      refine lv_istore_n (lv' := [(3, .int u8), (2, .int v7), (0, .ref (Z.1 125)), (1, .int p1)]) C.1 C.2.1 dX11_executes_93 rfl hl (by decide) rfl (fun ls hl => ?_)
      refine lv_iload_n C.1 C.2.1 dX11_executes_94 rfl (lv_at hl 1 rfl) ?_
      refine lv_iconst (v := 4) C.1 C.2.1 dX11_executes_95 (by decide) ?_
      refine x_cmpne (tgt := 145) C hf dX11_executes_96 (by decide) (fun hf => ?_) (fun hf => ?_)
      · refine lv_iload_n C.1 C.2.1 dX11_executes_145 rfl (lv_at hl 1 rfl) ?_
        refine lv_iconst (v := 3) C.1 C.2.1 dX11_executes_146 (by decide) ?_
        refine x_cmpne (tgt := 163) C hf dX11_executes_147 (by decide) (fun hf => ?_) (fun hf => ?_)
        · refine lv_iload_n C.1 C.2.1 dX11_executes_163 rfl (lv_at hl 1 rfl) ?_
          refine x_ifne (tgt := 177) C hf dX11_executes_164 (by decide) (fun hf => ?_) (fun hf => ?_)
          · refine lv_iload_n C.1 C.2.1 dX11_executes_177 rfl (lv_at hl 1 rfl) ?_
            refine lv_iconst (v := 1) C.1 C.2.1 dX11_executes_178 (by decide) ?_
            refine x_cmpne (tgt := 192) C hf dX11_executes_179 (by decide) (fun hf => ?_) (fun hf => ?_)
            · refine lv_aload_n C.1 C.2.1 dX11_executes_192 rfl (lv_at hl 2 rfl) ?_
              refine lv_iload_n C.1 C.2.1 dX11_executes_193 rfl (lv_at hl 3 rfl) ?_
              refine lv_iconst (v := 1) C.1 C.2.1 dX11_executes_194 (by decide) ?_
              refine lv_iadd C.1 C.2.1 dX11_executes_195 ?_
              obtain ⟨u9, hcu9, hf⟩ := bnd_t hf
              refine x_calli hW (x_runV C hW hl (wk9 (k_125)) rfl rfl (c_X11_restoresPhrase hcu9) (cw_X11_422) ci_X11_restoresPhrase cs_X11_restoresPhrase (rm_ok (by omega) (by decide)) ⟨Nat.le_refl _, Nat.le_refl _⟩ (As := [.int (p1 + (1 : Int32))]) rfl rfl (Nat.le_of_ble_eq_true rfl) dX11_executes_196) (fun H locs hW => ?_)
              exact j_X11_executes_199 C hcf_X11_executes hcf_X11_executesBlock hW (lv_sub hl [2, 3, 1, 0] rfl) hf
            · refine lv_aload_n C.1 C.2.1 dX11_executes_182 rfl (lv_at hl 2 rfl) ?_
              refine lv_iload_n C.1 C.2.1 dX11_executes_183 rfl (lv_at hl 3 rfl) ?_
              refine lv_iconst (v := 1) C.1 C.2.1 dX11_executes_184 (by decide) ?_
              refine lv_iadd C.1 C.2.1 dX11_executes_185 ?_
              obtain ⟨u10, hcu10, hf⟩ := bnd_t hf
              refine x_calli hW (x_runV C hW hl (wk9 (k_125)) rfl rfl (c_X11_cleans hcu10) (cw_X11_419) ci_X11_cleans cs_X11_cleans (rm_ok (by omega) (by decide)) ⟨Nat.le_refl _, Nat.le_refl _⟩ (As := [.int (p1 + (1 : Int32))]) rfl rfl (Nat.le_of_ble_eq_true rfl) dX11_executes_186) (fun H locs hW => ?_)
              refine lv_goto (tgt := 199) C.1 C.2.1 dX11_executes_189 (by decide) ?_
              exact j_X11_executes_199 C hcf_X11_executes hcf_X11_executesBlock hW (lv_sub hl [2, 3, 1, 0] rfl) hf
          · refine lv_aload_n C.1 C.2.1 dX11_executes_167 rfl (lv_at hl 2 rfl) ?_
            refine lv_iload_n C.1 C.2.1 dX11_executes_168 rfl (lv_at hl 3 rfl) ?_
            refine lv_iconst (v := 1) C.1 C.2.1 dX11_executes_169 (by decide) ?_
            refine lv_iadd C.1 C.2.1 dX11_executes_170 ?_
            obtain ⟨u11, hcu11, hf⟩ := bnd_t hf
            refine x_calli hW (x_runV C hW hl (wk9 (k_125)) rfl rfl (c_X11_cutsPhrase hcu11) (cw_X11_400) ci_X11_cutsPhrase cs_X11_cutsPhrase (rm_ok (by omega) (by decide)) ⟨Nat.le_refl _, Nat.le_refl _⟩ (As := [.int (p1 + (1 : Int32))]) rfl rfl (Nat.le_of_ble_eq_true rfl) dX11_executes_171) (fun H locs hW => ?_)
            refine lv_goto (tgt := 199) C.1 C.2.1 dX11_executes_174 (by decide) ?_
            exact j_X11_executes_199 C hcf_X11_executes hcf_X11_executesBlock hW (lv_sub hl [2, 3, 1, 0] rfl) hf
        · refine lv_aload_n C.1 C.2.1 dX11_executes_150 rfl (lv_at hl 2 rfl) ?_
          refine lv_iload_n C.1 C.2.1 dX11_executes_151 rfl (lv_at hl 3 rfl) ?_
          refine lv_iconst (v := 1) C.1 C.2.1 dX11_executes_152 (by decide) ?_
          refine lv_iadd C.1 C.2.1 dX11_executes_153 ?_
          refine lv_iload_n C.1 C.2.1 dX11_executes_154 rfl (lv_at hl 0 rfl) ?_
          obtain ⟨u12, hcu12, hf⟩ := bnd_t hf
          refine x_calli hW (x_runV C hW hl (wk9 (k_125)) rfl rfl (c_X11_movesPhrase hcu12) (cw_X11_416) ci_X11_movesPhrase cs_X11_movesPhrase (rm_ok (by omega) (by decide)) ⟨Nat.le_refl _, Nat.le_refl _⟩ (As := [.int (p1 + (1 : Int32)), .int u8]) rfl rfl (Nat.le_of_ble_eq_true rfl) dX11_executes_155) (fun H locs hW => ?_)
          refine lv_istore (lv' := [(4, .int u12.1), (3, .int u8), (2, .int v7), (0, .ref (Z.1 125)), (1, .int p1)]) C.1 C.2.1 dX11_executes_158 hl (by decide) rfl (fun ls hl => ?_)
          refine lv_goto (tgt := 201) C.1 C.2.1 dX11_executes_160 (by decide) ?_
          exact j_X11_executes_201 C hcf_X11_executes hcf_X11_executesBlock hW (lv_sub hl [3, 4, 2, 1, 0] rfl) hf
      · refine lv_iload_n C.1 C.2.1 dX11_executes_99 rfl (lv_at hl 0 rfl) ?_
        refine lv_iconst (v := 1) C.1 C.2.1 dX11_executes_100 (by decide) ?_
        refine lv_iadd C.1 C.2.1 dX11_executes_101 ?_
        refine lv_aload_n C.1 C.2.1 dX11_executes_102 rfl (lv_at hl 2 rfl) ?_
        refine xg_X11_57 C hW (k_125) dX11_executes_103 ?_
        refine lv_iload_n C.1 C.2.1 dX11_executes_106 rfl (lv_at hl 0 rfl) ?_
        refine x_ialdM C hW a_139 hf dX11_executes_107 (fun hf => ?_)
        refine lv_iadd C.1 C.2.1 dX11_executes_108 ?_
        refine x_ist C hf dX11_executes_109 hl (by decide) (fun v13 => [(4, .int v13), (3, .int u8), (2, .int v7), (0, .ref (Z.1 125)), (1, .int p1)]) (fun _ => rfl) (fun v13 ls hf hl => ?_)
        refine lv_aload_n C.1 C.2.1 dX11_executes_111 rfl (lv_at hl 3 rfl) ?_
        refine lv_aload_n C.1 C.2.1 dX11_executes_112 rfl (lv_at hl 3 rfl) ?_
        refine lv_iload_n C.1 C.2.1 dX11_executes_113 rfl (lv_at hl 4 rfl) ?_
        refine lv_iconst (v := 1) C.1 C.2.1 dX11_executes_114 (by decide) ?_
        refine lv_iadd C.1 C.2.1 dX11_executes_115 ?_
        obtain ⟨u14, hcu14, hf⟩ := bnd_t hf
        refine x_calli hW (x_runV C hW hl (wk9 (k_125)) rfl rfl (c_X11_find hcu14) (cw_X11_397) ci_X11_find cs_X11_find (rm_ok (by omega) (by decide)) ⟨Nat.le_refl _, Nat.le_refl _⟩ (As := [.int (p1 + (1 : Int32))]) rfl rfl (Nat.le_of_ble_eq_true rfl) dX11_executes_116) (fun H locs hW => ?_)
        refine lv_iconst (v := -1) C.1 C.2.1 dX11_executes_119 (by decide) ?_
        refine x_cmpeq (tgt := 127) C hf dX11_executes_120 (by decide) (fun hf => ?_) (fun hf => ?_)
        · refine lv_iload C.1 C.2.1 dX11_executes_127 (lv_at hl 0 rfl) ?_
          exact j_X11_executes_129 C hcf_X11_executes hcf_X11_executesBlock hW (lv_sub hl [3, 4, 0] rfl) hf
        · refine lv_iload_n C.1 C.2.1 dX11_executes_123 rfl (lv_at hl 1 rfl) ?_
          refine lv_goto (tgt := 129) C.1 C.2.1 dX11_executes_124 (by decide) ?_
          exact j_X11_executes_129 C hcf_X11_executes hcf_X11_executesBlock hW (lv_sub hl [3, 4, 0] rfl) hf
    · refine lv_iconst (v := 0) C.1 C.2.1 dX11_executes_39 (by decide) ?_
      refine lv_istore_n (lv' := [(3, .int (0 : Int32)), (2, .int v7), (0, .ref (Z.1 125)), (1, .int p1)]) C.1 C.2.1 dX11_executes_40 rfl hl (by decide) rfl (fun ls hl => ?_)
      exact l_X11_executes_41 C hcf_X11_executes hcf_X11_executesBlock FU (0 : Int32) g6 ls _ _ hW (lv_sub hl [2, 3, 0] rfl) hf
  · refine lv_aload_n C.1 C.2.1 dX11_executes_10 rfl (lv_at hl 0 rfl) ?_
    refine lv_iconst (v := 1) C.1 C.2.1 dX11_executes_11 (by decide) ?_
    refine xp_X11_406 C hW (k_125) (by decide) hf dX11_executes_12 (fun g15 H locs hf hW => ?_)
    refine lv_iload_n C.1 C.2.1 dX11_executes_15 rfl (lv_at hl 1 rfl) ?_
    obtain rfl := Option.some.inj hf
    exact x_iret C hW dX11_executes_16 rfl
set_option maxRecDepth 20000 in
set_option maxHeartbeats 1000000 in
theorem l_X11_executesBlock_15 {l : Launch} {Z : ZT} {h : Hp} {n0 : Nat} {cf_X11_executes : Hp → Int32 → Option (Int32 × Hp)} {cf_X11_executesBlock : Hp → Int32 → Option (Hp)} {p1 : Int32} {x2 : Int32} {p : Program} {e : Env} {s : State} {m : MethodId} {args : Array Value} {below : List Frame} {meth : Method} {c : Code} (C : CX p s m args meth c cX11_executesBlock RX11 4 none Z) {out : Hp} (hcf_X11_executes : ∀ {h g : Hp} {p1 : Int32} {out : Int32 × Hp}, cf_X11_executes g p1 = some out → Met l yX11_executes (wY yX11_executes cX11_executes 5 (some .int)) (rmD (6 + n0)) (va_Pc [.ref (Z.1 125), .int p1] (Wd Z h g)) (va_Qi (fun r (_ : Unit) => r = out.1) (fun _ => Wd Z h out.2) (FR Z)) 0 0 (FR Z)) (hcf_X11_executesBlock : ∀ {h g : Hp} {p1 : Int32} {out : Hp}, cf_X11_executesBlock g p1 = some out → Met l yX11_executesBlock (wY yX11_executesBlock cX11_executesBlock 4 none) (rmD (6 + n0)) (va_Pc [.ref (Z.1 125), .int p1] (Wd Z h g)) (va_Qv (fun (_ : Unit) => True) (fun _ => Wd Z h out) (FR Z)) 0 0 (FR Z)) : ∀ (n : Nat) (x3 : Int32) (g : Hp) (ls : Array Slot) (H : Heap) (locs : List Loc), XW Z h g s.heap H locs → lv_has ls 4 [(0, .ref (Z.1 125)), (1, .int p1), (2, .int x2), (3, .int x3)] → Lp (F_X11_executesBlock_15 cf_X11_executes cf_X11_executesBlock p1 x2) n (x3, g) = some out → W p l e (rmD (6 + n0 + 1)) s m args below meth c H locs 0 0 (MQ below (va_Qv (fun (_ : Unit) => True) (fun _ => Wd Z h out) (FR Z)) args s 0 0 (FR Z)) (F0 m 15 ls []) := by
  intro n
  induction n with
  | zero => intro x3 g ls H locs hW hl hf; cases hf
  | succ n ih =>
    intro x3 g ls H locs hW hl hf
    rw [Lp_s] at hf
    refine lv_iload_n C.1 C.2.1 dX11_executesBlock_15 rfl (lv_at hl 3 rfl) ?_
    refine lv_iload_n C.1 C.2.1 dX11_executesBlock_16 rfl (lv_at hl 2 rfl) ?_
    refine x_cmpge (tgt := 36) C hf dX11_executesBlock_17 (by decide) (fun hf => ?_) (fun hf => ?_)
    · obtain rfl := Option.some.inj hf
      exact x_vret C hW dX11_executesBlock_36 trivial
    · refine lv_aload_n C.1 C.2.1 dX11_executesBlock_20 rfl (lv_at hl 0 rfl) ?_
      refine xg_X11_406 C hW (k_125) dX11_executesBlock_21 ?_
      refine x_ifne (tgt := 36) C hf dX11_executesBlock_24 (by decide) (fun hf => ?_) (fun hf => ?_)
      · obtain rfl := Option.some.inj hf
        exact x_vret C hW dX11_executesBlock_36 trivial
      · refine lv_aload_n C.1 C.2.1 dX11_executesBlock_27 rfl (lv_at hl 0 rfl) ?_
        refine lv_iload_n C.1 C.2.1 dX11_executesBlock_28 rfl (lv_at hl 3 rfl) ?_
        obtain ⟨u1, hcu1, hf⟩ := bnd_t hf
        refine x_calli hW (x_runV C hW hl (wk9 (k_125)) rfl rfl (hcf_X11_executes hcu1) (cw_X11_428) ci_X11_executes cs_X11_executes (rm_ok (by omega) (by decide)) ⟨Nat.le_refl _, Nat.le_refl _⟩ (As := [.int x3]) rfl rfl (Nat.le_of_ble_eq_true rfl) dX11_executesBlock_29) (fun H locs hW => ?_)
        refine lv_istore_n (lv' := [(3, .int u1.1), (0, .ref (Z.1 125)), (1, .int p1), (2, .int x2)]) C.1 C.2.1 dX11_executesBlock_32 rfl hl (by decide) rfl (fun ls hl => ?_)
        refine lv_goto (tgt := 15) C.1 C.2.1 dX11_executesBlock_33 (by decide) ?_
        exact ih u1.1 u1.2 ls _ _ hW (lv_sub hl [1, 2, 3, 0] rfl) hf
set_option maxRecDepth 20000 in
set_option maxHeartbeats 1000000 in
theorem b_X11_executesBlock {l : Launch} {Z : ZT} {h : Hp} {n0 : Nat} {cf_X11_executes : Hp → Int32 → Option (Int32 × Hp)} {cf_X11_executesBlock : Hp → Int32 → Option (Hp)} {g : Hp} {p1 : Int32} (hcf_X11_executes : ∀ {h g : Hp} {p1 : Int32} {out : Int32 × Hp}, cf_X11_executes g p1 = some out → Met l yX11_executes (wY yX11_executes cX11_executes 5 (some .int)) (rmD (6 + n0)) (va_Pc [.ref (Z.1 125), .int p1] (Wd Z h g)) (va_Qi (fun r (_ : Unit) => r = out.1) (fun _ => Wd Z h out.2) (FR Z)) 0 0 (FR Z)) (hcf_X11_executesBlock : ∀ {h g : Hp} {p1 : Int32} {out : Hp}, cf_X11_executesBlock g p1 = some out → Met l yX11_executesBlock (wY yX11_executesBlock cX11_executesBlock 4 none) (rmD (6 + n0)) (va_Pc [.ref (Z.1 125), .int p1] (Wd Z h g)) (va_Qv (fun (_ : Unit) => True) (fun _ => Wd Z h out) (FR Z)) 0 0 (FR Z)) {out : Hp} (hf : B_X11_executesBlock cf_X11_executes cf_X11_executesBlock g p1 = some out) : Met l yX11_executesBlock (wY yX11_executesBlock cX11_executesBlock 4 none) (rmD (6 + n0 + 1)) (va_Pc [.ref (Z.1 125), .int p1] (Wd Z h g)) (va_Qv (fun (_ : Unit) => True) (fun _ => Wd Z h out) (FR Z)) 0 0 (FR Z) := by
  refine metX RX11 rfl (by decide +kernel) (Nat.le_of_ble_eq_true rfl) ?_
  intro p e s m args below meth c C hW ls hl
  have hl : lv_has ls 4 [(0, .ref (Z.1 125)), (1, .int p1)] := hl
  unfold B_X11_executesBlock at hf
  refine lv_iload_n C.1 C.2.1 dX11_executesBlock_0 rfl (lv_at hl 1 rfl) ?_
  refine lv_iconst (v := 1) C.1 C.2.1 dX11_executesBlock_1 (by decide) ?_
  refine lv_iadd C.1 C.2.1 dX11_executesBlock_2 ?_
  refine lv_aload_n C.1 C.2.1 dX11_executesBlock_3 rfl (lv_at hl 0 rfl) ?_
  refine xg_X11_57 C hW (k_125) dX11_executesBlock_4 ?_
  refine lv_iload_n C.1 C.2.1 dX11_executesBlock_7 rfl (lv_at hl 1 rfl) ?_
  refine x_ialdM C hW a_139 hf dX11_executesBlock_8 (fun hf => ?_)
  refine lv_iadd C.1 C.2.1 dX11_executesBlock_9 ?_
  refine x_istn C hf dX11_executesBlock_10 rfl hl (by decide) (fun v2 => [(2, .int v2), (0, .ref (Z.1 125)), (1, .int p1)]) (fun _ => rfl) (fun v2 ls hf hl => ?_)
  refine lv_iload_n C.1 C.2.1 dX11_executesBlock_11 rfl (lv_at hl 2 rfl) ?_
  refine lv_iconst (v := 1) C.1 C.2.1 dX11_executesBlock_12 (by decide) ?_
  refine lv_iadd C.1 C.2.1 dX11_executesBlock_13 ?_
  refine x_istn C hf dX11_executesBlock_14 rfl hl (by decide) (fun v3 => [(3, .int v3), (2, .int v2), (0, .ref (Z.1 125)), (1, .int p1)]) (fun _ => rfl) (fun v3 ls hf hl => ?_)
  exact l_X11_executesBlock_15 C hcf_X11_executes hcf_X11_executesBlock FU v3 g ls _ _ hW (lv_sub hl [2, 3, 1, 0] rfl) hf
set_option maxRecDepth 20000 in
set_option maxHeartbeats 1000000 in
theorem rec_X11_executes {l : Launch} {Z : ZT} : ∀ n : Nat, (∀ {h g : Hp} {p1 : Int32} {out : Int32 × Hp}, (REC_X11_executes n).1 g p1 = some out → Met l yX11_executes (wY yX11_executes cX11_executes 5 (some .int)) (rmD (6 + n)) (va_Pc [.ref (Z.1 125), .int p1] (Wd Z h g)) (va_Qi (fun r (_ : Unit) => r = out.1) (fun _ => Wd Z h out.2) (FR Z)) 0 0 (FR Z)) ∧ (∀ {h g : Hp} {p1 : Int32} {out : Hp}, (REC_X11_executes n).2 g p1 = some out → Met l yX11_executesBlock (wY yX11_executesBlock cX11_executesBlock 4 none) (rmD (6 + n)) (va_Pc [.ref (Z.1 125), .int p1] (Wd Z h g)) (va_Qv (fun (_ : Unit) => True) (fun _ => Wd Z h out) (FR Z)) 0 0 (FR Z)) := by
  intro n
  induction n with
  | zero => exact ⟨(fun hf => no_none hf), (fun hf => no_none hf)⟩
  | succ n ih =>
    exact ⟨(fun hf => b_X11_executes (n0 := n) (fun z => ih.1 z) (fun z => ih.2 z) hf), (fun hf => b_X11_executesBlock (n0 := n) (fun z => ih.1 z) (fun z => ih.2 z) hf)⟩
set_option maxRecDepth 20000 in
set_option maxHeartbeats 1000000 in
theorem c_X11_executes {l : Launch} {Z : ZT} : ∀ {h g : Hp} {p1 : Int32} {out : Int32 × Hp}, f_X11_executes g p1 = some out → Met l yX11_executes (wY yX11_executes cX11_executes 5 (some .int)) (rmD (6 + 64)) (va_Pc [.ref (Z.1 125), .int p1] (Wd Z h g)) (va_Qi (fun r (_ : Unit) => r = out.1) (fun _ => Wd Z h out.2) (FR Z)) 0 0 (FR Z) := (rec_X11_executes 64).1
set_option maxRecDepth 20000 in
set_option maxHeartbeats 1000000 in
theorem c_X11_executesBlock {l : Launch} {Z : ZT} : ∀ {h g : Hp} {p1 : Int32} {out : Hp}, f_X11_executesBlock g p1 = some out → Met l yX11_executesBlock (wY yX11_executesBlock cX11_executesBlock 4 none) (rmD (6 + 64)) (va_Pc [.ref (Z.1 125), .int p1] (Wd Z h g)) (va_Qv (fun (_ : Unit) => True) (fun _ => Wd Z h out) (FR Z)) 0 0 (FR Z) := (rec_X11_executes 64).2
set_option maxRecDepth 20000 in
set_option maxHeartbeats 1000000 in
theorem l_X11_runScript_26 {l : Launch} {Z : ZT} {h : Hp} {p : Program} {e : Env} {s : State} {m : MethodId} {args : Array Value} {below : List Frame} {meth : Method} {c : Code} (C : CX p s m args meth c cX11_runScript RX11 2 (some .int) Z) {out : Int32 × Hp} : ∀ (n : Nat) (x1 : Int32) (g : Hp) (ls : Array Slot) (H : Heap) (locs : List Loc), XW Z h g s.heap H locs → lv_has ls 2 [(0, .ref (Z.1 125)), (1, .int x1)] → Lp (F_X11_runScript_26) n (x1, g) = some out → W p l e (rmD 72) s m args below meth c H locs 0 0 (MQ below (va_Qi (fun r (_ : Unit) => r = out.1) (fun _ => Wd Z h out.2) (FR Z)) args s 0 0 (FR Z)) (F0 m 26 ls []) := by
  intro n
  induction n with
  | zero => intro x1 g ls H locs hW hl hf; cases hf
  | succ n ih =>
    intro x1 g ls H locs hW hl hf
    rw [Lp_s] at hf
    refine lv_iload_n C.1 C.2.1 dX11_runScript_26 rfl (lv_at hl 1 rfl) ?_
    refine lv_aload_n C.1 C.2.1 dX11_runScript_27 rfl (lv_at hl 0 rfl) ?_
    refine xg_X11_272 C hW (k_125) dX11_runScript_28 ?_
    refine x_cmpge (tgt := 50) C hf dX11_runScript_31 (by decide) (fun hf => ?_) (fun hf => ?_)
    · refine lv_aload_n C.1 C.2.1 dX11_runScript_50 rfl (lv_at hl 0 rfl) ?_
      refine xg_X11_403 C hW (k_125) dX11_runScript_51 ?_
      obtain rfl := Option.some.inj hf
      exact x_iret C hW dX11_runScript_54 rfl
    · refine lv_aload_n C.1 C.2.1 dX11_runScript_34 rfl (lv_at hl 0 rfl) ?_
      refine xg_X11_406 C hW (k_125) dX11_runScript_35 ?_
      refine x_ifne (tgt := 50) C hf dX11_runScript_38 (by decide) (fun hf => ?_) (fun hf => ?_)
      · refine lv_aload_n C.1 C.2.1 dX11_runScript_50 rfl (lv_at hl 0 rfl) ?_
        refine xg_X11_403 C hW (k_125) dX11_runScript_51 ?_
        obtain rfl := Option.some.inj hf
        exact x_iret C hW dX11_runScript_54 rfl
      · refine lv_aload_n C.1 C.2.1 dX11_runScript_41 rfl (lv_at hl 0 rfl) ?_
        refine lv_iload_n C.1 C.2.1 dX11_runScript_42 rfl (lv_at hl 1 rfl) ?_
        obtain ⟨u1, hcu1, hf⟩ := bnd_t hf
        refine x_calli hW (x_runV C hW hl (wk9 (k_125)) rfl rfl (c_X11_executes hcu1) (cw_X11_428) ci_X11_executes cs_X11_executes (rm_ok (by decide) (by decide)) ⟨Nat.le_refl _, Nat.le_refl _⟩ (As := [.int x1]) rfl rfl (Nat.le_of_ble_eq_true rfl) dX11_runScript_43) (fun H locs hW => ?_)
        refine lv_istore_n (lv' := [(1, .int u1.1), (0, .ref (Z.1 125))]) C.1 C.2.1 dX11_runScript_46 rfl hl (by decide) rfl (fun ls hl => ?_)
        refine lv_goto (tgt := 26) C.1 C.2.1 dX11_runScript_47 (by decide) ?_
        exact ih u1.1 u1.2 ls _ _ hW (lv_sub hl [1, 0] rfl) hf
set_option maxRecDepth 20000 in
set_option maxHeartbeats 1000000 in
theorem c_X11_runScript {l : Launch} {Z : ZT} {h : Hp} {g : Hp} {out : Int32 × Hp} (hf : f_X11_runScript g = some out) : Met l yX11_runScript (wY yX11_runScript cX11_runScript 2 (some .int)) (rmD 72) (va_Pc [.ref (Z.1 125)] (Wd Z h g)) (va_Qi (fun r (_ : Unit) => r = out.1) (fun _ => Wd Z h out.2) (FR Z)) 0 0 (FR Z) := by
  refine metX RX11 rfl (by decide +kernel) (Nat.le_of_ble_eq_true rfl) ?_
  intro p e s m args below meth c C hW ls hl
  have hl : lv_has ls 2 [(0, .ref (Z.1 125))] := hl
  unfold f_X11_runScript at hf
  refine lv_aload_n C.1 C.2.1 dX11_runScript_0 rfl (lv_at hl 0 rfl) ?_
  refine lv_iconst (v := 0) C.1 C.2.1 dX11_runScript_1 (by decide) ?_
  refine xp_X11_3 C hW (k_125) hf dX11_runScript_2 (fun g2 H locs hf hW => ?_)
  refine lv_aload_n C.1 C.2.1 dX11_runScript_5 rfl (lv_at hl 0 rfl) ?_
  obtain ⟨u3, hcu3, hf⟩ := bnd_t hf
  refine x_callv hW (x_runV C hW hl (wk9 (k_125)) rfl rfl (c_X11_keeps hcu3) (cw_X11_390) ci_X11_keeps cs_X11_keeps (rm_ok (by decide) (by decide)) ⟨Nat.le_refl _, Nat.le_refl _⟩ (As := []) rfl rfl (Nat.le_of_ble_eq_true rfl) dX11_runScript_6) (fun H locs hW => ?_)
  refine lv_aload_n C.1 C.2.1 dX11_runScript_9 rfl (lv_at hl 0 rfl) ?_
  refine lv_iconst (v := 0) C.1 C.2.1 dX11_runScript_10 (by decide) ?_
  refine xp_X11_403 C hW (k_125) hf dX11_runScript_11 (fun g4 H locs hf hW => ?_)
  refine lv_aload_n C.1 C.2.1 dX11_runScript_14 rfl (lv_at hl 0 rfl) ?_
  refine lv_iconst (v := 0) C.1 C.2.1 dX11_runScript_15 (by decide) ?_
  refine xp_X11_425 C hW (k_125) hf dX11_runScript_16 (fun g5 H locs hf hW => ?_)
  refine lv_aload_n C.1 C.2.1 dX11_runScript_19 rfl (lv_at hl 0 rfl) ?_
  refine lv_iconst (v := 0) C.1 C.2.1 dX11_runScript_20 (by decide) ?_
  refine xp_X11_406 C hW (k_125) (by decide) hf dX11_runScript_21 (fun g6 H locs hf hW => ?_)
  refine lv_iconst (v := 0) C.1 C.2.1 dX11_runScript_24 (by decide) ?_
  refine lv_istore_n (lv' := [(1, .int (0 : Int32)), (0, .ref (Z.1 125))]) C.1 C.2.1 dX11_runScript_25 rfl hl (by decide) rfl (fun ls hl => ?_)
  exact l_X11_runScript_26 C FU (0 : Int32) g6 ls _ _ hW (lv_sub hl [1, 0] rfl) hf
set_option maxRecDepth 20000 in
set_option maxHeartbeats 1000000 in
theorem c_X11_failed {l : Launch} {Z : ZT} {h : Hp} {g : Hp} {out : Int32 × Hp} (hf : f_X11_failed g = some out) : Met l yX11_failed (wY yX11_failed cX11_failed 1 (some .int)) (rmD 0) (va_Pc [.ref (Z.1 125)] (Wd Z h g)) (va_Qi (fun r (_ : Unit) => r = out.1) (fun _ => Wd Z h out.2) (FR Z)) 0 0 (FR Z) := by
  refine metX RX11 rfl (by decide +kernel) (Nat.le_of_ble_eq_true rfl) ?_
  intro p e s m args below meth c C hW ls hl
  have hl : lv_has ls 1 [(0, .ref (Z.1 125))] := hl
  unfold f_X11_failed at hf
  refine lv_aload_n C.1 C.2.1 dX11_failed_0 rfl (lv_at hl 0 rfl) ?_
  refine lv_iconst (v := 0) C.1 C.2.1 dX11_failed_1 (by decide) ?_
  refine xp_X11_3 C hW (k_125) hf dX11_failed_2 (fun g1 H locs hf hW => ?_)
  refine lv_aload_n C.1 C.2.1 dX11_failed_5 rfl (lv_at hl 0 rfl) ?_
  refine xg_X11_425 C hW (k_125) dX11_failed_6 ?_
  obtain rfl := Option.some.inj hf
  exact x_iret C hW dX11_failed_9 rfl
set_option maxRecDepth 20000 in
set_option maxHeartbeats 1000000 in
theorem c_X11_wasStopped {l : Launch} {Z : ZT} {h : Hp} {g : Hp} {out : Int32 × Hp} (hf : f_X11_wasStopped g = some out) : Met l yX11_wasStopped (wY yX11_wasStopped cX11_wasStopped 1 (some .boolean)) (rmD 0) (va_Pc [.ref (Z.1 125)] (Wd Z h g)) (va_Qi (fun r (_ : Unit) => r = out.1) (fun _ => Wd Z h out.2) (FR Z)) 0 0 (FR Z) := by
  refine metX RX11 rfl (by decide +kernel) (Nat.le_of_ble_eq_true rfl) ?_
  intro p e s m args below meth c C hW ls hl
  have hl : lv_has ls 1 [(0, .ref (Z.1 125))] := hl
  unfold f_X11_wasStopped at hf
  refine lv_aload_n C.1 C.2.1 dX11_wasStopped_0 rfl (lv_at hl 0 rfl) ?_
  refine lv_iconst (v := 0) C.1 C.2.1 dX11_wasStopped_1 (by decide) ?_
  refine xp_X11_3 C hW (k_125) hf dX11_wasStopped_2 (fun g1 H locs hf hW => ?_)
  refine lv_aload_n C.1 C.2.1 dX11_wasStopped_5 rfl (lv_at hl 0 rfl) ?_
  refine xg_X11_406 C hW (k_125) dX11_wasStopped_6 ?_
  obtain ⟨hz, hf⟩ := ck_t hf
  obtain rfl := Option.some.inj hf
  exact x_zret C hW hz dX11_wasStopped_9 rfl
set_option maxRecDepth 20000 in
set_option maxHeartbeats 1000000 in
theorem c_X11_says {l : Launch} {Z : ZT} {h : Hp} {g : Hp} {p1 : Int32} {out : Hp} (hf : f_X11_says g p1 = some out) : Met l yX11_says (wY yX11_says cX11_says 2 none) (rmD 0) (va_Pc [.ref (Z.1 125), .int p1] (Wd Z h g)) (va_Qv (fun (_ : Unit) => True) (fun _ => Wd Z h out) (FR Z)) 0 0 (FR Z) := by
  refine metX RX11 rfl (by decide +kernel) (Nat.le_of_ble_eq_true rfl) ?_
  intro p e s m args below meth c C hW ls hl
  have hl : lv_has ls 2 [(0, .ref (Z.1 125)), (1, .int p1)] := hl
  unfold f_X11_says at hf
  refine lv_aload_n C.1 C.2.1 dX11_says_0 rfl (lv_at hl 0 rfl) ?_
  refine xg_X11_72 C hW (k_125) dX11_says_1 ?_
  refine lv_aload_n C.1 C.2.1 dX11_says_4 rfl (lv_at hl 0 rfl) ?_
  refine xg_X11_431 C hW (k_125) dX11_says_5 ?_
  refine lv_iload_n C.1 C.2.1 dX11_says_8 rfl (lv_at hl 1 rfl) ?_
  refine lv_i2b (v := i2b p1) C.1 C.2.1 dX11_says_9 rfl ?_
  refine x_bastM C hW a_144 hf dX11_says_10 (fun g1 H locs hf hW => ?_)
  refine lv_aload_n C.1 C.2.1 dX11_says_11 rfl (lv_at hl 0 rfl) ?_
  refine lv_dup C.1 C.2.1 dX11_says_12 rfl ?_
  refine xg_X11_431 C hW (k_125) dX11_says_13 ?_
  refine lv_iconst (v := 1) C.1 C.2.1 dX11_says_16 (by decide) ?_
  refine lv_iadd C.1 C.2.1 dX11_says_17 ?_
  refine xp_X11_431 C hW (k_125) hf dX11_says_18 (fun g2 H locs hf hW => ?_)
  obtain rfl := Option.some.inj hf
  exact x_vret C hW dX11_says_21 trivial
set_option maxRecDepth 20000 in
set_option maxHeartbeats 1000000 in
theorem j_X11_saysNumber_14 {l : Launch} {Z : ZT} {h : Hp} {n0 : Nat} {cf_X11_saysNumber : Hp → Int32 → Option (Hp)} {p1 : Int32} {g : Hp} {p : Program} {e : Env} {s : State} {m : MethodId} {args : Array Value} {below : List Frame} {meth : Method} {c : Code} (C : CX p s m args meth c cX11_saysNumber RX11 2 none Z) {out : Hp} (hcf_X11_saysNumber : ∀ {h g : Hp} {p1 : Int32} {out : Hp}, cf_X11_saysNumber g p1 = some out → Met l yX11_saysNumber (wY yX11_saysNumber cX11_saysNumber 2 none) (rmD (1 + n0)) (va_Pc [.ref (Z.1 125), .int p1] (Wd Z h g)) (va_Qv (fun (_ : Unit) => True) (fun _ => Wd Z h out) (FR Z)) 0 0 (FR Z)) {ls : Array Slot} {H : Heap} {locs : List Loc} (hW : XW Z h g s.heap H locs) (hl : lv_has ls 2 [(0, .ref (Z.1 125)), (1, .int p1)]) (hf : J_X11_saysNumber_14 cf_X11_saysNumber p1 g = some out) : W p l e (rmD (1 + n0 + 1)) s m args below meth c H locs 0 0 (MQ below (va_Qv (fun (_ : Unit) => True) (fun _ => Wd Z h out) (FR Z)) args s 0 0 (FR Z)) (F0 m 14 ls []) := by
  rw [J_X11_saysNumber_14] at hf
  refine lv_aload_n C.1 C.2.1 dX11_saysNumber_14 rfl (lv_at hl 0 rfl) ?_
  refine lv_bipush (v := 48) C.1 C.2.1 dX11_saysNumber_15 (by decide) ?_
  refine lv_iload_n C.1 C.2.1 dX11_saysNumber_17 rfl (lv_at hl 1 rfl) ?_
  refine lv_bipush (v := 10) C.1 C.2.1 dX11_saysNumber_18 (by decide) ?_
  refine lv_irem C.1 C.2.1 dX11_saysNumber_20 (by decide) ?_
  refine lv_iadd C.1 C.2.1 dX11_saysNumber_21 ?_
  obtain ⟨u1, hcu1, hf⟩ := bnd_t hf
  refine x_callv hW (x_runV C hW hl (wk9 (k_125)) rfl rfl (c_X11_says hcu1) (cw_X11_437) ci_X11_says cs_X11_says (rm_ok (by omega) (by decide)) ⟨Nat.le_refl _, Nat.le_refl _⟩ (As := [.int ((48 : Int32) + (irem p1 (10 : Int32)))]) rfl rfl (Nat.le_of_ble_eq_true rfl) dX11_saysNumber_22) (fun H locs hW => ?_)
  obtain rfl := Option.some.inj hf
  exact x_vret C hW dX11_saysNumber_25 trivial
set_option maxRecDepth 20000 in
set_option maxHeartbeats 1000000 in
theorem b_X11_saysNumber {l : Launch} {Z : ZT} {h : Hp} {n0 : Nat} {cf_X11_saysNumber : Hp → Int32 → Option (Hp)} {g : Hp} {p1 : Int32} (hcf_X11_saysNumber : ∀ {h g : Hp} {p1 : Int32} {out : Hp}, cf_X11_saysNumber g p1 = some out → Met l yX11_saysNumber (wY yX11_saysNumber cX11_saysNumber 2 none) (rmD (1 + n0)) (va_Pc [.ref (Z.1 125), .int p1] (Wd Z h g)) (va_Qv (fun (_ : Unit) => True) (fun _ => Wd Z h out) (FR Z)) 0 0 (FR Z)) {out : Hp} (hf : B_X11_saysNumber cf_X11_saysNumber g p1 = some out) : Met l yX11_saysNumber (wY yX11_saysNumber cX11_saysNumber 2 none) (rmD (1 + n0 + 1)) (va_Pc [.ref (Z.1 125), .int p1] (Wd Z h g)) (va_Qv (fun (_ : Unit) => True) (fun _ => Wd Z h out) (FR Z)) 0 0 (FR Z) := by
  refine metX RX11 rfl (by decide +kernel) (Nat.le_of_ble_eq_true rfl) ?_
  intro p e s m args below meth c C hW ls hl
  have hl : lv_has ls 2 [(0, .ref (Z.1 125)), (1, .int p1)] := hl
  unfold B_X11_saysNumber at hf
  refine lv_iload_n C.1 C.2.1 dX11_saysNumber_0 rfl (lv_at hl 1 rfl) ?_
  refine lv_bipush (v := 9) C.1 C.2.1 dX11_saysNumber_1 (by decide) ?_
  refine x_cmple (tgt := 14) C hf dX11_saysNumber_3 (by decide) (fun hf => ?_) (fun hf => ?_)
  · exact j_X11_saysNumber_14 C hcf_X11_saysNumber hW (lv_sub hl [0, 1] rfl) hf
  · refine lv_aload_n C.1 C.2.1 dX11_saysNumber_6 rfl (lv_at hl 0 rfl) ?_
    refine lv_iload_n C.1 C.2.1 dX11_saysNumber_7 rfl (lv_at hl 1 rfl) ?_
    refine lv_bipush (v := 10) C.1 C.2.1 dX11_saysNumber_8 (by decide) ?_
    refine lv_idiv C.1 C.2.1 dX11_saysNumber_10 (by decide) ?_
    obtain ⟨u2, hcu2, hf⟩ := bnd_t hf
    refine x_callv hW (x_runV C hW hl (wk9 (k_125)) rfl rfl (hcf_X11_saysNumber hcu2) (cw_X11_434) ci_X11_saysNumber cs_X11_saysNumber (rm_ok (by omega) (by decide)) ⟨Nat.le_refl _, Nat.le_refl _⟩ (As := [.int (p1 / (10 : Int32))]) rfl rfl (Nat.le_of_ble_eq_true rfl) dX11_saysNumber_11) (fun H locs hW => ?_)
    exact j_X11_saysNumber_14 C hcf_X11_saysNumber hW (lv_sub hl [0, 1] rfl) hf
set_option maxRecDepth 20000 in
set_option maxHeartbeats 1000000 in
theorem rec_X11_saysNumber {l : Launch} {Z : ZT} : ∀ n : Nat, (∀ {h g : Hp} {p1 : Int32} {out : Hp}, (REC_X11_saysNumber n) g p1 = some out → Met l yX11_saysNumber (wY yX11_saysNumber cX11_saysNumber 2 none) (rmD (1 + n)) (va_Pc [.ref (Z.1 125), .int p1] (Wd Z h g)) (va_Qv (fun (_ : Unit) => True) (fun _ => Wd Z h out) (FR Z)) 0 0 (FR Z)) := by
  intro n
  induction n with
  | zero => exact fun hf => no_none hf
  | succ n ih =>
    exact fun hf => b_X11_saysNumber (n0 := n) (fun z => ih z) hf
set_option maxRecDepth 20000 in
set_option maxHeartbeats 1000000 in
theorem c_X11_saysNumber {l : Launch} {Z : ZT} : ∀ {h g : Hp} {p1 : Int32} {out : Hp}, f_X11_saysNumber g p1 = some out → Met l yX11_saysNumber (wY yX11_saysNumber cX11_saysNumber 2 none) (rmD (1 + 64)) (va_Pc [.ref (Z.1 125), .int p1] (Wd Z h g)) (va_Qv (fun (_ : Unit) => True) (fun _ => Wd Z h out) (FR Z)) 0 0 (FR Z) := (rec_X11_saysNumber 64)
set_option maxRecDepth 20000 in
set_option maxHeartbeats 1000000 in
theorem j_X11_saysName_14 {l : Launch} {Z : ZT} {h : Hp} {n0 : Nat} {cf_X11_saysName : Hp → Int32 → Option (Hp)} {p1 : Int32} {g : Hp} {p : Program} {e : Env} {s : State} {m : MethodId} {args : Array Value} {below : List Frame} {meth : Method} {c : Code} (C : CX p s m args meth c cX11_saysName RX11 2 none Z) {out : Hp} (hcf_X11_saysName : ∀ {h g : Hp} {p1 : Int32} {out : Hp}, cf_X11_saysName g p1 = some out → Met l yX11_saysName (wY yX11_saysName cX11_saysName 2 none) (rmD (1 + n0)) (va_Pc [.ref (Z.1 125), .int p1] (Wd Z h g)) (va_Qv (fun (_ : Unit) => True) (fun _ => Wd Z h out) (FR Z)) 0 0 (FR Z)) {ls : Array Slot} {H : Heap} {locs : List Loc} (hW : XW Z h g s.heap H locs) (hl : lv_has ls 2 [(0, .ref (Z.1 125)), (1, .int p1)]) (hf : J_X11_saysName_14 cf_X11_saysName p1 g = some out) : W p l e (rmD (1 + n0 + 1)) s m args below meth c H locs 0 0 (MQ below (va_Qv (fun (_ : Unit) => True) (fun _ => Wd Z h out) (FR Z)) args s 0 0 (FR Z)) (F0 m 14 ls []) := by
  rw [J_X11_saysName_14] at hf
  refine lv_aload_n C.1 C.2.1 dX11_saysName_14 rfl (lv_at hl 0 rfl) ?_
  refine lv_bipush (v := 97) C.1 C.2.1 dX11_saysName_15 (by decide) ?_
  refine lv_iload_n C.1 C.2.1 dX11_saysName_17 rfl (lv_at hl 1 rfl) ?_
  refine lv_bipush (v := 27) C.1 C.2.1 dX11_saysName_18 (by decide) ?_
  refine lv_irem C.1 C.2.1 dX11_saysName_20 (by decide) ?_
  refine lv_iadd C.1 C.2.1 dX11_saysName_21 ?_
  refine lv_iconst (v := 1) C.1 C.2.1 dX11_saysName_22 (by decide) ?_
  refine lv_isub C.1 C.2.1 dX11_saysName_23 ?_
  obtain ⟨u1, hcu1, hf⟩ := bnd_t hf
  refine x_callv hW (x_runV C hW hl (wk9 (k_125)) rfl rfl (c_X11_says hcu1) (cw_X11_437) ci_X11_says cs_X11_says (rm_ok (by omega) (by decide)) ⟨Nat.le_refl _, Nat.le_refl _⟩ (As := [.int (((97 : Int32) + (irem p1 (27 : Int32))) - (1 : Int32))]) rfl rfl (Nat.le_of_ble_eq_true rfl) dX11_saysName_24) (fun H locs hW => ?_)
  obtain rfl := Option.some.inj hf
  exact x_vret C hW dX11_saysName_27 trivial
set_option maxRecDepth 20000 in
set_option maxHeartbeats 1000000 in
theorem b_X11_saysName {l : Launch} {Z : ZT} {h : Hp} {n0 : Nat} {cf_X11_saysName : Hp → Int32 → Option (Hp)} {g : Hp} {p1 : Int32} (hcf_X11_saysName : ∀ {h g : Hp} {p1 : Int32} {out : Hp}, cf_X11_saysName g p1 = some out → Met l yX11_saysName (wY yX11_saysName cX11_saysName 2 none) (rmD (1 + n0)) (va_Pc [.ref (Z.1 125), .int p1] (Wd Z h g)) (va_Qv (fun (_ : Unit) => True) (fun _ => Wd Z h out) (FR Z)) 0 0 (FR Z)) {out : Hp} (hf : B_X11_saysName cf_X11_saysName g p1 = some out) : Met l yX11_saysName (wY yX11_saysName cX11_saysName 2 none) (rmD (1 + n0 + 1)) (va_Pc [.ref (Z.1 125), .int p1] (Wd Z h g)) (va_Qv (fun (_ : Unit) => True) (fun _ => Wd Z h out) (FR Z)) 0 0 (FR Z) := by
  refine metX RX11 rfl (by decide +kernel) (Nat.le_of_ble_eq_true rfl) ?_
  intro p e s m args below meth c C hW ls hl
  have hl : lv_has ls 2 [(0, .ref (Z.1 125)), (1, .int p1)] := hl
  unfold B_X11_saysName at hf
  refine lv_iload_n C.1 C.2.1 dX11_saysName_0 rfl (lv_at hl 1 rfl) ?_
  refine lv_bipush (v := 26) C.1 C.2.1 dX11_saysName_1 (by decide) ?_
  refine x_cmple (tgt := 14) C hf dX11_saysName_3 (by decide) (fun hf => ?_) (fun hf => ?_)
  · exact j_X11_saysName_14 C hcf_X11_saysName hW (lv_sub hl [0, 1] rfl) hf
  · refine lv_aload_n C.1 C.2.1 dX11_saysName_6 rfl (lv_at hl 0 rfl) ?_
    refine lv_iload_n C.1 C.2.1 dX11_saysName_7 rfl (lv_at hl 1 rfl) ?_
    refine lv_bipush (v := 27) C.1 C.2.1 dX11_saysName_8 (by decide) ?_
    refine lv_idiv C.1 C.2.1 dX11_saysName_10 (by decide) ?_
    obtain ⟨u2, hcu2, hf⟩ := bnd_t hf
    refine x_callv hW (x_runV C hW hl (wk9 (k_125)) rfl rfl (hcf_X11_saysName hcu2) (cw_X11_440) ci_X11_saysName cs_X11_saysName (rm_ok (by omega) (by decide)) ⟨Nat.le_refl _, Nat.le_refl _⟩ (As := [.int (p1 / (27 : Int32))]) rfl rfl (Nat.le_of_ble_eq_true rfl) dX11_saysName_11) (fun H locs hW => ?_)
    exact j_X11_saysName_14 C hcf_X11_saysName hW (lv_sub hl [0, 1] rfl) hf
set_option maxRecDepth 20000 in
set_option maxHeartbeats 1000000 in
theorem rec_X11_saysName {l : Launch} {Z : ZT} : ∀ n : Nat, (∀ {h g : Hp} {p1 : Int32} {out : Hp}, (REC_X11_saysName n) g p1 = some out → Met l yX11_saysName (wY yX11_saysName cX11_saysName 2 none) (rmD (1 + n)) (va_Pc [.ref (Z.1 125), .int p1] (Wd Z h g)) (va_Qv (fun (_ : Unit) => True) (fun _ => Wd Z h out) (FR Z)) 0 0 (FR Z)) := by
  intro n
  induction n with
  | zero => exact fun hf => no_none hf
  | succ n ih =>
    exact fun hf => b_X11_saysName (n0 := n) (fun z => ih z) hf
set_option maxRecDepth 20000 in
set_option maxHeartbeats 1000000 in
theorem c_X11_saysName {l : Launch} {Z : ZT} : ∀ {h g : Hp} {p1 : Int32} {out : Hp}, f_X11_saysName g p1 = some out → Met l yX11_saysName (wY yX11_saysName cX11_saysName 2 none) (rmD (1 + 64)) (va_Pc [.ref (Z.1 125), .int p1] (Wd Z h g)) (va_Qv (fun (_ : Unit) => True) (fun _ => Wd Z h out) (FR Z)) 0 0 (FR Z) := (rec_X11_saysName 64)
set_option maxRecDepth 20000 in
set_option maxHeartbeats 1000000 in
theorem j_X11_formatTranscript_67 {l : Launch} {Z : ZT} {h : Hp} {g : Hp} {r16 : Int32 × Hp → Option (Int32 × Hp)} {x1 : Int32} {p : Program} {e : Env} {s : State} {m : MethodId} {args : Array Value} {below : List Frame} {meth : Method} {c : Code} (C : CX p s m args meth c cX11_formatTranscript RX11 2 (some .int) Z) {out : Int32 × Hp} (hr16 : ∀ (x1 : Int32) (g : Hp) (ls : Array Slot) (H : Heap) (locs : List Loc), XW Z h g s.heap H locs → lv_has ls 2 [(0, .ref (Z.1 125)), (1, .int x1)] → r16 (x1, g) = some out → W p l e (rmD 67) s m args below meth c H locs 0 0 (MQ below (va_Qi (fun r (_ : Unit) => r = out.1) (fun _ => Wd Z h out.2) (FR Z)) args s 0 0 (FR Z)) (F0 m 16 ls [])) {ls : Array Slot} {H : Heap} {locs : List Loc} (hW : XW Z h g s.heap H locs) (hl : lv_has ls 2 [(0, .ref (Z.1 125)), (1, .int x1)]) (hf : J_X11_formatTranscript_67 g r16 x1 = some out) : W p l e (rmD 67) s m args below meth c H locs 0 0 (MQ below (va_Qi (fun r (_ : Unit) => r = out.1) (fun _ => Wd Z h out.2) (FR Z)) args s 0 0 (FR Z)) (F0 m 67 ls []) := by
  refine lv_aload_n C.1 C.2.1 dX11_formatTranscript_67 rfl (lv_at hl 0 rfl) ?_
  refine lv_aload_n C.1 C.2.1 dX11_formatTranscript_68 rfl (lv_at hl 0 rfl) ?_
  refine lv_aload_n C.1 C.2.1 dX11_formatTranscript_69 rfl (lv_at hl 0 rfl) ?_
  refine xg_X11_63 C hW (k_125) dX11_formatTranscript_70 ?_
  refine lv_iload_n C.1 C.2.1 dX11_formatTranscript_73 rfl (lv_at hl 1 rfl) ?_
  refine x_ialdM C hW a_141 hf dX11_formatTranscript_74 (fun hf => ?_)
  refine lv_iconst (v := 1) C.1 C.2.1 dX11_formatTranscript_75 (by decide) ?_
  obtain ⟨u1, hcu1, hf⟩ := bnd_t hf
  refine x_calli hW (x_runV C hW hl (wk9 (k_125)) rfl rfl (c_X11_of hcu1) (cw_X11_94) ci_X11_of cs_X11_of (rm_ok (by decide) (by decide)) ⟨Nat.le_refl _, Nat.le_refl _⟩ (As := [.int (g 141 (ix x1)), .int (1 : Int32)]) rfl rfl (Nat.le_of_ble_eq_true rfl) dX11_formatTranscript_76) (fun H locs hW => ?_)
  obtain ⟨u2, hcu2, hf⟩ := bnd_t hf
  refine x_callv hW (x_runV C hW hl (wk9 (k_125)) rfl rfl (c_X11_saysName hcu2) (cw_X11_440) ci_X11_saysName cs_X11_saysName (rm_ok (by decide) (by decide)) ⟨Nat.le_refl _, Nat.le_refl _⟩ (As := [.int u1]) rfl rfl (Nat.le_of_ble_eq_true rfl) dX11_formatTranscript_79) (fun H locs hW => ?_)
  refine x_iinc (w := 1) C hf dX11_formatTranscript_82 hl (k := 1) rfl (by decide) (by decide) (fun v3 => [(1, .int v3), (0, .ref (Z.1 125))]) (fun _ => rfl) (fun v3 ls hf hl => ?_)
  refine lv_goto (tgt := 16) C.1 C.2.1 dX11_formatTranscript_85 (by decide) ?_
  exact hr16 v3 u2 ls _ _ hW (lv_sub hl [1, 0] rfl) hf
set_option maxRecDepth 20000 in
set_option maxHeartbeats 1000000 in
theorem j_X11_formatTranscript_34 {l : Launch} {Z : ZT} {h : Hp} {g : Hp} {r16 : Int32 × Hp → Option (Int32 × Hp)} {x1 : Int32} {p : Program} {e : Env} {s : State} {m : MethodId} {args : Array Value} {below : List Frame} {meth : Method} {c : Code} (C : CX p s m args meth c cX11_formatTranscript RX11 2 (some .int) Z) {out : Int32 × Hp} (hr16 : ∀ (x1 : Int32) (g : Hp) (ls : Array Slot) (H : Heap) (locs : List Loc), XW Z h g s.heap H locs → lv_has ls 2 [(0, .ref (Z.1 125)), (1, .int x1)] → r16 (x1, g) = some out → W p l e (rmD 67) s m args below meth c H locs 0 0 (MQ below (va_Qi (fun r (_ : Unit) => r = out.1) (fun _ => Wd Z h out.2) (FR Z)) args s 0 0 (FR Z)) (F0 m 16 ls [])) {ls : Array Slot} {H : Heap} {locs : List Loc} (hW : XW Z h g s.heap H locs) (hl : lv_has ls 2 [(0, .ref (Z.1 125)), (1, .int x1)]) (hf : J_X11_formatTranscript_34 g r16 x1 = some out) : W p l e (rmD 67) s m args below meth c H locs 0 0 (MQ below (va_Qi (fun r (_ : Unit) => r = out.1) (fun _ => Wd Z h out.2) (FR Z)) args s 0 0 (FR Z)) (F0 m 34 ls []) := by
  refine lv_iload_n C.1 C.2.1 dX11_formatTranscript_34 rfl (lv_at hl 1 rfl) ?_
  refine x_ifle (tgt := 67) C hf dX11_formatTranscript_35 (by decide) (fun hf => ?_) (fun hf => ?_)
  · exact j_X11_formatTranscript_67 C hr16 hW (lv_sub hl [0, 1] rfl) hf
  · refine lv_aload_n C.1 C.2.1 dX11_formatTranscript_38 rfl (lv_at hl 0 rfl) ?_
    refine xg_X11_66 C hW (k_125) dX11_formatTranscript_39 ?_
    refine lv_iload_n C.1 C.2.1 dX11_formatTranscript_42 rfl (lv_at hl 1 rfl) ?_
    refine x_ialdM C hW a_142 hf dX11_formatTranscript_43 (fun hf => ?_)
    refine lv_aload_n C.1 C.2.1 dX11_formatTranscript_44 rfl (lv_at hl 0 rfl) ?_
    refine xg_X11_66 C hW (k_125) dX11_formatTranscript_45 ?_
    refine lv_iload_n C.1 C.2.1 dX11_formatTranscript_48 rfl (lv_at hl 1 rfl) ?_
    refine lv_iconst (v := 1) C.1 C.2.1 dX11_formatTranscript_49 (by decide) ?_
    refine lv_isub C.1 C.2.1 dX11_formatTranscript_50 ?_
    refine x_ialdM C hW a_142 hf dX11_formatTranscript_51 (fun hf => ?_)
    refine x_cmpeq (tgt := 67) C hf dX11_formatTranscript_52 (by decide) (fun hf => ?_) (fun hf => ?_)
    · exact j_X11_formatTranscript_67 C hr16 hW (lv_sub hl [0, 1] rfl) hf
    · refine lv_aload_n C.1 C.2.1 dX11_formatTranscript_55 rfl (lv_at hl 0 rfl) ?_
      refine lv_bipush (v := 47) C.1 C.2.1 dX11_formatTranscript_56 (by decide) ?_
      obtain ⟨u4, hcu4, hf⟩ := bnd_t hf
      refine x_callv hW (x_runV C hW hl (wk9 (k_125)) rfl rfl (c_X11_says hcu4) (cw_X11_437) ci_X11_says cs_X11_says (rm_ok (by decide) (by decide)) ⟨Nat.le_refl _, Nat.le_refl _⟩ (As := [.int (47 : Int32)]) rfl rfl (Nat.le_of_ble_eq_true rfl) dX11_formatTranscript_58) (fun H locs hW => ?_)
      refine lv_aload_n C.1 C.2.1 dX11_formatTranscript_61 rfl (lv_at hl 0 rfl) ?_
      refine lv_bipush (v := 32) C.1 C.2.1 dX11_formatTranscript_62 (by decide) ?_
      obtain ⟨u5, hcu5, hf⟩ := bnd_t hf
      refine x_callv hW (x_runV C hW hl (wk9 (k_125)) rfl rfl (c_X11_says hcu5) (cw_X11_437) ci_X11_says cs_X11_says (rm_ok (by decide) (by decide)) ⟨Nat.le_refl _, Nat.le_refl _⟩ (As := [.int (32 : Int32)]) rfl rfl (Nat.le_of_ble_eq_true rfl) dX11_formatTranscript_64) (fun H locs hW => ?_)
      exact j_X11_formatTranscript_67 C hr16 hW (lv_sub hl [0, 1] rfl) hf
set_option maxRecDepth 20000 in
set_option maxHeartbeats 1000000 in
theorem l_X11_formatTranscript_16 {l : Launch} {Z : ZT} {h : Hp} {p : Program} {e : Env} {s : State} {m : MethodId} {args : Array Value} {below : List Frame} {meth : Method} {c : Code} (C : CX p s m args meth c cX11_formatTranscript RX11 2 (some .int) Z) {out : Int32 × Hp} : ∀ (n : Nat) (x1 : Int32) (g : Hp) (ls : Array Slot) (H : Heap) (locs : List Loc), XW Z h g s.heap H locs → lv_has ls 2 [(0, .ref (Z.1 125)), (1, .int x1)] → Lp (F_X11_formatTranscript_16) n (x1, g) = some out → W p l e (rmD 67) s m args below meth c H locs 0 0 (MQ below (va_Qi (fun r (_ : Unit) => r = out.1) (fun _ => Wd Z h out.2) (FR Z)) args s 0 0 (FR Z)) (F0 m 16 ls []) := by
  intro n
  induction n with
  | zero => intro x1 g ls H locs hW hl hf; cases hf
  | succ n ih =>
    intro x1 g ls H locs hW hl hf
    rw [Lp_s] at hf
    refine lv_iload_n C.1 C.2.1 dX11_formatTranscript_16 rfl (lv_at hl 1 rfl) ?_
    refine lv_aload_n C.1 C.2.1 dX11_formatTranscript_17 rfl (lv_at hl 0 rfl) ?_
    refine xg_X11_356 C hW (k_125) dX11_formatTranscript_18 ?_
    refine x_cmpge (tgt := 88) C hf dX11_formatTranscript_21 (by decide) (fun hf => ?_) (fun hf => ?_)
    · refine lv_aload_n C.1 C.2.1 dX11_formatTranscript_88 rfl (lv_at hl 0 rfl) ?_
      refine xg_X11_431 C hW (k_125) dX11_formatTranscript_89 ?_
      obtain rfl := Option.some.inj hf
      exact x_iret C hW dX11_formatTranscript_92 rfl
    · refine lv_iload_n C.1 C.2.1 dX11_formatTranscript_24 rfl (lv_at hl 1 rfl) ?_
      refine x_ifle (tgt := 34) C hf dX11_formatTranscript_25 (by decide) (fun hf => ?_) (fun hf => ?_)
      · exact j_X11_formatTranscript_34 C (fun z0 z1 => ih z0 z1) hW (lv_sub hl [0, 1] rfl) hf
      · refine lv_aload_n C.1 C.2.1 dX11_formatTranscript_28 rfl (lv_at hl 0 rfl) ?_
        refine lv_bipush (v := 32) C.1 C.2.1 dX11_formatTranscript_29 (by decide) ?_
        obtain ⟨u6, hcu6, hf⟩ := bnd_t hf
        refine x_callv hW (x_runV C hW hl (wk9 (k_125)) rfl rfl (c_X11_says hcu6) (cw_X11_437) ci_X11_says cs_X11_says (rm_ok (by decide) (by decide)) ⟨Nat.le_refl _, Nat.le_refl _⟩ (As := [.int (32 : Int32)]) rfl rfl (Nat.le_of_ble_eq_true rfl) dX11_formatTranscript_31) (fun H locs hW => ?_)
        exact j_X11_formatTranscript_34 C (fun z0 z1 => ih z0 z1) hW (lv_sub hl [0, 1] rfl) hf
set_option maxRecDepth 20000 in
set_option maxHeartbeats 1000000 in
theorem c_X11_formatTranscript {l : Launch} {Z : ZT} {h : Hp} {g : Hp} {out : Int32 × Hp} (hf : f_X11_formatTranscript g = some out) : Met l yX11_formatTranscript (wY yX11_formatTranscript cX11_formatTranscript 2 (some .int)) (rmD 67) (va_Pc [.ref (Z.1 125)] (Wd Z h g)) (va_Qi (fun r (_ : Unit) => r = out.1) (fun _ => Wd Z h out.2) (FR Z)) 0 0 (FR Z) := by
  refine metX RX11 rfl (by decide +kernel) (Nat.le_of_ble_eq_true rfl) ?_
  intro p e s m args below meth c C hW ls hl
  have hl : lv_has ls 2 [(0, .ref (Z.1 125))] := hl
  unfold f_X11_formatTranscript at hf
  refine lv_aload_n C.1 C.2.1 dX11_formatTranscript_0 rfl (lv_at hl 0 rfl) ?_
  refine lv_iconst (v := 0) C.1 C.2.1 dX11_formatTranscript_1 (by decide) ?_
  refine xp_X11_3 C hW (k_125) hf dX11_formatTranscript_2 (fun g7 H locs hf hW => ?_)
  refine lv_aload_n C.1 C.2.1 dX11_formatTranscript_5 rfl (lv_at hl 0 rfl) ?_
  obtain ⟨u8, hcu8, hf⟩ := bnd_t hf
  refine x_callv hW (x_runV C hW hl (wk9 (k_125)) rfl rfl (c_X11_laysRow hcu8) (cw_X11_359) ci_X11_laysRow cs_X11_laysRow (rm_ok (by decide) (by decide)) ⟨Nat.le_refl _, Nat.le_refl _⟩ (As := []) rfl rfl (Nat.le_of_ble_eq_true rfl) dX11_formatTranscript_6) (fun H locs hW => ?_)
  refine lv_aload_n C.1 C.2.1 dX11_formatTranscript_9 rfl (lv_at hl 0 rfl) ?_
  refine lv_iconst (v := 0) C.1 C.2.1 dX11_formatTranscript_10 (by decide) ?_
  refine xp_X11_431 C hW (k_125) hf dX11_formatTranscript_11 (fun g9 H locs hf hW => ?_)
  refine lv_iconst (v := 0) C.1 C.2.1 dX11_formatTranscript_14 (by decide) ?_
  refine lv_istore_n (lv' := [(1, .int (0 : Int32)), (0, .ref (Z.1 125))]) C.1 C.2.1 dX11_formatTranscript_15 rfl hl (by decide) rfl (fun ls hl => ?_)
  exact l_X11_formatTranscript_16 C FU (0 : Int32) g9 ls _ _ hW (lv_sub hl [1, 0] rfl) hf
set_option maxRecDepth 20000 in
set_option maxHeartbeats 1000000 in
theorem j_X11_formatShot_153 {l : Launch} {Z : ZT} {h : Hp} {p1 : Int32} {g : Hp} {r74 : Int32 × Hp → Option (Int32 × Hp)} {x2 : Int32} {x3 : Int32} {p : Program} {e : Env} {s : State} {m : MethodId} {args : Array Value} {below : List Frame} {meth : Method} {c : Code} (C : CX p s m args meth c cX11_formatShot RX11 4 (some .int) Z) {out : Int32 × Hp} (hr74 : ∀ (x3 : Int32) (g : Hp) (ls : Array Slot) (H : Heap) (locs : List Loc), XW Z h g s.heap H locs → lv_has ls 4 [(0, .ref (Z.1 125)), (1, .int p1), (2, .int x2), (3, .int x3)] → r74 (x3, g) = some out → W p l e (rmD 67) s m args below meth c H locs 0 0 (MQ below (va_Qi (fun r (_ : Unit) => r = out.1) (fun _ => Wd Z h out.2) (FR Z)) args s 0 0 (FR Z)) (F0 m 74 ls [])) {ls : Array Slot} {H : Heap} {locs : List Loc} (hW : XW Z h g s.heap H locs) (hl : lv_has ls 4 [(0, .ref (Z.1 125)), (1, .int p1), (2, .int x2), (3, .int x3)]) (hf : J_X11_formatShot_153 p1 g r74 x2 x3 = some out) : W p l e (rmD 67) s m args below meth c H locs 0 0 (MQ below (va_Qi (fun r (_ : Unit) => r = out.1) (fun _ => Wd Z h out.2) (FR Z)) args s 0 0 (FR Z)) (F0 m 153 ls []) := by
  rw [J_X11_formatShot_153] at hf
  refine x_iinc (w := 1) C hf dX11_formatShot_153 hl (k := 3) rfl (by decide) (by decide) (fun v1 => [(3, .int v1), (0, .ref (Z.1 125)), (1, .int p1), (2, .int x2)]) (fun _ => rfl) (fun v1 ls hf hl => ?_)
  refine lv_goto (tgt := 74) C.1 C.2.1 dX11_formatShot_156 (by decide) ?_
  exact hr74 v1 g ls _ _ hW (lv_sub hl [1, 2, 3, 0] rfl) hf
set_option maxRecDepth 20000 in
set_option maxHeartbeats 1000000 in
theorem j_X11_formatShot_129 {l : Launch} {Z : ZT} {h : Hp} {p1 : Int32} {g : Hp} {r74 : Int32 × Hp → Option (Int32 × Hp)} {x2 : Int32} {x3 : Int32} {p : Program} {e : Env} {s : State} {m : MethodId} {args : Array Value} {below : List Frame} {meth : Method} {c : Code} (C : CX p s m args meth c cX11_formatShot RX11 4 (some .int) Z) {out : Int32 × Hp} (hr74 : ∀ (x3 : Int32) (g : Hp) (ls : Array Slot) (H : Heap) (locs : List Loc), XW Z h g s.heap H locs → lv_has ls 4 [(0, .ref (Z.1 125)), (1, .int p1), (2, .int x2), (3, .int x3)] → r74 (x3, g) = some out → W p l e (rmD 67) s m args below meth c H locs 0 0 (MQ below (va_Qi (fun r (_ : Unit) => r = out.1) (fun _ => Wd Z h out.2) (FR Z)) args s 0 0 (FR Z)) (F0 m 74 ls [])) {ls : Array Slot} {H : Heap} {locs : List Loc} (hW : XW Z h g s.heap H locs) (hl : lv_has ls 4 [(0, .ref (Z.1 125)), (1, .int p1), (2, .int x2), (3, .int x3)]) (hf : J_X11_formatShot_129 p1 g r74 x2 x3 = some out) : W p l e (rmD 67) s m args below meth c H locs 0 0 (MQ below (va_Qi (fun r (_ : Unit) => r = out.1) (fun _ => Wd Z h out.2) (FR Z)) args s 0 0 (FR Z)) (F0 m 129 ls []) := by
  rw [J_X11_formatShot_129] at hf
  refine lv_aload_n C.1 C.2.1 dX11_formatShot_129 rfl (lv_at hl 0 rfl) ?_
  refine lv_aload_n C.1 C.2.1 dX11_formatShot_130 rfl (lv_at hl 0 rfl) ?_
  refine lv_iload_n C.1 C.2.1 dX11_formatShot_131 rfl (lv_at hl 3 rfl) ?_
  refine lv_iconst (v := 1) C.1 C.2.1 dX11_formatShot_132 (by decide) ?_
  obtain ⟨u2, hcu2, hf⟩ := bnd_t hf
  refine x_calli hW (x_runV C hW hl (wk9 (k_125)) rfl rfl (c_X11_of hcu2) (cw_X11_94) ci_X11_of cs_X11_of (rm_ok (by decide) (by decide)) ⟨Nat.le_refl _, Nat.le_refl _⟩ (As := [.int x3, .int (1 : Int32)]) rfl rfl (Nat.le_of_ble_eq_true rfl) dX11_formatShot_133) (fun H locs hW => ?_)
  obtain ⟨u3, hcu3, hf⟩ := bnd_t hf
  refine x_callv hW (x_runV C hW hl (wk9 (k_125)) rfl rfl (c_X11_saysName hcu3) (cw_X11_440) ci_X11_saysName cs_X11_saysName (rm_ok (by decide) (by decide)) ⟨Nat.le_refl _, Nat.le_refl _⟩ (As := [.int u2]) rfl rfl (Nat.le_of_ble_eq_true rfl) dX11_formatShot_136) (fun H locs hW => ?_)
  refine lv_aload_n C.1 C.2.1 dX11_formatShot_139 rfl (lv_at hl 0 rfl) ?_
  refine lv_iload_n C.1 C.2.1 dX11_formatShot_140 rfl (lv_at hl 3 rfl) ?_
  obtain ⟨u4, hcu4, hf⟩ := bnd_t hf
  refine x_calli hW (x_runV C hW hl (wk9 (k_125)) rfl rfl (c_X11_isKept hcu4) (cw_X11_275) ci_X11_isKept cs_X11_isKept (rm_ok (by decide) (by decide)) ⟨Nat.le_refl _, Nat.le_refl _⟩ (As := [.int x3]) rfl rfl (Nat.le_of_ble_eq_true rfl) dX11_formatShot_141) (fun H locs hW => ?_)
  refine x_ifne (tgt := 153) C hf dX11_formatShot_144 (by decide) (fun hf => ?_) (fun hf => ?_)
  · exact j_X11_formatShot_153 C hr74 hW (lv_sub hl [0, 1, 2, 3] rfl) hf
  · refine lv_aload_n C.1 C.2.1 dX11_formatShot_147 rfl (lv_at hl 0 rfl) ?_
    refine lv_bipush (v := 93) C.1 C.2.1 dX11_formatShot_148 (by decide) ?_
    obtain ⟨u5, hcu5, hf⟩ := bnd_t hf
    refine x_callv hW (x_runV C hW hl (wk9 (k_125)) rfl rfl (c_X11_says hcu5) (cw_X11_437) ci_X11_says cs_X11_says (rm_ok (by decide) (by decide)) ⟨Nat.le_refl _, Nat.le_refl _⟩ (As := [.int (93 : Int32)]) rfl rfl (Nat.le_of_ble_eq_true rfl) dX11_formatShot_150) (fun H locs hW => ?_)
    exact j_X11_formatShot_153 C hr74 hW (lv_sub hl [0, 1, 2, 3] rfl) hf
set_option maxRecDepth 20000 in
set_option maxHeartbeats 1000000 in
theorem l_X11_formatShot_74 {l : Launch} {Z : ZT} {h : Hp} {p1 : Int32} {x2 : Int32} {p : Program} {e : Env} {s : State} {m : MethodId} {args : Array Value} {below : List Frame} {meth : Method} {c : Code} (C : CX p s m args meth c cX11_formatShot RX11 4 (some .int) Z) {out : Int32 × Hp} : ∀ (n : Nat) (x3 : Int32) (g : Hp) (ls : Array Slot) (H : Heap) (locs : List Loc), XW Z h g s.heap H locs → lv_has ls 4 [(0, .ref (Z.1 125)), (1, .int p1), (2, .int x2), (3, .int x3)] → Lp (F_X11_formatShot_74 p1 x2) n (x3, g) = some out → W p l e (rmD 67) s m args below meth c H locs 0 0 (MQ below (va_Qi (fun r (_ : Unit) => r = out.1) (fun _ => Wd Z h out.2) (FR Z)) args s 0 0 (FR Z)) (F0 m 74 ls []) := by
  intro n
  induction n with
  | zero => intro x3 g ls H locs hW hl hf; cases hf
  | succ n ih =>
    intro x3 g ls H locs hW hl hf
    rw [Lp_s] at hf
    refine lv_iload_n C.1 C.2.1 dX11_formatShot_74 rfl (lv_at hl 3 rfl) ?_
    refine lv_aload_n C.1 C.2.1 dX11_formatShot_75 rfl (lv_at hl 0 rfl) ?_
    refine xg_X11_29 C hW (k_125) dX11_formatShot_76 ?_
    refine lv_iload_n C.1 C.2.1 dX11_formatShot_79 rfl (lv_at hl 2 rfl) ?_
    refine lv_iconst (v := 1) C.1 C.2.1 dX11_formatShot_80 (by decide) ?_
    refine lv_iadd C.1 C.2.1 dX11_formatShot_81 ?_
    refine x_ialdM C hW a_131 hf dX11_formatShot_82 (fun hf => ?_)
    refine x_cmpge (tgt := 159) C hf dX11_formatShot_83 (by decide) (fun hf => ?_) (fun hf => ?_)
    · refine lv_aload_n C.1 C.2.1 dX11_formatShot_159 rfl (lv_at hl 0 rfl) ?_
      refine xg_X11_431 C hW (k_125) dX11_formatShot_160 ?_
      obtain rfl := Option.some.inj hf
      exact x_iret C hW dX11_formatShot_163 rfl
    · refine lv_aload_n C.1 C.2.1 dX11_formatShot_86 rfl (lv_at hl 0 rfl) ?_
      refine lv_bipush (v := 32) C.1 C.2.1 dX11_formatShot_87 (by decide) ?_
      obtain ⟨u6, hcu6, hf⟩ := bnd_t hf
      refine x_callv hW (x_runV C hW hl (wk9 (k_125)) rfl rfl (c_X11_says hcu6) (cw_X11_437) ci_X11_says cs_X11_says (rm_ok (by decide) (by decide)) ⟨Nat.le_refl _, Nat.le_refl _⟩ (As := [.int (32 : Int32)]) rfl rfl (Nat.le_of_ble_eq_true rfl) dX11_formatShot_89) (fun H locs hW => ?_)
      refine lv_aload_n C.1 C.2.1 dX11_formatShot_92 rfl (lv_at hl 0 rfl) ?_
      refine lv_aload_n C.1 C.2.1 dX11_formatShot_93 rfl (lv_at hl 0 rfl) ?_
      refine xg_X11_13 C hW (k_125) dX11_formatShot_94 ?_
      refine lv_iconst (v := 5) C.1 C.2.1 dX11_formatShot_97 (by decide) ?_
      refine lv_aload_n C.1 C.2.1 dX11_formatShot_98 rfl (lv_at hl 0 rfl) ?_
      refine lv_iload_n C.1 C.2.1 dX11_formatShot_99 rfl (lv_at hl 3 rfl) ?_
      refine lv_iconst (v := 0) C.1 C.2.1 dX11_formatShot_100 (by decide) ?_
      obtain ⟨u7, hcu7, hf⟩ := bnd_t hf
      refine x_calli hW (x_runV C hW hl (wk9 (k_125)) rfl rfl (c_X11_of hcu7) (cw_X11_94) ci_X11_of cs_X11_of (rm_ok (by decide) (by decide)) ⟨Nat.le_refl _, Nat.le_refl _⟩ (As := [.int x3, .int (0 : Int32)]) rfl rfl (Nat.le_of_ble_eq_true rfl) dX11_formatShot_101) (fun H locs hW => ?_)
      refine lv_iadd C.1 C.2.1 dX11_formatShot_104 ?_
      refine x_ialdM C hW a_126 hf dX11_formatShot_105 (fun hf => ?_)
      obtain ⟨u8, hcu8, hf⟩ := bnd_t hf
      refine x_callv hW (x_runV C hW hl (wk9 (k_125)) rfl rfl (c_X11_saysName hcu8) (cw_X11_440) ci_X11_saysName cs_X11_saysName (rm_ok (by decide) (by decide)) ⟨Nat.le_refl _, Nat.le_refl _⟩ (As := [.int (u6 126 (ix ((5 : Int32) + u7)))]) rfl rfl (Nat.le_of_ble_eq_true rfl) dX11_formatShot_106) (fun H locs hW => ?_)
      refine lv_aload_n C.1 C.2.1 dX11_formatShot_109 rfl (lv_at hl 0 rfl) ?_
      refine lv_bipush (v := 58) C.1 C.2.1 dX11_formatShot_110 (by decide) ?_
      obtain ⟨u9, hcu9, hf⟩ := bnd_t hf
      refine x_callv hW (x_runV C hW hl (wk9 (k_125)) rfl rfl (c_X11_says hcu9) (cw_X11_437) ci_X11_says cs_X11_says (rm_ok (by decide) (by decide)) ⟨Nat.le_refl _, Nat.le_refl _⟩ (As := [.int (58 : Int32)]) rfl rfl (Nat.le_of_ble_eq_true rfl) dX11_formatShot_112) (fun H locs hW => ?_)
      refine lv_aload_n C.1 C.2.1 dX11_formatShot_115 rfl (lv_at hl 0 rfl) ?_
      refine lv_iload_n C.1 C.2.1 dX11_formatShot_116 rfl (lv_at hl 3 rfl) ?_
      obtain ⟨u10, hcu10, hf⟩ := bnd_t hf
      refine x_calli hW (x_runV C hW hl (wk9 (k_125)) rfl rfl (c_X11_isKept hcu10) (cw_X11_275) ci_X11_isKept cs_X11_isKept (rm_ok (by decide) (by decide)) ⟨Nat.le_refl _, Nat.le_refl _⟩ (As := [.int x3]) rfl rfl (Nat.le_of_ble_eq_true rfl) dX11_formatShot_117) (fun H locs hW => ?_)
      refine x_ifne (tgt := 129) C hf dX11_formatShot_120 (by decide) (fun hf => ?_) (fun hf => ?_)
      · exact j_X11_formatShot_129 C (fun z0 z1 => ih z0 z1) hW (lv_sub hl [0, 1, 2, 3] rfl) hf
      · refine lv_aload_n C.1 C.2.1 dX11_formatShot_123 rfl (lv_at hl 0 rfl) ?_
        refine lv_bipush (v := 91) C.1 C.2.1 dX11_formatShot_124 (by decide) ?_
        obtain ⟨u11, hcu11, hf⟩ := bnd_t hf
        refine x_callv hW (x_runV C hW hl (wk9 (k_125)) rfl rfl (c_X11_says hcu11) (cw_X11_437) ci_X11_says cs_X11_says (rm_ok (by decide) (by decide)) ⟨Nat.le_refl _, Nat.le_refl _⟩ (As := [.int (91 : Int32)]) rfl rfl (Nat.le_of_ble_eq_true rfl) dX11_formatShot_126) (fun H locs hW => ?_)
        exact j_X11_formatShot_129 C (fun z0 z1 => ih z0 z1) hW (lv_sub hl [0, 1, 2, 3] rfl) hf
set_option maxRecDepth 20000 in
set_option maxHeartbeats 1000000 in
theorem c_X11_formatShot {l : Launch} {Z : ZT} {h : Hp} {g : Hp} {p1 : Int32} {out : Int32 × Hp} (hf : f_X11_formatShot g p1 = some out) : Met l yX11_formatShot (wY yX11_formatShot cX11_formatShot 4 (some .int)) (rmD 67) (va_Pc [.ref (Z.1 125), .int p1] (Wd Z h g)) (va_Qi (fun r (_ : Unit) => r = out.1) (fun _ => Wd Z h out.2) (FR Z)) 0 0 (FR Z) := by
  refine metX RX11 rfl (by decide +kernel) (Nat.le_of_ble_eq_true rfl) ?_
  intro p e s m args below meth c C hW ls hl
  have hl : lv_has ls 4 [(0, .ref (Z.1 125)), (1, .int p1)] := hl
  unfold f_X11_formatShot at hf
  refine lv_aload_n C.1 C.2.1 dX11_formatShot_0 rfl (lv_at hl 0 rfl) ?_
  refine lv_iconst (v := 0) C.1 C.2.1 dX11_formatShot_1 (by decide) ?_
  refine xp_X11_3 C hW (k_125) hf dX11_formatShot_2 (fun g12 H locs hf hW => ?_)
  refine lv_aload_n C.1 C.2.1 dX11_formatShot_5 rfl (lv_at hl 0 rfl) ?_
  refine lv_iload_n C.1 C.2.1 dX11_formatShot_6 rfl (lv_at hl 1 rfl) ?_
  obtain ⟨u13, hcu13, hf⟩ := bnd_t hf
  refine x_calli hW (x_runV C hW hl (wk9 (k_125)) rfl rfl (c_X11_noShot hcu13) (cw_X11_320) ci_X11_noShot cs_X11_noShot (rm_ok (by decide) (by decide)) ⟨Nat.le_refl _, Nat.le_refl _⟩ (As := [.int p1]) rfl rfl (Nat.le_of_ble_eq_true rfl) dX11_formatShot_7) (fun H locs hW => ?_)
  refine x_ifeq (tgt := 15) C hf dX11_formatShot_10 (by decide) (fun hf => ?_) (fun hf => ?_)
  · refine lv_aload_n C.1 C.2.1 dX11_formatShot_15 rfl (lv_at hl 0 rfl) ?_
    refine lv_iconst (v := 0) C.1 C.2.1 dX11_formatShot_16 (by decide) ?_
    refine xp_X11_431 C hW (k_125) hf dX11_formatShot_17 (fun g14 H locs hf hW => ?_)
    refine lv_aload_n C.1 C.2.1 dX11_formatShot_20 rfl (lv_at hl 0 rfl) ?_
    refine lv_iload_n C.1 C.2.1 dX11_formatShot_21 rfl (lv_at hl 1 rfl) ?_
    obtain ⟨u15, hcu15, hf⟩ := bnd_t hf
    refine x_calli hW (x_runV C hW hl (wk9 (k_125)) rfl rfl (c_X11_shotBlock hcu15) (cw_X11_311) ci_X11_shotBlock cs_X11_shotBlock (rm_ok (by decide) (by decide)) ⟨Nat.le_refl _, Nat.le_refl _⟩ (As := [.int p1]) rfl rfl (Nat.le_of_ble_eq_true rfl) dX11_formatShot_22) (fun H locs hW => ?_)
    refine lv_istore_n (lv' := [(2, .int u15), (0, .ref (Z.1 125)), (1, .int p1)]) C.1 C.2.1 dX11_formatShot_25 rfl hl (by decide) rfl (fun ls hl => ?_)
    refine lv_aload_n C.1 C.2.1 dX11_formatShot_26 rfl (lv_at hl 1 rfl) ?_
    refine lv_bipush (v := 115) C.1 C.2.1 dX11_formatShot_27 (by decide) ?_
    obtain ⟨u16, hcu16, hf⟩ := bnd_t hf
    refine x_callv hW (x_runV C hW hl (wk9 (k_125)) rfl rfl (c_X11_says hcu16) (cw_X11_437) ci_X11_says cs_X11_says (rm_ok (by decide) (by decide)) ⟨Nat.le_refl _, Nat.le_refl _⟩ (As := [.int (115 : Int32)]) rfl rfl (Nat.le_of_ble_eq_true rfl) dX11_formatShot_29) (fun H locs hW => ?_)
    refine lv_aload_n C.1 C.2.1 dX11_formatShot_32 rfl (lv_at hl 1 rfl) ?_
    refine lv_iload_n C.1 C.2.1 dX11_formatShot_33 rfl (lv_at hl 2 rfl) ?_
    obtain ⟨u17, hcu17, hf⟩ := bnd_t hf
    refine x_callv hW (x_runV C hW hl (wk9 (k_125)) rfl rfl (c_X11_saysNumber hcu17) (cw_X11_434) ci_X11_saysNumber cs_X11_saysNumber (rm_ok (by decide) (by decide)) ⟨Nat.le_refl _, Nat.le_refl _⟩ (As := [.int p1]) rfl rfl (Nat.le_of_ble_eq_true rfl) dX11_formatShot_34) (fun H locs hW => ?_)
    refine lv_aload_n C.1 C.2.1 dX11_formatShot_37 rfl (lv_at hl 1 rfl) ?_
    refine lv_bipush (v := 32) C.1 C.2.1 dX11_formatShot_38 (by decide) ?_
    obtain ⟨u18, hcu18, hf⟩ := bnd_t hf
    refine x_callv hW (x_runV C hW hl (wk9 (k_125)) rfl rfl (c_X11_says hcu18) (cw_X11_437) ci_X11_says cs_X11_says (rm_ok (by decide) (by decide)) ⟨Nat.le_refl _, Nat.le_refl _⟩ (As := [.int (32 : Int32)]) rfl rfl (Nat.le_of_ble_eq_true rfl) dX11_formatShot_40) (fun H locs hW => ?_)
    refine lv_aload_n C.1 C.2.1 dX11_formatShot_43 rfl (lv_at hl 1 rfl) ?_
    refine lv_aload_n C.1 C.2.1 dX11_formatShot_44 rfl (lv_at hl 1 rfl) ?_
    refine lv_iload_n C.1 C.2.1 dX11_formatShot_45 rfl (lv_at hl 0 rfl) ?_
    obtain ⟨u19, hcu19, hf⟩ := bnd_t hf
    refine x_calli hW (x_runV C hW hl (wk9 (k_125)) rfl rfl (c_X11_playsFrom hcu19) (cw_X11_308) ci_X11_playsFrom cs_X11_playsFrom (rm_ok (by decide) (by decide)) ⟨Nat.le_refl _, Nat.le_refl _⟩ (As := [.int u15]) rfl rfl (Nat.le_of_ble_eq_true rfl) dX11_formatShot_46) (fun H locs hW => ?_)
    obtain ⟨u20, hcu20, hf⟩ := bnd_t hf
    refine x_callv hW (x_runV C hW hl (wk9 (k_125)) rfl rfl (c_X11_saysNumber hcu20) (cw_X11_434) ci_X11_saysNumber cs_X11_saysNumber (rm_ok (by decide) (by decide)) ⟨Nat.le_refl _, Nat.le_refl _⟩ (As := [.int u19]) rfl rfl (Nat.le_of_ble_eq_true rfl) dX11_formatShot_49) (fun H locs hW => ?_)
    refine lv_aload_n C.1 C.2.1 dX11_formatShot_52 rfl (lv_at hl 1 rfl) ?_
    refine lv_bipush (v := 45) C.1 C.2.1 dX11_formatShot_53 (by decide) ?_
    obtain ⟨u21, hcu21, hf⟩ := bnd_t hf
    refine x_callv hW (x_runV C hW hl (wk9 (k_125)) rfl rfl (c_X11_says hcu21) (cw_X11_437) ci_X11_says cs_X11_says (rm_ok (by decide) (by decide)) ⟨Nat.le_refl _, Nat.le_refl _⟩ (As := [.int (45 : Int32)]) rfl rfl (Nat.le_of_ble_eq_true rfl) dX11_formatShot_55) (fun H locs hW => ?_)
    refine lv_aload_n C.1 C.2.1 dX11_formatShot_58 rfl (lv_at hl 1 rfl) ?_
    refine lv_aload_n C.1 C.2.1 dX11_formatShot_59 rfl (lv_at hl 1 rfl) ?_
    refine lv_iload_n C.1 C.2.1 dX11_formatShot_60 rfl (lv_at hl 0 rfl) ?_
    obtain ⟨u22, hcu22, hf⟩ := bnd_t hf
    refine x_calli hW (x_runV C hW hl (wk9 (k_125)) rfl rfl (c_X11_playsTo hcu22) (cw_X11_305) ci_X11_playsTo cs_X11_playsTo (rm_ok (by decide) (by decide)) ⟨Nat.le_refl _, Nat.le_refl _⟩ (As := [.int u15]) rfl rfl (Nat.le_of_ble_eq_true rfl) dX11_formatShot_61) (fun H locs hW => ?_)
    obtain ⟨u23, hcu23, hf⟩ := bnd_t hf
    refine x_callv hW (x_runV C hW hl (wk9 (k_125)) rfl rfl (c_X11_saysNumber hcu23) (cw_X11_434) ci_X11_saysNumber cs_X11_saysNumber (rm_ok (by decide) (by decide)) ⟨Nat.le_refl _, Nat.le_refl _⟩ (As := [.int u22]) rfl rfl (Nat.le_of_ble_eq_true rfl) dX11_formatShot_64) (fun H locs hW => ?_)
    refine lv_aload_n C.1 C.2.1 dX11_formatShot_67 rfl (lv_at hl 1 rfl) ?_
    refine xg_X11_29 C hW (k_125) dX11_formatShot_68 ?_
    refine lv_iload_n C.1 C.2.1 dX11_formatShot_71 rfl (lv_at hl 0 rfl) ?_
    refine x_ialdM C hW a_131 hf dX11_formatShot_72 (fun hf => ?_)
    refine x_istn C hf dX11_formatShot_73 rfl hl (by decide) (fun v24 => [(3, .int v24), (2, .int u15), (0, .ref (Z.1 125)), (1, .int p1)]) (fun _ => rfl) (fun v24 ls hf hl => ?_)
    exact l_X11_formatShot_74 C FU v24 u23 ls _ _ hW (lv_sub hl [2, 3, 1, 0] rfl) hf
  · refine lv_iconst (v := 0) C.1 C.2.1 dX11_formatShot_13 (by decide) ?_
    obtain rfl := Option.some.inj hf
    exact x_iret C hW dX11_formatShot_14 rfl
set_option maxRecDepth 20000 in
set_option maxHeartbeats 1000000 in
theorem c_X11_formattedByte {l : Launch} {Z : ZT} {h : Hp} {g : Hp} {p1 : Int32} {out : Int32 × Hp} (hf : f_X11_formattedByte g p1 = some out) : Met l yX11_formattedByte (wY yX11_formattedByte cX11_formattedByte 2 (some .int)) (rmD 1) (va_Pc [.ref (Z.1 125), .int p1] (Wd Z h g)) (va_Qi (fun r (_ : Unit) => r = out.1) (fun _ => Wd Z h out.2) (FR Z)) 0 0 (FR Z) := by
  refine metX RX11 rfl (by decide +kernel) (Nat.le_of_ble_eq_true rfl) ?_
  intro p e s m args below meth c C hW ls hl
  have hl : lv_has ls 2 [(0, .ref (Z.1 125)), (1, .int p1)] := hl
  unfold f_X11_formattedByte at hf
  refine lv_aload_n C.1 C.2.1 dX11_formattedByte_0 rfl (lv_at hl 0 rfl) ?_
  refine lv_iconst (v := 0) C.1 C.2.1 dX11_formattedByte_1 (by decide) ?_
  refine xp_X11_3 C hW (k_125) hf dX11_formattedByte_2 (fun g1 H locs hf hW => ?_)
  refine lv_iload_n C.1 C.2.1 dX11_formattedByte_5 rfl (lv_at hl 1 rfl) ?_
  refine lv_iconst (v := 0) C.1 C.2.1 dX11_formattedByte_6 (by decide) ?_
  refine lv_aload_n C.1 C.2.1 dX11_formattedByte_7 rfl (lv_at hl 0 rfl) ?_
  refine xg_X11_431 C hW (k_125) dX11_formattedByte_8 ?_
  refine lv_iconst (v := 1) C.1 C.2.1 dX11_formattedByte_11 (by decide) ?_
  refine lv_isub C.1 C.2.1 dX11_formattedByte_12 ?_
  obtain ⟨u2, hcu2, hf⟩ := bnd_t hf
  refine x_calli hW (x_runS C hW hl (c_X11_in hcu2) (cw_X11_166) ct_X11_in (rm_ok (by decide) (by decide)) ⟨Nat.le_refl _, Nat.le_refl _⟩ (As := [.int p1, .int (0 : Int32), .int (g1 125 42 - (1 : Int32))]) rfl rfl (Nat.le_of_ble_eq_true rfl) dX11_formattedByte_13) (fun H locs hW => ?_)
  refine x_ifeq (tgt := 28) C hf dX11_formattedByte_16 (by decide) (fun hf => ?_) (fun hf => ?_)
  · refine lv_iconst (v := -1) C.1 C.2.1 dX11_formattedByte_28 (by decide) ?_
    obtain rfl := Option.some.inj hf
    exact x_iret C hW dX11_formattedByte_29 rfl
  · refine lv_aload_n C.1 C.2.1 dX11_formattedByte_19 rfl (lv_at hl 0 rfl) ?_
    refine xg_X11_72 C hW (k_125) dX11_formattedByte_20 ?_
    refine lv_iload_n C.1 C.2.1 dX11_formattedByte_23 rfl (lv_at hl 1 rfl) ?_
    refine x_baldM C hW a_144 hf dX11_formattedByte_24 (fun hf => ?_)
    refine lv_goto (tgt := 29) C.1 C.2.1 dX11_formattedByte_25 (by decide) ?_
    obtain rfl := Option.some.inj hf
    exact x_iret C hW dX11_formattedByte_29 rfl
