abbrev cX11_thrown : ByteArray := prog_13_method_1_code
def yX11_thrown : MethodName := ⟨RX11, "thrown", "()I"⟩
theorem dX11_thrown_0 : decode cX11_thrown 0 = .ok (.aload_n 0, 1) := by decide +kernel
theorem dX11_thrown_1 : decode cX11_thrown 1 = .ok (.getfield 3, 3) := by decide +kernel
theorem dX11_thrown_4 : decode cX11_thrown 4 = .ok (.ireturn, 1) := by decide +kernel
theorem ci_X11_thrown : Cond.instanceMethod yX11_thrown ∈ TW := TW_of 1360 (by decide +kernel) (by decide +kernel)
theorem cs_X11_thrown : Cond.selects yX11_thrown.cls yX11_thrown yX11_thrown ∈ TW := TW_of 1361 (by decide +kernel) (by decide +kernel)
abbrev cX11_throwsIf : ByteArray := prog_13_method_2_code
def yX11_throwsIf : MethodName := ⟨RX11, "throwsIf", "(ZI)Z"⟩
theorem dX11_throwsIf_0 : decode cX11_throwsIf 0 = .ok (.iload_n 1, 1) := by decide +kernel
theorem dX11_throwsIf_1 : decode cX11_throwsIf 1 = .ok (.ifCond .eq 8, 3) := by decide +kernel
theorem dX11_throwsIf_4 : decode cX11_throwsIf 4 = .ok (.aload_n 0, 1) := by decide +kernel
theorem dX11_throwsIf_5 : decode cX11_throwsIf 5 = .ok (.iload_n 2, 1) := by decide +kernel
theorem dX11_throwsIf_6 : decode cX11_throwsIf 6 = .ok (.putfield 3, 3) := by decide +kernel
theorem dX11_throwsIf_9 : decode cX11_throwsIf 9 = .ok (.iload_n 1, 1) := by decide +kernel
theorem dX11_throwsIf_10 : decode cX11_throwsIf 10 = .ok (.ireturn, 1) := by decide +kernel
theorem ci_X11_throwsIf : Cond.instanceMethod yX11_throwsIf ∈ TW := TW_of 1655 (by decide +kernel) (by decide +kernel)
theorem cs_X11_throwsIf : Cond.selects yX11_throwsIf.cls yX11_throwsIf yX11_throwsIf ∈ TW := TW_of 50 (by decide +kernel) (by decide +kernel)
abbrev cX11_in : ByteArray := prog_13_method_3_code
def yX11_in : MethodName := ⟨RX11, "in", "(III)Z"⟩
theorem dX11_in_0 : decode cX11_in 0 = .ok (.iload_n 0, 1) := by decide +kernel
theorem dX11_in_1 : decode cX11_in 1 = .ok (.iload_n 1, 1) := by decide +kernel
theorem dX11_in_2 : decode cX11_in 2 = .ok (.if_icmp .lt 12, 3) := by decide +kernel
theorem dX11_in_5 : decode cX11_in 5 = .ok (.iload_n 0, 1) := by decide +kernel
theorem dX11_in_6 : decode cX11_in 6 = .ok (.iload_n 2, 1) := by decide +kernel
theorem dX11_in_7 : decode cX11_in 7 = .ok (.if_icmp .gt 7, 3) := by decide +kernel
theorem dX11_in_10 : decode cX11_in 10 = .ok (.iconst 1, 1) := by decide +kernel
theorem dX11_in_11 : decode cX11_in 11 = .ok (.goto 4, 3) := by decide +kernel
theorem dX11_in_14 : decode cX11_in 14 = .ok (.iconst 0, 1) := by decide +kernel
theorem dX11_in_15 : decode cX11_in 15 = .ok (.ireturn, 1) := by decide +kernel
theorem ct_X11_in : Cond.static yX11_in ∈ TW := TW_of 1598 (by decide +kernel) (by decide +kernel)
abbrev cX11_begins : ByteArray := prog_13_method_5_code
def yX11_begins : MethodName := ⟨RX11, "begins", "()V"⟩
theorem dX11_begins_0 : decode cX11_begins 0 = .ok (.iconst 0, 1) := by decide +kernel
theorem dX11_begins_1 : decode cX11_begins 1 = .ok (.istore_n 1, 1) := by decide +kernel
theorem dX11_begins_2 : decode cX11_begins 2 = .ok (.iload_n 1, 1) := by decide +kernel
theorem dX11_begins_3 : decode cX11_begins 3 = .ok (.sipush 193, 3) := by decide +kernel
theorem dX11_begins_6 : decode cX11_begins 6 = .ok (.if_icmp .ge 16, 3) := by decide +kernel
theorem dX11_begins_9 : decode cX11_begins 9 = .ok (.aload_n 0, 1) := by decide +kernel
theorem dX11_begins_10 : decode cX11_begins 10 = .ok (.getfield 17, 3) := by decide +kernel
theorem dX11_begins_13 : decode cX11_begins 13 = .ok (.iload_n 1, 1) := by decide +kernel
theorem dX11_begins_14 : decode cX11_begins 14 = .ok (.iconst 0, 1) := by decide +kernel
theorem dX11_begins_15 : decode cX11_begins 15 = .ok (.iastore, 1) := by decide +kernel
theorem dX11_begins_16 : decode cX11_begins 16 = .ok (.iinc 1 1, 3) := by decide +kernel
theorem dX11_begins_19 : decode cX11_begins 19 = .ok (.goto (-17), 3) := by decide +kernel
theorem dX11_begins_22 : decode cX11_begins 22 = .ok (.aload_n 0, 1) := by decide +kernel
theorem dX11_begins_23 : decode cX11_begins 23 = .ok (.getfield 17, 3) := by decide +kernel
theorem dX11_begins_26 : decode cX11_begins 26 = .ok (.iconst 0, 1) := by decide +kernel
theorem dX11_begins_27 : decode cX11_begins 27 = .ok (.sipush 1000, 3) := by decide +kernel
theorem dX11_begins_30 : decode cX11_begins 30 = .ok (.iastore, 1) := by decide +kernel
theorem dX11_begins_31 : decode cX11_begins 31 = .ok (.aload_n 0, 1) := by decide +kernel
theorem dX11_begins_32 : decode cX11_begins 32 = .ok (.getfield 17, 3) := by decide +kernel
theorem dX11_begins_35 : decode cX11_begins 35 = .ok (.iconst 1, 1) := by decide +kernel
theorem dX11_begins_36 : decode cX11_begins 36 = .ok (.bipush 12, 2) := by decide +kernel
theorem dX11_begins_38 : decode cX11_begins 38 = .ok (.iastore, 1) := by decide +kernel
theorem dX11_begins_39 : decode cX11_begins 39 = .ok (.return_, 1) := by decide +kernel
theorem ci_X11_begins : Cond.instanceMethod yX11_begins ∈ TW := TW_of 1371 (by decide +kernel) (by decide +kernel)
theorem cs_X11_begins : Cond.selects yX11_begins.cls yX11_begins yX11_begins ∈ TW := TW_of 22 (by decide +kernel) (by decide +kernel)
abbrev cX11_laysCut : ByteArray := prog_13_method_16_code
def yX11_laysCut : MethodName := ⟨RX11, "laysCut", "(I)V"⟩
theorem dX11_laysCut_0 : decode cX11_laysCut 0 = .ok (.aload_n 0, 1) := by decide +kernel
theorem dX11_laysCut_1 : decode cX11_laysCut 1 = .ok (.getfield 26, 3) := by decide +kernel
theorem dX11_laysCut_4 : decode cX11_laysCut 4 = .ok (.iload_n 1, 1) := by decide +kernel
theorem dX11_laysCut_5 : decode cX11_laysCut 5 = .ok (.iaload, 1) := by decide +kernel
theorem dX11_laysCut_6 : decode cX11_laysCut 6 = .ok (.istore_n 2, 1) := by decide +kernel
theorem dX11_laysCut_7 : decode cX11_laysCut 7 = .ok (.aload_n 0, 1) := by decide +kernel
theorem dX11_laysCut_8 : decode cX11_laysCut 8 = .ok (.getfield 23, 3) := by decide +kernel
theorem dX11_laysCut_11 : decode cX11_laysCut 11 = .ok (.iload_n 1, 1) := by decide +kernel
theorem dX11_laysCut_12 : decode cX11_laysCut 12 = .ok (.iconst 1, 1) := by decide +kernel
theorem dX11_laysCut_13 : decode cX11_laysCut 13 = .ok (.iadd, 1) := by decide +kernel
theorem dX11_laysCut_14 : decode cX11_laysCut 14 = .ok (.iaload, 1) := by decide +kernel
theorem dX11_laysCut_15 : decode cX11_laysCut 15 = .ok (.istore_n 3, 1) := by decide +kernel
theorem dX11_laysCut_16 : decode cX11_laysCut 16 = .ok (.iconst 0, 1) := by decide +kernel
theorem dX11_laysCut_17 : decode cX11_laysCut 17 = .ok (.istore 4, 2) := by decide +kernel
theorem dX11_laysCut_19 : decode cX11_laysCut 19 = .ok (.aload_n 0, 1) := by decide +kernel
theorem dX11_laysCut_20 : decode cX11_laysCut 20 = .ok (.getfield 32, 3) := by decide +kernel
theorem dX11_laysCut_23 : decode cX11_laysCut 23 = .ok (.iload_n 1, 1) := by decide +kernel
theorem dX11_laysCut_24 : decode cX11_laysCut 24 = .ok (.iload_n 2, 1) := by decide +kernel
theorem dX11_laysCut_25 : decode cX11_laysCut 25 = .ok (.iload_n 3, 1) := by decide +kernel
theorem dX11_laysCut_26 : decode cX11_laysCut 26 = .ok (.iadd, 1) := by decide +kernel
theorem dX11_laysCut_27 : decode cX11_laysCut 27 = .ok (.iconst 2, 1) := by decide +kernel
theorem dX11_laysCut_28 : decode cX11_laysCut 28 = .ok (.idiv, 1) := by decide +kernel
theorem dX11_laysCut_29 : decode cX11_laysCut 29 = .ok (.iastore, 1) := by decide +kernel
theorem dX11_laysCut_30 : decode cX11_laysCut 30 = .ok (.aload_n 0, 1) := by decide +kernel
theorem dX11_laysCut_31 : decode cX11_laysCut 31 = .ok (.getfield 35, 3) := by decide +kernel
theorem dX11_laysCut_34 : decode cX11_laysCut 34 = .ok (.iload_n 1, 1) := by decide +kernel
theorem dX11_laysCut_35 : decode cX11_laysCut 35 = .ok (.iconst 0, 1) := by decide +kernel
theorem dX11_laysCut_36 : decode cX11_laysCut 36 = .ok (.iastore, 1) := by decide +kernel
theorem dX11_laysCut_37 : decode cX11_laysCut 37 = .ok (.iconst 0, 1) := by decide +kernel
theorem dX11_laysCut_38 : decode cX11_laysCut 38 = .ok (.istore 5, 2) := by decide +kernel
theorem dX11_laysCut_40 : decode cX11_laysCut 40 = .ok (.iload 5, 2) := by decide +kernel
theorem dX11_laysCut_42 : decode cX11_laysCut 42 = .ok (.aload_n 0, 1) := by decide +kernel
theorem dX11_laysCut_43 : decode cX11_laysCut 43 = .ok (.getfield 13, 3) := by decide +kernel
theorem dX11_laysCut_46 : decode cX11_laysCut 46 = .ok (.iconst 4, 1) := by decide +kernel
theorem dX11_laysCut_47 : decode cX11_laysCut 47 = .ok (.iaload, 1) := by decide +kernel
theorem dX11_laysCut_48 : decode cX11_laysCut 48 = .ok (.if_icmp .ge 89, 3) := by decide +kernel
theorem dX11_laysCut_51 : decode cX11_laysCut 51 = .ok (.iload_n 2, 1) := by decide +kernel
theorem dX11_laysCut_52 : decode cX11_laysCut 52 = .ok (.aload_n 0, 1) := by decide +kernel
theorem dX11_laysCut_53 : decode cX11_laysCut 53 = .ok (.getfield 13, 3) := by decide +kernel
theorem dX11_laysCut_56 : decode cX11_laysCut 56 = .ok (.sipush 169, 3) := by decide +kernel
theorem dX11_laysCut_59 : decode cX11_laysCut 59 = .ok (.iconst 2, 1) := by decide +kernel
theorem dX11_laysCut_60 : decode cX11_laysCut 60 = .ok (.iload 5, 2) := by decide +kernel
theorem dX11_laysCut_62 : decode cX11_laysCut 62 = .ok (.imul, 1) := by decide +kernel
theorem dX11_laysCut_63 : decode cX11_laysCut 63 = .ok (.iadd, 1) := by decide +kernel
theorem dX11_laysCut_64 : decode cX11_laysCut 64 = .ok (.iaload, 1) := by decide +kernel
theorem dX11_laysCut_65 : decode cX11_laysCut 65 = .ok (.invokestatic 98, 3) := by decide +kernel
theorem dX11_laysCut_68 : decode cX11_laysCut 68 = .ok (.istore 6, 2) := by decide +kernel
theorem dX11_laysCut_70 : decode cX11_laysCut 70 = .ok (.iload_n 3, 1) := by decide +kernel
theorem dX11_laysCut_71 : decode cX11_laysCut 71 = .ok (.aload_n 0, 1) := by decide +kernel
theorem dX11_laysCut_72 : decode cX11_laysCut 72 = .ok (.getfield 13, 3) := by decide +kernel
theorem dX11_laysCut_75 : decode cX11_laysCut 75 = .ok (.sipush 169, 3) := by decide +kernel
theorem dX11_laysCut_78 : decode cX11_laysCut 78 = .ok (.iconst 2, 1) := by decide +kernel
theorem dX11_laysCut_79 : decode cX11_laysCut 79 = .ok (.iload 5, 2) := by decide +kernel
theorem dX11_laysCut_81 : decode cX11_laysCut 81 = .ok (.imul, 1) := by decide +kernel
theorem dX11_laysCut_82 : decode cX11_laysCut 82 = .ok (.iadd, 1) := by decide +kernel
theorem dX11_laysCut_83 : decode cX11_laysCut 83 = .ok (.iconst 1, 1) := by decide +kernel
theorem dX11_laysCut_84 : decode cX11_laysCut 84 = .ok (.iadd, 1) := by decide +kernel
theorem dX11_laysCut_85 : decode cX11_laysCut 85 = .ok (.iaload, 1) := by decide +kernel
theorem dX11_laysCut_86 : decode cX11_laysCut 86 = .ok (.invokestatic 107, 3) := by decide +kernel
theorem dX11_laysCut_89 : decode cX11_laysCut 89 = .ok (.istore 7, 2) := by decide +kernel
theorem dX11_laysCut_91 : decode cX11_laysCut 91 = .ok (.iload 7, 2) := by decide +kernel
theorem dX11_laysCut_93 : decode cX11_laysCut 93 = .ok (.iload 6, 2) := by decide +kernel
theorem dX11_laysCut_95 : decode cX11_laysCut 95 = .ok (.isub, 1) := by decide +kernel
theorem dX11_laysCut_96 : decode cX11_laysCut 96 = .ok (.iload 4, 2) := by decide +kernel
theorem dX11_laysCut_98 : decode cX11_laysCut 98 = .ok (.if_icmp .gt 6, 3) := by decide +kernel
theorem dX11_laysCut_101 : decode cX11_laysCut 101 = .ok (.goto 30, 3) := by decide +kernel
theorem dX11_laysCut_104 : decode cX11_laysCut 104 = .ok (.iload 7, 2) := by decide +kernel
theorem dX11_laysCut_106 : decode cX11_laysCut 106 = .ok (.iload 6, 2) := by decide +kernel
theorem dX11_laysCut_108 : decode cX11_laysCut 108 = .ok (.isub, 1) := by decide +kernel
theorem dX11_laysCut_109 : decode cX11_laysCut 109 = .ok (.istore 4, 2) := by decide +kernel
theorem dX11_laysCut_111 : decode cX11_laysCut 111 = .ok (.aload_n 0, 1) := by decide +kernel
theorem dX11_laysCut_112 : decode cX11_laysCut 112 = .ok (.getfield 32, 3) := by decide +kernel
theorem dX11_laysCut_115 : decode cX11_laysCut 115 = .ok (.iload_n 1, 1) := by decide +kernel
theorem dX11_laysCut_116 : decode cX11_laysCut 116 = .ok (.iload 6, 2) := by decide +kernel
theorem dX11_laysCut_118 : decode cX11_laysCut 118 = .ok (.iload 7, 2) := by decide +kernel
theorem dX11_laysCut_120 : decode cX11_laysCut 120 = .ok (.iadd, 1) := by decide +kernel
theorem dX11_laysCut_121 : decode cX11_laysCut 121 = .ok (.iconst 2, 1) := by decide +kernel
theorem dX11_laysCut_122 : decode cX11_laysCut 122 = .ok (.idiv, 1) := by decide +kernel
theorem dX11_laysCut_123 : decode cX11_laysCut 123 = .ok (.iastore, 1) := by decide +kernel
theorem dX11_laysCut_124 : decode cX11_laysCut 124 = .ok (.aload_n 0, 1) := by decide +kernel
theorem dX11_laysCut_125 : decode cX11_laysCut 125 = .ok (.getfield 35, 3) := by decide +kernel
theorem dX11_laysCut_128 : decode cX11_laysCut 128 = .ok (.iload_n 1, 1) := by decide +kernel
theorem dX11_laysCut_129 : decode cX11_laysCut 129 = .ok (.iconst 1, 1) := by decide +kernel
theorem dX11_laysCut_130 : decode cX11_laysCut 130 = .ok (.iastore, 1) := by decide +kernel
theorem dX11_laysCut_131 : decode cX11_laysCut 131 = .ok (.iinc 5 1, 3) := by decide +kernel
theorem dX11_laysCut_134 : decode cX11_laysCut 134 = .ok (.goto (-94), 3) := by decide +kernel
theorem dX11_laysCut_137 : decode cX11_laysCut 137 = .ok (.return_, 1) := by decide +kernel
theorem ci_X11_laysCut : Cond.instanceMethod yX11_laysCut ∈ TW := TW_of 1392 (by decide +kernel) (by decide +kernel)
theorem cs_X11_laysCut : Cond.selects yX11_laysCut.cls yX11_laysCut yX11_laysCut ∈ TW := TW_of 27 (by decide +kernel) (by decide +kernel)
abbrev cX11_of : ByteArray := prog_13_method_13_code
def yX11_of : MethodName := ⟨RX11, "of", "(II)I"⟩
theorem dX11_of_0 : decode cX11_of 0 = .ok (.aload_n 0, 1) := by decide +kernel
theorem dX11_of_1 : decode cX11_of 1 = .ok (.getfield 13, 3) := by decide +kernel
theorem dX11_of_4 : decode cX11_of 4 = .ok (.bipush 9, 2) := by decide +kernel
theorem dX11_of_6 : decode cX11_of 6 = .ok (.iconst 4, 1) := by decide +kernel
theorem dX11_of_7 : decode cX11_of 7 = .ok (.iload_n 1, 1) := by decide +kernel
theorem dX11_of_8 : decode cX11_of 8 = .ok (.imul, 1) := by decide +kernel
theorem dX11_of_9 : decode cX11_of 9 = .ok (.iadd, 1) := by decide +kernel
theorem dX11_of_10 : decode cX11_of 10 = .ok (.iload_n 2, 1) := by decide +kernel
theorem dX11_of_11 : decode cX11_of 11 = .ok (.iadd, 1) := by decide +kernel
theorem dX11_of_12 : decode cX11_of 12 = .ok (.iaload, 1) := by decide +kernel
theorem dX11_of_13 : decode cX11_of 13 = .ok (.ireturn, 1) := by decide +kernel
theorem ci_X11_of : Cond.instanceMethod yX11_of ∈ TW := TW_of 1387 (by decide +kernel) (by decide +kernel)
theorem cs_X11_of : Cond.selects yX11_of.cls yX11_of yX11_of ∈ TW := TW_of 26 (by decide +kernel) (by decide +kernel)
abbrev cX11_words : ByteArray := prog_13_method_12_code
def yX11_words : MethodName := ⟨RX11, "words", "()I"⟩
theorem dX11_words_0 : decode cX11_words 0 = .ok (.aload_n 0, 1) := by decide +kernel
theorem dX11_words_1 : decode cX11_words 1 = .ok (.getfield 13, 3) := by decide +kernel
theorem dX11_words_4 : decode cX11_words 4 = .ok (.iconst 3, 1) := by decide +kernel
theorem dX11_words_5 : decode cX11_words 5 = .ok (.iaload, 1) := by decide +kernel
theorem dX11_words_6 : decode cX11_words 6 = .ok (.ireturn, 1) := by decide +kernel
theorem ci_X11_words : Cond.instanceMethod yX11_words ∈ TW := TW_of 1383 (by decide +kernel) (by decide +kernel)
theorem cs_X11_words : Cond.selects yX11_words.cls yX11_words yX11_words ∈ TW := TW_of 25 (by decide +kernel) (by decide +kernel)
abbrev cX11_laysBlocks : ByteArray := prog_13_method_15_code
def yX11_laysBlocks : MethodName := ⟨RX11, "laysBlocks", "()V"⟩
theorem dX11_laysBlocks_0 : decode cX11_laysBlocks 0 = .ok (.aload_n 0, 1) := by decide +kernel
theorem dX11_laysBlocks_1 : decode cX11_laysBlocks 1 = .ok (.iconst 0, 1) := by decide +kernel
theorem dX11_laysBlocks_2 : decode cX11_laysBlocks 2 = .ok (.putfield 84, 3) := by decide +kernel
theorem dX11_laysBlocks_5 : decode cX11_laysBlocks 5 = .ok (.iconst 0, 1) := by decide +kernel
theorem dX11_laysBlocks_6 : decode cX11_laysBlocks 6 = .ok (.istore_n 1, 1) := by decide +kernel
theorem dX11_laysBlocks_7 : decode cX11_laysBlocks 7 = .ok (.iload_n 1, 1) := by decide +kernel
theorem dX11_laysBlocks_8 : decode cX11_laysBlocks 8 = .ok (.aload_n 0, 1) := by decide +kernel
theorem dX11_laysBlocks_9 : decode cX11_laysBlocks 9 = .ok (.invokevirtual 90, 3) := by decide +kernel
theorem dX11_laysBlocks_12 : decode cX11_laysBlocks 12 = .ok (.if_icmp .ge 129, 3) := by decide +kernel
theorem dX11_laysBlocks_15 : decode cX11_laysBlocks 15 = .ok (.aload_n 0, 1) := by decide +kernel
theorem dX11_laysBlocks_16 : decode cX11_laysBlocks 16 = .ok (.getfield 84, 3) := by decide +kernel
theorem dX11_laysBlocks_19 : decode cX11_laysBlocks 19 = .ok (.ifCond .eq 23, 3) := by decide +kernel
theorem dX11_laysBlocks_22 : decode cX11_laysBlocks 22 = .ok (.aload_n 0, 1) := by decide +kernel
theorem dX11_laysBlocks_23 : decode cX11_laysBlocks 23 = .ok (.iload_n 1, 1) := by decide +kernel
theorem dX11_laysBlocks_24 : decode cX11_laysBlocks 24 = .ok (.iconst 2, 1) := by decide +kernel
theorem dX11_laysBlocks_25 : decode cX11_laysBlocks 25 = .ok (.invokevirtual 94, 3) := by decide +kernel
theorem dX11_laysBlocks_28 : decode cX11_laysBlocks 28 = .ok (.aload_n 0, 1) := by decide +kernel
theorem dX11_laysBlocks_29 : decode cX11_laysBlocks 29 = .ok (.getfield 26, 3) := by decide +kernel
theorem dX11_laysBlocks_32 : decode cX11_laysBlocks 32 = .ok (.aload_n 0, 1) := by decide +kernel
theorem dX11_laysBlocks_33 : decode cX11_laysBlocks 33 = .ok (.getfield 84, 3) := by decide +kernel
theorem dX11_laysBlocks_36 : decode cX11_laysBlocks 36 = .ok (.iconst 1, 1) := by decide +kernel
theorem dX11_laysBlocks_37 : decode cX11_laysBlocks 37 = .ok (.isub, 1) := by decide +kernel
theorem dX11_laysBlocks_38 : decode cX11_laysBlocks 38 = .ok (.iaload, 1) := by decide +kernel
theorem dX11_laysBlocks_39 : decode cX11_laysBlocks 39 = .ok (.if_icmp .lt 53, 3) := by decide +kernel
theorem dX11_laysBlocks_42 : decode cX11_laysBlocks 42 = .ok (.aload_n 0, 1) := by decide +kernel
theorem dX11_laysBlocks_43 : decode cX11_laysBlocks 43 = .ok (.getfield 29, 3) := by decide +kernel
theorem dX11_laysBlocks_46 : decode cX11_laysBlocks 46 = .ok (.aload_n 0, 1) := by decide +kernel
theorem dX11_laysBlocks_47 : decode cX11_laysBlocks 47 = .ok (.getfield 84, 3) := by decide +kernel
theorem dX11_laysBlocks_50 : decode cX11_laysBlocks 50 = .ok (.iload_n 1, 1) := by decide +kernel
theorem dX11_laysBlocks_51 : decode cX11_laysBlocks 51 = .ok (.iastore, 1) := by decide +kernel
theorem dX11_laysBlocks_52 : decode cX11_laysBlocks 52 = .ok (.aload_n 0, 1) := by decide +kernel
theorem dX11_laysBlocks_53 : decode cX11_laysBlocks 53 = .ok (.getfield 23, 3) := by decide +kernel
theorem dX11_laysBlocks_56 : decode cX11_laysBlocks 56 = .ok (.aload_n 0, 1) := by decide +kernel
theorem dX11_laysBlocks_57 : decode cX11_laysBlocks 57 = .ok (.getfield 84, 3) := by decide +kernel
theorem dX11_laysBlocks_60 : decode cX11_laysBlocks 60 = .ok (.aload_n 0, 1) := by decide +kernel
theorem dX11_laysBlocks_61 : decode cX11_laysBlocks 61 = .ok (.iload_n 1, 1) := by decide +kernel
theorem dX11_laysBlocks_62 : decode cX11_laysBlocks 62 = .ok (.iconst 2, 1) := by decide +kernel
theorem dX11_laysBlocks_63 : decode cX11_laysBlocks 63 = .ok (.invokevirtual 94, 3) := by decide +kernel
theorem dX11_laysBlocks_66 : decode cX11_laysBlocks 66 = .ok (.iastore, 1) := by decide +kernel
theorem dX11_laysBlocks_67 : decode cX11_laysBlocks 67 = .ok (.aload_n 0, 1) := by decide +kernel
theorem dX11_laysBlocks_68 : decode cX11_laysBlocks 68 = .ok (.getfield 26, 3) := by decide +kernel
theorem dX11_laysBlocks_71 : decode cX11_laysBlocks 71 = .ok (.aload_n 0, 1) := by decide +kernel
theorem dX11_laysBlocks_72 : decode cX11_laysBlocks 72 = .ok (.getfield 84, 3) := by decide +kernel
theorem dX11_laysBlocks_75 : decode cX11_laysBlocks 75 = .ok (.aload_n 0, 1) := by decide +kernel
theorem dX11_laysBlocks_76 : decode cX11_laysBlocks 76 = .ok (.iload_n 1, 1) := by decide +kernel
theorem dX11_laysBlocks_77 : decode cX11_laysBlocks 77 = .ok (.iconst 3, 1) := by decide +kernel
theorem dX11_laysBlocks_78 : decode cX11_laysBlocks 78 = .ok (.invokevirtual 94, 3) := by decide +kernel
theorem dX11_laysBlocks_81 : decode cX11_laysBlocks 81 = .ok (.iastore, 1) := by decide +kernel
theorem dX11_laysBlocks_82 : decode cX11_laysBlocks 82 = .ok (.aload_n 0, 1) := by decide +kernel
theorem dX11_laysBlocks_83 : decode cX11_laysBlocks 83 = .ok (.dup, 1) := by decide +kernel
theorem dX11_laysBlocks_84 : decode cX11_laysBlocks 84 = .ok (.getfield 84, 3) := by decide +kernel
theorem dX11_laysBlocks_87 : decode cX11_laysBlocks 87 = .ok (.iconst 1, 1) := by decide +kernel
theorem dX11_laysBlocks_88 : decode cX11_laysBlocks 88 = .ok (.iadd, 1) := by decide +kernel
theorem dX11_laysBlocks_89 : decode cX11_laysBlocks 89 = .ok (.putfield 84, 3) := by decide +kernel
theorem dX11_laysBlocks_92 : decode cX11_laysBlocks 92 = .ok (.aload_n 0, 1) := by decide +kernel
theorem dX11_laysBlocks_93 : decode cX11_laysBlocks 93 = .ok (.getfield 20, 3) := by decide +kernel
theorem dX11_laysBlocks_96 : decode cX11_laysBlocks 96 = .ok (.iload_n 1, 1) := by decide +kernel
theorem dX11_laysBlocks_97 : decode cX11_laysBlocks 97 = .ok (.aload_n 0, 1) := by decide +kernel
theorem dX11_laysBlocks_98 : decode cX11_laysBlocks 98 = .ok (.getfield 84, 3) := by decide +kernel
theorem dX11_laysBlocks_101 : decode cX11_laysBlocks 101 = .ok (.iconst 1, 1) := by decide +kernel
theorem dX11_laysBlocks_102 : decode cX11_laysBlocks 102 = .ok (.isub, 1) := by decide +kernel
theorem dX11_laysBlocks_103 : decode cX11_laysBlocks 103 = .ok (.iastore, 1) := by decide +kernel
theorem dX11_laysBlocks_104 : decode cX11_laysBlocks 104 = .ok (.aload_n 0, 1) := by decide +kernel
theorem dX11_laysBlocks_105 : decode cX11_laysBlocks 105 = .ok (.getfield 26, 3) := by decide +kernel
theorem dX11_laysBlocks_108 : decode cX11_laysBlocks 108 = .ok (.aload_n 0, 1) := by decide +kernel
theorem dX11_laysBlocks_109 : decode cX11_laysBlocks 109 = .ok (.getfield 84, 3) := by decide +kernel
theorem dX11_laysBlocks_112 : decode cX11_laysBlocks 112 = .ok (.iconst 1, 1) := by decide +kernel
theorem dX11_laysBlocks_113 : decode cX11_laysBlocks 113 = .ok (.isub, 1) := by decide +kernel
theorem dX11_laysBlocks_114 : decode cX11_laysBlocks 114 = .ok (.aload_n 0, 1) := by decide +kernel
theorem dX11_laysBlocks_115 : decode cX11_laysBlocks 115 = .ok (.getfield 26, 3) := by decide +kernel
theorem dX11_laysBlocks_118 : decode cX11_laysBlocks 118 = .ok (.aload_n 0, 1) := by decide +kernel
theorem dX11_laysBlocks_119 : decode cX11_laysBlocks 119 = .ok (.getfield 84, 3) := by decide +kernel
theorem dX11_laysBlocks_122 : decode cX11_laysBlocks 122 = .ok (.iconst 1, 1) := by decide +kernel
theorem dX11_laysBlocks_123 : decode cX11_laysBlocks 123 = .ok (.isub, 1) := by decide +kernel
theorem dX11_laysBlocks_124 : decode cX11_laysBlocks 124 = .ok (.iaload, 1) := by decide +kernel
theorem dX11_laysBlocks_125 : decode cX11_laysBlocks 125 = .ok (.aload_n 0, 1) := by decide +kernel
theorem dX11_laysBlocks_126 : decode cX11_laysBlocks 126 = .ok (.iload_n 1, 1) := by decide +kernel
theorem dX11_laysBlocks_127 : decode cX11_laysBlocks 127 = .ok (.iconst 3, 1) := by decide +kernel
theorem dX11_laysBlocks_128 : decode cX11_laysBlocks 128 = .ok (.invokevirtual 94, 3) := by decide +kernel
theorem dX11_laysBlocks_131 : decode cX11_laysBlocks 131 = .ok (.invokestatic 98, 3) := by decide +kernel
theorem dX11_laysBlocks_134 : decode cX11_laysBlocks 134 = .ok (.iastore, 1) := by decide +kernel
theorem dX11_laysBlocks_135 : decode cX11_laysBlocks 135 = .ok (.iinc 1 1, 3) := by decide +kernel
theorem dX11_laysBlocks_138 : decode cX11_laysBlocks 138 = .ok (.goto (-131), 3) := by decide +kernel
theorem dX11_laysBlocks_141 : decode cX11_laysBlocks 141 = .ok (.aload_n 0, 1) := by decide +kernel
theorem dX11_laysBlocks_142 : decode cX11_laysBlocks 142 = .ok (.getfield 29, 3) := by decide +kernel
theorem dX11_laysBlocks_145 : decode cX11_laysBlocks 145 = .ok (.aload_n 0, 1) := by decide +kernel
theorem dX11_laysBlocks_146 : decode cX11_laysBlocks 146 = .ok (.getfield 84, 3) := by decide +kernel
theorem dX11_laysBlocks_149 : decode cX11_laysBlocks 149 = .ok (.aload_n 0, 1) := by decide +kernel
theorem dX11_laysBlocks_150 : decode cX11_laysBlocks 150 = .ok (.invokevirtual 90, 3) := by decide +kernel
theorem dX11_laysBlocks_153 : decode cX11_laysBlocks 153 = .ok (.iastore, 1) := by decide +kernel
theorem dX11_laysBlocks_154 : decode cX11_laysBlocks 154 = .ok (.iconst 0, 1) := by decide +kernel
theorem dX11_laysBlocks_155 : decode cX11_laysBlocks 155 = .ok (.istore_n 1, 1) := by decide +kernel
theorem dX11_laysBlocks_156 : decode cX11_laysBlocks 156 = .ok (.iload_n 1, 1) := by decide +kernel
theorem dX11_laysBlocks_157 : decode cX11_laysBlocks 157 = .ok (.aload_n 0, 1) := by decide +kernel
theorem dX11_laysBlocks_158 : decode cX11_laysBlocks 158 = .ok (.getfield 84, 3) := by decide +kernel
theorem dX11_laysBlocks_161 : decode cX11_laysBlocks 161 = .ok (.iconst 1, 1) := by decide +kernel
theorem dX11_laysBlocks_162 : decode cX11_laysBlocks 162 = .ok (.isub, 1) := by decide +kernel
theorem dX11_laysBlocks_163 : decode cX11_laysBlocks 163 = .ok (.if_icmp .ge 14, 3) := by decide +kernel
theorem dX11_laysBlocks_166 : decode cX11_laysBlocks 166 = .ok (.aload_n 0, 1) := by decide +kernel
theorem dX11_laysBlocks_167 : decode cX11_laysBlocks 167 = .ok (.iload_n 1, 1) := by decide +kernel
theorem dX11_laysBlocks_168 : decode cX11_laysBlocks 168 = .ok (.invokevirtual 103, 3) := by decide +kernel
theorem dX11_laysBlocks_171 : decode cX11_laysBlocks 171 = .ok (.iinc 1 1, 3) := by decide +kernel
theorem dX11_laysBlocks_174 : decode cX11_laysBlocks 174 = .ok (.goto (-18), 3) := by decide +kernel
theorem dX11_laysBlocks_177 : decode cX11_laysBlocks 177 = .ok (.aload_n 0, 1) := by decide +kernel
theorem dX11_laysBlocks_178 : decode cX11_laysBlocks 178 = .ok (.getfield 84, 3) := by decide +kernel
theorem dX11_laysBlocks_181 : decode cX11_laysBlocks 181 = .ok (.ifCond .le 15, 3) := by decide +kernel
theorem dX11_laysBlocks_184 : decode cX11_laysBlocks 184 = .ok (.aload_n 0, 1) := by decide +kernel
theorem dX11_laysBlocks_185 : decode cX11_laysBlocks 185 = .ok (.getfield 35, 3) := by decide +kernel
theorem dX11_laysBlocks_188 : decode cX11_laysBlocks 188 = .ok (.aload_n 0, 1) := by decide +kernel
theorem dX11_laysBlocks_189 : decode cX11_laysBlocks 189 = .ok (.getfield 84, 3) := by decide +kernel
theorem dX11_laysBlocks_192 : decode cX11_laysBlocks 192 = .ok (.iconst 1, 1) := by decide +kernel
theorem dX11_laysBlocks_193 : decode cX11_laysBlocks 193 = .ok (.isub, 1) := by decide +kernel
theorem dX11_laysBlocks_194 : decode cX11_laysBlocks 194 = .ok (.iconst 0, 1) := by decide +kernel
theorem dX11_laysBlocks_195 : decode cX11_laysBlocks 195 = .ok (.iastore, 1) := by decide +kernel
theorem dX11_laysBlocks_196 : decode cX11_laysBlocks 196 = .ok (.return_, 1) := by decide +kernel
theorem ci_X11_laysBlocks : Cond.instanceMethod yX11_laysBlocks ∈ TW := TW_of 1379 (by decide +kernel) (by decide +kernel)
theorem cs_X11_laysBlocks : Cond.selects yX11_laysBlocks.cls yX11_laysBlocks yX11_laysBlocks ∈ TW := TW_of 24 (by decide +kernel) (by decide +kernel)
abbrev cX11_takesOver : ByteArray := prog_13_method_6_code
def yX11_takesOver : MethodName := ⟨RX11, "takesOver", "()V"⟩
theorem dX11_takesOver_0 : decode cX11_takesOver 0 = .ok (.iconst 0, 1) := by decide +kernel
theorem dX11_takesOver_1 : decode cX11_takesOver 1 = .ok (.istore_n 1, 1) := by decide +kernel
theorem dX11_takesOver_2 : decode cX11_takesOver 2 = .ok (.iload_n 1, 1) := by decide +kernel
theorem dX11_takesOver_3 : decode cX11_takesOver 3 = .ok (.sipush 193, 3) := by decide +kernel
theorem dX11_takesOver_6 : decode cX11_takesOver 6 = .ok (.if_icmp .ge 21, 3) := by decide +kernel
theorem dX11_takesOver_9 : decode cX11_takesOver 9 = .ok (.aload_n 0, 1) := by decide +kernel
theorem dX11_takesOver_10 : decode cX11_takesOver 10 = .ok (.getfield 13, 3) := by decide +kernel
theorem dX11_takesOver_13 : decode cX11_takesOver 13 = .ok (.iload_n 1, 1) := by decide +kernel
theorem dX11_takesOver_14 : decode cX11_takesOver 14 = .ok (.aload_n 0, 1) := by decide +kernel
theorem dX11_takesOver_15 : decode cX11_takesOver 15 = .ok (.getfield 17, 3) := by decide +kernel
theorem dX11_takesOver_18 : decode cX11_takesOver 18 = .ok (.iload_n 1, 1) := by decide +kernel
theorem dX11_takesOver_19 : decode cX11_takesOver 19 = .ok (.iaload, 1) := by decide +kernel
theorem dX11_takesOver_20 : decode cX11_takesOver 20 = .ok (.iastore, 1) := by decide +kernel
theorem dX11_takesOver_21 : decode cX11_takesOver 21 = .ok (.iinc 1 1, 3) := by decide +kernel
theorem dX11_takesOver_24 : decode cX11_takesOver 24 = .ok (.goto (-22), 3) := by decide +kernel
theorem dX11_takesOver_27 : decode cX11_takesOver 27 = .ok (.aload_n 0, 1) := by decide +kernel
theorem dX11_takesOver_28 : decode cX11_takesOver 28 = .ok (.invokevirtual 81, 3) := by decide +kernel
theorem dX11_takesOver_31 : decode cX11_takesOver 31 = .ok (.iconst 0, 1) := by decide +kernel
theorem dX11_takesOver_32 : decode cX11_takesOver 32 = .ok (.istore_n 1, 1) := by decide +kernel
theorem dX11_takesOver_33 : decode cX11_takesOver 33 = .ok (.iload_n 1, 1) := by decide +kernel
theorem dX11_takesOver_34 : decode cX11_takesOver 34 = .ok (.sipush 161, 3) := by decide +kernel
theorem dX11_takesOver_37 : decode cX11_takesOver 37 = .ok (.if_icmp .ge 16, 3) := by decide +kernel
theorem dX11_takesOver_40 : decode cX11_takesOver 40 = .ok (.aload_n 0, 1) := by decide +kernel
theorem dX11_takesOver_41 : decode cX11_takesOver 41 = .ok (.getfield 38, 3) := by decide +kernel
theorem dX11_takesOver_44 : decode cX11_takesOver 44 = .ok (.iload_n 1, 1) := by decide +kernel
theorem dX11_takesOver_45 : decode cX11_takesOver 45 = .ok (.iconst 0, 1) := by decide +kernel
theorem dX11_takesOver_46 : decode cX11_takesOver 46 = .ok (.iastore, 1) := by decide +kernel
theorem dX11_takesOver_47 : decode cX11_takesOver 47 = .ok (.iinc 1 1, 3) := by decide +kernel
theorem dX11_takesOver_50 : decode cX11_takesOver 50 = .ok (.goto (-17), 3) := by decide +kernel
theorem dX11_takesOver_53 : decode cX11_takesOver 53 = .ok (.aload_n 0, 1) := by decide +kernel
theorem dX11_takesOver_54 : decode cX11_takesOver 54 = .ok (.getfield 38, 3) := by decide +kernel
theorem dX11_takesOver_57 : decode cX11_takesOver 57 = .ok (.bipush 40, 2) := by decide +kernel
theorem dX11_takesOver_59 : decode cX11_takesOver 59 = .ok (.aload_n 0, 1) := by decide +kernel
theorem dX11_takesOver_60 : decode cX11_takesOver 60 = .ok (.getfield 84, 3) := by decide +kernel
theorem dX11_takesOver_63 : decode cX11_takesOver 63 = .ok (.iastore, 1) := by decide +kernel
theorem dX11_takesOver_64 : decode cX11_takesOver 64 = .ok (.iconst 0, 1) := by decide +kernel
theorem dX11_takesOver_65 : decode cX11_takesOver 65 = .ok (.istore_n 1, 1) := by decide +kernel
theorem dX11_takesOver_66 : decode cX11_takesOver 66 = .ok (.iload_n 1, 1) := by decide +kernel
theorem dX11_takesOver_67 : decode cX11_takesOver 67 = .ok (.aload_n 0, 1) := by decide +kernel
theorem dX11_takesOver_68 : decode cX11_takesOver 68 = .ok (.getfield 84, 3) := by decide +kernel
theorem dX11_takesOver_71 : decode cX11_takesOver 71 = .ok (.if_icmp .ge 19, 3) := by decide +kernel
theorem dX11_takesOver_74 : decode cX11_takesOver 74 = .ok (.aload_n 0, 1) := by decide +kernel
theorem dX11_takesOver_75 : decode cX11_takesOver 75 = .ok (.getfield 38, 3) := by decide +kernel
theorem dX11_takesOver_78 : decode cX11_takesOver 78 = .ok (.bipush 41, 2) := by decide +kernel
theorem dX11_takesOver_80 : decode cX11_takesOver 80 = .ok (.iload_n 1, 1) := by decide +kernel
theorem dX11_takesOver_81 : decode cX11_takesOver 81 = .ok (.iadd, 1) := by decide +kernel
theorem dX11_takesOver_82 : decode cX11_takesOver 82 = .ok (.iload_n 1, 1) := by decide +kernel
theorem dX11_takesOver_83 : decode cX11_takesOver 83 = .ok (.iastore, 1) := by decide +kernel
theorem dX11_takesOver_84 : decode cX11_takesOver 84 = .ok (.iinc 1 1, 3) := by decide +kernel
theorem dX11_takesOver_87 : decode cX11_takesOver 87 = .ok (.goto (-21), 3) := by decide +kernel
theorem dX11_takesOver_90 : decode cX11_takesOver 90 = .ok (.aload_n 0, 1) := by decide +kernel
theorem dX11_takesOver_91 : decode cX11_takesOver 91 = .ok (.iconst 0, 1) := by decide +kernel
theorem dX11_takesOver_92 : decode cX11_takesOver 92 = .ok (.putfield 87, 3) := by decide +kernel
theorem dX11_takesOver_95 : decode cX11_takesOver 95 = .ok (.return_, 1) := by decide +kernel
theorem ci_X11_takesOver : Cond.instanceMethod yX11_takesOver ∈ TW := TW_of 1375 (by decide +kernel) (by decide +kernel)
theorem cs_X11_takesOver : Cond.selects yX11_takesOver.cls yX11_takesOver yX11_takesOver ∈ TW := TW_of 23 (by decide +kernel) (by decide +kernel)
abbrev cX11_keeps : ByteArray := prog_13_method_7_code
def yX11_keeps : MethodName := ⟨RX11, "keeps", "()V"⟩
theorem dX11_keeps_0 : decode cX11_keeps 0 = .ok (.aload_n 0, 1) := by decide +kernel
theorem dX11_keeps_1 : decode cX11_keeps 1 = .ok (.getfield 87, 3) := by decide +kernel
theorem dX11_keeps_4 : decode cX11_keeps 4 = .ok (.bipush 12, 2) := by decide +kernel
theorem dX11_keeps_6 : decode cX11_keeps 6 = .ok (.if_icmp .ne 46, 3) := by decide +kernel
theorem dX11_keeps_9 : decode cX11_keeps 9 = .ok (.sipush 161, 3) := by decide +kernel
theorem dX11_keeps_12 : decode cX11_keeps 12 = .ok (.istore_n 1, 1) := by decide +kernel
theorem dX11_keeps_13 : decode cX11_keeps 13 = .ok (.iload_n 1, 1) := by decide +kernel
theorem dX11_keeps_14 : decode cX11_keeps 14 = .ok (.sipush 1932, 3) := by decide +kernel
theorem dX11_keeps_17 : decode cX11_keeps 17 = .ok (.if_icmp .ge 25, 3) := by decide +kernel
theorem dX11_keeps_20 : decode cX11_keeps 20 = .ok (.aload_n 0, 1) := by decide +kernel
theorem dX11_keeps_21 : decode cX11_keeps 21 = .ok (.getfield 41, 3) := by decide +kernel
theorem dX11_keeps_24 : decode cX11_keeps 24 = .ok (.iload_n 1, 1) := by decide +kernel
theorem dX11_keeps_25 : decode cX11_keeps 25 = .ok (.sipush 161, 3) := by decide +kernel
theorem dX11_keeps_28 : decode cX11_keeps 28 = .ok (.isub, 1) := by decide +kernel
theorem dX11_keeps_29 : decode cX11_keeps 29 = .ok (.aload_n 0, 1) := by decide +kernel
theorem dX11_keeps_30 : decode cX11_keeps 30 = .ok (.getfield 41, 3) := by decide +kernel
theorem dX11_keeps_33 : decode cX11_keeps 33 = .ok (.iload_n 1, 1) := by decide +kernel
theorem dX11_keeps_34 : decode cX11_keeps 34 = .ok (.iaload, 1) := by decide +kernel
theorem dX11_keeps_35 : decode cX11_keeps 35 = .ok (.iastore, 1) := by decide +kernel
theorem dX11_keeps_36 : decode cX11_keeps 36 = .ok (.iinc 1 1, 3) := by decide +kernel
theorem dX11_keeps_39 : decode cX11_keeps 39 = .ok (.goto (-26), 3) := by decide +kernel
theorem dX11_keeps_42 : decode cX11_keeps 42 = .ok (.aload_n 0, 1) := by decide +kernel
theorem dX11_keeps_43 : decode cX11_keeps 43 = .ok (.dup, 1) := by decide +kernel
theorem dX11_keeps_44 : decode cX11_keeps 44 = .ok (.getfield 87, 3) := by decide +kernel
theorem dX11_keeps_47 : decode cX11_keeps 47 = .ok (.iconst 1, 1) := by decide +kernel
theorem dX11_keeps_48 : decode cX11_keeps 48 = .ok (.isub, 1) := by decide +kernel
theorem dX11_keeps_49 : decode cX11_keeps 49 = .ok (.putfield 87, 3) := by decide +kernel
theorem dX11_keeps_52 : decode cX11_keeps 52 = .ok (.iconst 0, 1) := by decide +kernel
theorem dX11_keeps_53 : decode cX11_keeps 53 = .ok (.istore_n 1, 1) := by decide +kernel
theorem dX11_keeps_54 : decode cX11_keeps 54 = .ok (.iload_n 1, 1) := by decide +kernel
theorem dX11_keeps_55 : decode cX11_keeps 55 = .ok (.sipush 161, 3) := by decide +kernel
theorem dX11_keeps_58 : decode cX11_keeps 58 = .ok (.if_icmp .ge 30, 3) := by decide +kernel
theorem dX11_keeps_61 : decode cX11_keeps 61 = .ok (.aload_n 0, 1) := by decide +kernel
theorem dX11_keeps_62 : decode cX11_keeps 62 = .ok (.getfield 41, 3) := by decide +kernel
theorem dX11_keeps_65 : decode cX11_keeps 65 = .ok (.sipush 161, 3) := by decide +kernel
theorem dX11_keeps_68 : decode cX11_keeps 68 = .ok (.aload_n 0, 1) := by decide +kernel
theorem dX11_keeps_69 : decode cX11_keeps 69 = .ok (.getfield 87, 3) := by decide +kernel
theorem dX11_keeps_72 : decode cX11_keeps 72 = .ok (.imul, 1) := by decide +kernel
theorem dX11_keeps_73 : decode cX11_keeps 73 = .ok (.iload_n 1, 1) := by decide +kernel
theorem dX11_keeps_74 : decode cX11_keeps 74 = .ok (.iadd, 1) := by decide +kernel
theorem dX11_keeps_75 : decode cX11_keeps 75 = .ok (.aload_n 0, 1) := by decide +kernel
theorem dX11_keeps_76 : decode cX11_keeps 76 = .ok (.getfield 38, 3) := by decide +kernel
theorem dX11_keeps_79 : decode cX11_keeps 79 = .ok (.iload_n 1, 1) := by decide +kernel
theorem dX11_keeps_80 : decode cX11_keeps 80 = .ok (.iaload, 1) := by decide +kernel
theorem dX11_keeps_81 : decode cX11_keeps 81 = .ok (.iastore, 1) := by decide +kernel
theorem dX11_keeps_82 : decode cX11_keeps 82 = .ok (.iinc 1 1, 3) := by decide +kernel
theorem dX11_keeps_85 : decode cX11_keeps 85 = .ok (.goto (-31), 3) := by decide +kernel
theorem dX11_keeps_88 : decode cX11_keeps 88 = .ok (.aload_n 0, 1) := by decide +kernel
theorem dX11_keeps_89 : decode cX11_keeps 89 = .ok (.dup, 1) := by decide +kernel
theorem dX11_keeps_90 : decode cX11_keeps 90 = .ok (.getfield 87, 3) := by decide +kernel
theorem dX11_keeps_93 : decode cX11_keeps 93 = .ok (.iconst 1, 1) := by decide +kernel
theorem dX11_keeps_94 : decode cX11_keeps 94 = .ok (.iadd, 1) := by decide +kernel
theorem dX11_keeps_95 : decode cX11_keeps 95 = .ok (.putfield 87, 3) := by decide +kernel
theorem dX11_keeps_98 : decode cX11_keeps 98 = .ok (.return_, 1) := by decide +kernel
theorem ci_X11_keeps : Cond.instanceMethod yX11_keeps ∈ TW := TW_of 1943 (by decide +kernel) (by decide +kernel)
theorem cs_X11_keeps : Cond.selects yX11_keeps.cls yX11_keeps yX11_keeps ∈ TW := TW_of 89 (by decide +kernel) (by decide +kernel)
abbrev cX11_undo : ByteArray := prog_13_method_8_code
def yX11_undo : MethodName := ⟨RX11, "undo", "()I"⟩
theorem dX11_undo_0 : decode cX11_undo 0 = .ok (.aload_n 0, 1) := by decide +kernel
theorem dX11_undo_1 : decode cX11_undo 1 = .ok (.iconst 0, 1) := by decide +kernel
theorem dX11_undo_2 : decode cX11_undo 2 = .ok (.putfield 3, 3) := by decide +kernel
theorem dX11_undo_5 : decode cX11_undo 5 = .ok (.aload_n 0, 1) := by decide +kernel
theorem dX11_undo_6 : decode cX11_undo 6 = .ok (.getfield 87, 3) := by decide +kernel
theorem dX11_undo_9 : decode cX11_undo 9 = .ok (.ifCond .ne 5, 3) := by decide +kernel
theorem dX11_undo_12 : decode cX11_undo 12 = .ok (.iconst (-1), 1) := by decide +kernel
theorem dX11_undo_13 : decode cX11_undo 13 = .ok (.ireturn, 1) := by decide +kernel
theorem dX11_undo_14 : decode cX11_undo 14 = .ok (.aload_n 0, 1) := by decide +kernel
theorem dX11_undo_15 : decode cX11_undo 15 = .ok (.dup, 1) := by decide +kernel
theorem dX11_undo_16 : decode cX11_undo 16 = .ok (.getfield 87, 3) := by decide +kernel
theorem dX11_undo_19 : decode cX11_undo 19 = .ok (.iconst 1, 1) := by decide +kernel
theorem dX11_undo_20 : decode cX11_undo 20 = .ok (.isub, 1) := by decide +kernel
theorem dX11_undo_21 : decode cX11_undo 21 = .ok (.putfield 87, 3) := by decide +kernel
theorem dX11_undo_24 : decode cX11_undo 24 = .ok (.iconst 0, 1) := by decide +kernel
theorem dX11_undo_25 : decode cX11_undo 25 = .ok (.istore_n 1, 1) := by decide +kernel
theorem dX11_undo_26 : decode cX11_undo 26 = .ok (.iload_n 1, 1) := by decide +kernel
theorem dX11_undo_27 : decode cX11_undo 27 = .ok (.sipush 161, 3) := by decide +kernel
theorem dX11_undo_30 : decode cX11_undo 30 = .ok (.if_icmp .ge 30, 3) := by decide +kernel
theorem dX11_undo_33 : decode cX11_undo 33 = .ok (.aload_n 0, 1) := by decide +kernel
theorem dX11_undo_34 : decode cX11_undo 34 = .ok (.getfield 38, 3) := by decide +kernel
theorem dX11_undo_37 : decode cX11_undo 37 = .ok (.iload_n 1, 1) := by decide +kernel
theorem dX11_undo_38 : decode cX11_undo 38 = .ok (.aload_n 0, 1) := by decide +kernel
theorem dX11_undo_39 : decode cX11_undo 39 = .ok (.getfield 41, 3) := by decide +kernel
theorem dX11_undo_42 : decode cX11_undo 42 = .ok (.sipush 161, 3) := by decide +kernel
theorem dX11_undo_45 : decode cX11_undo 45 = .ok (.aload_n 0, 1) := by decide +kernel
theorem dX11_undo_46 : decode cX11_undo 46 = .ok (.getfield 87, 3) := by decide +kernel
theorem dX11_undo_49 : decode cX11_undo 49 = .ok (.imul, 1) := by decide +kernel
theorem dX11_undo_50 : decode cX11_undo 50 = .ok (.iload_n 1, 1) := by decide +kernel
theorem dX11_undo_51 : decode cX11_undo 51 = .ok (.iadd, 1) := by decide +kernel
theorem dX11_undo_52 : decode cX11_undo 52 = .ok (.iaload, 1) := by decide +kernel
theorem dX11_undo_53 : decode cX11_undo 53 = .ok (.iastore, 1) := by decide +kernel
theorem dX11_undo_54 : decode cX11_undo 54 = .ok (.iinc 1 1, 3) := by decide +kernel
theorem dX11_undo_57 : decode cX11_undo 57 = .ok (.goto (-31), 3) := by decide +kernel
theorem dX11_undo_60 : decode cX11_undo 60 = .ok (.aload_n 0, 1) := by decide +kernel
theorem dX11_undo_61 : decode cX11_undo 61 = .ok (.getfield 87, 3) := by decide +kernel
theorem dX11_undo_64 : decode cX11_undo 64 = .ok (.ireturn, 1) := by decide +kernel
theorem ci_X11_undo : Cond.instanceMethod yX11_undo ∈ TW := TW_of 1526 (by decide +kernel) (by decide +kernel)
theorem cs_X11_undo : Cond.selects yX11_undo.cls yX11_undo yX11_undo ∈ TW := TW_of 1527 (by decide +kernel) (by decide +kernel)
abbrev cX11_undoDepth : ByteArray := prog_13_method_9_code
def yX11_undoDepth : MethodName := ⟨RX11, "undoDepth", "()I"⟩
theorem dX11_undoDepth_0 : decode cX11_undoDepth 0 = .ok (.aload_n 0, 1) := by decide +kernel
theorem dX11_undoDepth_1 : decode cX11_undoDepth 1 = .ok (.iconst 0, 1) := by decide +kernel
theorem dX11_undoDepth_2 : decode cX11_undoDepth 2 = .ok (.putfield 3, 3) := by decide +kernel
theorem dX11_undoDepth_5 : decode cX11_undoDepth 5 = .ok (.aload_n 0, 1) := by decide +kernel
theorem dX11_undoDepth_6 : decode cX11_undoDepth 6 = .ok (.getfield 87, 3) := by decide +kernel
theorem dX11_undoDepth_9 : decode cX11_undoDepth 9 = .ok (.ireturn, 1) := by decide +kernel
theorem ci_X11_undoDepth : Cond.instanceMethod yX11_undoDepth ∈ TW := TW_of 1530 (by decide +kernel) (by decide +kernel)
theorem cs_X11_undoDepth : Cond.selects yX11_undoDepth.cls yX11_undoDepth yX11_undoDepth ∈ TW := TW_of 1531 (by decide +kernel) (by decide +kernel)
abbrev cX11_putsAside : ByteArray := prog_13_method_10_code
def yX11_putsAside : MethodName := ⟨RX11, "putsAside", "()V"⟩
theorem dX11_putsAside_0 : decode cX11_putsAside 0 = .ok (.iconst 0, 1) := by decide +kernel
theorem dX11_putsAside_1 : decode cX11_putsAside 1 = .ok (.istore_n 1, 1) := by decide +kernel
theorem dX11_putsAside_2 : decode cX11_putsAside 2 = .ok (.iload_n 1, 1) := by decide +kernel
theorem dX11_putsAside_3 : decode cX11_putsAside 3 = .ok (.sipush 161, 3) := by decide +kernel
theorem dX11_putsAside_6 : decode cX11_putsAside 6 = .ok (.if_icmp .ge 21, 3) := by decide +kernel
theorem dX11_putsAside_9 : decode cX11_putsAside 9 = .ok (.aload_n 0, 1) := by decide +kernel
theorem dX11_putsAside_10 : decode cX11_putsAside 10 = .ok (.getfield 44, 3) := by decide +kernel
theorem dX11_putsAside_13 : decode cX11_putsAside 13 = .ok (.iload_n 1, 1) := by decide +kernel
theorem dX11_putsAside_14 : decode cX11_putsAside 14 = .ok (.aload_n 0, 1) := by decide +kernel
theorem dX11_putsAside_15 : decode cX11_putsAside 15 = .ok (.getfield 38, 3) := by decide +kernel
theorem dX11_putsAside_18 : decode cX11_putsAside 18 = .ok (.iload_n 1, 1) := by decide +kernel
theorem dX11_putsAside_19 : decode cX11_putsAside 19 = .ok (.iaload, 1) := by decide +kernel
theorem dX11_putsAside_20 : decode cX11_putsAside 20 = .ok (.iastore, 1) := by decide +kernel
theorem dX11_putsAside_21 : decode cX11_putsAside 21 = .ok (.iinc 1 1, 3) := by decide +kernel
theorem dX11_putsAside_24 : decode cX11_putsAside 24 = .ok (.goto (-22), 3) := by decide +kernel
theorem dX11_putsAside_27 : decode cX11_putsAside 27 = .ok (.return_, 1) := by decide +kernel
theorem ci_X11_putsAside : Cond.instanceMethod yX11_putsAside ∈ TW := TW_of 1899 (by decide +kernel) (by decide +kernel)
theorem cs_X11_putsAside : Cond.selects yX11_putsAside.cls yX11_putsAside yX11_putsAside ∈ TW := TW_of 81 (by decide +kernel) (by decide +kernel)
abbrev cX11_takesBack : ByteArray := prog_13_method_11_code
def yX11_takesBack : MethodName := ⟨RX11, "takesBack", "()V"⟩
theorem dX11_takesBack_0 : decode cX11_takesBack 0 = .ok (.iconst 0, 1) := by decide +kernel
theorem dX11_takesBack_1 : decode cX11_takesBack 1 = .ok (.istore_n 1, 1) := by decide +kernel
theorem dX11_takesBack_2 : decode cX11_takesBack 2 = .ok (.iload_n 1, 1) := by decide +kernel
theorem dX11_takesBack_3 : decode cX11_takesBack 3 = .ok (.sipush 161, 3) := by decide +kernel
theorem dX11_takesBack_6 : decode cX11_takesBack 6 = .ok (.if_icmp .ge 21, 3) := by decide +kernel
theorem dX11_takesBack_9 : decode cX11_takesBack 9 = .ok (.aload_n 0, 1) := by decide +kernel
theorem dX11_takesBack_10 : decode cX11_takesBack 10 = .ok (.getfield 38, 3) := by decide +kernel
theorem dX11_takesBack_13 : decode cX11_takesBack 13 = .ok (.iload_n 1, 1) := by decide +kernel
theorem dX11_takesBack_14 : decode cX11_takesBack 14 = .ok (.aload_n 0, 1) := by decide +kernel
theorem dX11_takesBack_15 : decode cX11_takesBack 15 = .ok (.getfield 44, 3) := by decide +kernel
theorem dX11_takesBack_18 : decode cX11_takesBack 18 = .ok (.iload_n 1, 1) := by decide +kernel
theorem dX11_takesBack_19 : decode cX11_takesBack 19 = .ok (.iaload, 1) := by decide +kernel
theorem dX11_takesBack_20 : decode cX11_takesBack 20 = .ok (.iastore, 1) := by decide +kernel
theorem dX11_takesBack_21 : decode cX11_takesBack 21 = .ok (.iinc 1 1, 3) := by decide +kernel
theorem dX11_takesBack_24 : decode cX11_takesBack 24 = .ok (.goto (-22), 3) := by decide +kernel
theorem dX11_takesBack_27 : decode cX11_takesBack 27 = .ok (.return_, 1) := by decide +kernel
theorem ci_X11_takesBack : Cond.instanceMethod yX11_takesBack ∈ TW := TW_of 1915 (by decide +kernel) (by decide +kernel)
theorem cs_X11_takesBack : Cond.selects yX11_takesBack.cls yX11_takesBack yX11_takesBack ∈ TW := TW_of 85 (by decide +kernel) (by decide +kernel)
abbrev cX11_isKept : ByteArray := prog_13_method_14_code
def yX11_isKept : MethodName := ⟨RX11, "isKept", "(I)Z"⟩
theorem dX11_isKept_0 : decode cX11_isKept 0 = .ok (.aload_n 0, 1) := by decide +kernel
theorem dX11_isKept_1 : decode cX11_isKept 1 = .ok (.getfield 38, 3) := by decide +kernel
theorem dX11_isKept_4 : decode cX11_isKept 4 = .ok (.iconst 0, 1) := by decide +kernel
theorem dX11_isKept_5 : decode cX11_isKept 5 = .ok (.iload_n 1, 1) := by decide +kernel
theorem dX11_isKept_6 : decode cX11_isKept 6 = .ok (.iadd, 1) := by decide +kernel
theorem dX11_isKept_7 : decode cX11_isKept 7 = .ok (.iaload, 1) := by decide +kernel
theorem dX11_isKept_8 : decode cX11_isKept 8 = .ok (.ifCond .ne 7, 3) := by decide +kernel
theorem dX11_isKept_11 : decode cX11_isKept 11 = .ok (.iconst 1, 1) := by decide +kernel
theorem dX11_isKept_12 : decode cX11_isKept 12 = .ok (.goto 4, 3) := by decide +kernel
theorem dX11_isKept_15 : decode cX11_isKept 15 = .ok (.iconst 0, 1) := by decide +kernel
theorem dX11_isKept_16 : decode cX11_isKept 16 = .ok (.ireturn, 1) := by decide +kernel
theorem ci_X11_isKept : Cond.instanceMethod yX11_isKept ∈ TW := TW_of 1707 (by decide +kernel) (by decide +kernel)
theorem cs_X11_isKept : Cond.selects yX11_isKept.cls yX11_isKept yX11_isKept ∈ TW := TW_of 58 (by decide +kernel) (by decide +kernel)
abbrev cX11_rangeStart : ByteArray := prog_13_method_17_code
def yX11_rangeStart : MethodName := ⟨RX11, "rangeStart", "(I)I"⟩
theorem dX11_rangeStart_0 : decode cX11_rangeStart 0 = .ok (.iload_n 1, 1) := by decide +kernel
theorem dX11_rangeStart_1 : decode cX11_rangeStart 1 = .ok (.ifCond .ne 7, 3) := by decide +kernel
theorem dX11_rangeStart_4 : decode cX11_rangeStart 4 = .ok (.iconst 0, 1) := by decide +kernel
theorem dX11_rangeStart_5 : decode cX11_rangeStart 5 = .ok (.goto 11, 3) := by decide +kernel
theorem dX11_rangeStart_8 : decode cX11_rangeStart 8 = .ok (.aload_n 0, 1) := by decide +kernel
theorem dX11_rangeStart_9 : decode cX11_rangeStart 9 = .ok (.getfield 32, 3) := by decide +kernel
theorem dX11_rangeStart_12 : decode cX11_rangeStart 12 = .ok (.iload_n 1, 1) := by decide +kernel
theorem dX11_rangeStart_13 : decode cX11_rangeStart 13 = .ok (.iconst 1, 1) := by decide +kernel
theorem dX11_rangeStart_14 : decode cX11_rangeStart 14 = .ok (.isub, 1) := by decide +kernel
theorem dX11_rangeStart_15 : decode cX11_rangeStart 15 = .ok (.iaload, 1) := by decide +kernel
theorem dX11_rangeStart_16 : decode cX11_rangeStart 16 = .ok (.ireturn, 1) := by decide +kernel
theorem ci_X11_rangeStart : Cond.instanceMethod yX11_rangeStart ∈ TW := TW_of 1747 (by decide +kernel) (by decide +kernel)
theorem cs_X11_rangeStart : Cond.selects yX11_rangeStart.cls yX11_rangeStart yX11_rangeStart ∈ TW := TW_of 64 (by decide +kernel) (by decide +kernel)
abbrev cX11_rangeEnd : ByteArray := prog_13_method_18_code
def yX11_rangeEnd : MethodName := ⟨RX11, "rangeEnd", "(I)I"⟩
theorem dX11_rangeEnd_0 : decode cX11_rangeEnd 0 = .ok (.iload_n 1, 1) := by decide +kernel
theorem dX11_rangeEnd_1 : decode cX11_rangeEnd 1 = .ok (.aload_n 0, 1) := by decide +kernel
theorem dX11_rangeEnd_2 : decode cX11_rangeEnd 2 = .ok (.getfield 84, 3) := by decide +kernel
theorem dX11_rangeEnd_5 : decode cX11_rangeEnd 5 = .ok (.iconst 1, 1) := by decide +kernel
theorem dX11_rangeEnd_6 : decode cX11_rangeEnd 6 = .ok (.isub, 1) := by decide +kernel
theorem dX11_rangeEnd_7 : decode cX11_rangeEnd 7 = .ok (.if_icmp .ne 12, 3) := by decide +kernel
theorem dX11_rangeEnd_10 : decode cX11_rangeEnd 10 = .ok (.aload_n 0, 1) := by decide +kernel
theorem dX11_rangeEnd_11 : decode cX11_rangeEnd 11 = .ok (.getfield 13, 3) := by decide +kernel
theorem dX11_rangeEnd_14 : decode cX11_rangeEnd 14 = .ok (.iconst 0, 1) := by decide +kernel
theorem dX11_rangeEnd_15 : decode cX11_rangeEnd 15 = .ok (.iaload, 1) := by decide +kernel
theorem dX11_rangeEnd_16 : decode cX11_rangeEnd 16 = .ok (.goto 9, 3) := by decide +kernel
theorem dX11_rangeEnd_19 : decode cX11_rangeEnd 19 = .ok (.aload_n 0, 1) := by decide +kernel
theorem dX11_rangeEnd_20 : decode cX11_rangeEnd 20 = .ok (.getfield 32, 3) := by decide +kernel
theorem dX11_rangeEnd_23 : decode cX11_rangeEnd 23 = .ok (.iload_n 1, 1) := by decide +kernel
theorem dX11_rangeEnd_24 : decode cX11_rangeEnd 24 = .ok (.iaload, 1) := by decide +kernel
theorem dX11_rangeEnd_25 : decode cX11_rangeEnd 25 = .ok (.ireturn, 1) := by decide +kernel
theorem ci_X11_rangeEnd : Cond.instanceMethod yX11_rangeEnd ∈ TW := TW_of 1751 (by decide +kernel) (by decide +kernel)
theorem cs_X11_rangeEnd : Cond.selects yX11_rangeEnd.cls yX11_rangeEnd yX11_rangeEnd ∈ TW := TW_of 65 (by decide +kernel) (by decide +kernel)
abbrev cX11_append : ByteArray := prog_13_method_19_code
def yX11_append : MethodName := ⟨RX11, "append", "(IIIII)I"⟩
theorem dX11_append_0 : decode cX11_append 0 = .ok (.aload_n 0, 1) := by decide +kernel
theorem dX11_append_1 : decode cX11_append 1 = .ok (.iconst 0, 1) := by decide +kernel
theorem dX11_append_2 : decode cX11_append 2 = .ok (.putfield 3, 3) := by decide +kernel
theorem dX11_append_5 : decode cX11_append 5 = .ok (.aload_n 0, 1) := by decide +kernel
theorem dX11_append_6 : decode cX11_append 6 = .ok (.getfield 110, 3) := by decide +kernel
theorem dX11_append_9 : decode cX11_append 9 = .ok (.bipush 20, 2) := by decide +kernel
theorem dX11_append_11 : decode cX11_append 11 = .ok (.iadd, 1) := by decide +kernel
theorem dX11_append_12 : decode cX11_append 12 = .ok (.sipush 900, 3) := by decide +kernel
theorem dX11_append_15 : decode cX11_append 15 = .ok (.if_icmp .le 5, 3) := by decide +kernel
theorem dX11_append_18 : decode cX11_append 18 = .ok (.iconst (-1), 1) := by decide +kernel
theorem dX11_append_19 : decode cX11_append 19 = .ok (.ireturn, 1) := by decide +kernel
theorem dX11_append_20 : decode cX11_append 20 = .ok (.aload_n 0, 1) := by decide +kernel
theorem dX11_append_21 : decode cX11_append 21 = .ok (.getfield 51, 3) := by decide +kernel
theorem dX11_append_24 : decode cX11_append 24 = .ok (.iconst 0, 1) := by decide +kernel
theorem dX11_append_25 : decode cX11_append 25 = .ok (.iload_n 1, 1) := by decide +kernel
theorem dX11_append_26 : decode cX11_append 26 = .ok (.iastore, 1) := by decide +kernel
theorem dX11_append_27 : decode cX11_append 27 = .ok (.aload_n 0, 1) := by decide +kernel
theorem dX11_append_28 : decode cX11_append 28 = .ok (.getfield 51, 3) := by decide +kernel
theorem dX11_append_31 : decode cX11_append 31 = .ok (.iconst 1, 1) := by decide +kernel
theorem dX11_append_32 : decode cX11_append 32 = .ok (.iload_n 2, 1) := by decide +kernel
theorem dX11_append_33 : decode cX11_append 33 = .ok (.iastore, 1) := by decide +kernel
theorem dX11_append_34 : decode cX11_append 34 = .ok (.aload_n 0, 1) := by decide +kernel
theorem dX11_append_35 : decode cX11_append 35 = .ok (.getfield 51, 3) := by decide +kernel
theorem dX11_append_38 : decode cX11_append 38 = .ok (.iconst 2, 1) := by decide +kernel
theorem dX11_append_39 : decode cX11_append 39 = .ok (.iload_n 3, 1) := by decide +kernel
theorem dX11_append_40 : decode cX11_append 40 = .ok (.iastore, 1) := by decide +kernel
theorem dX11_append_41 : decode cX11_append 41 = .ok (.aload_n 0, 1) := by decide +kernel
theorem dX11_append_42 : decode cX11_append 42 = .ok (.getfield 51, 3) := by decide +kernel
theorem dX11_append_45 : decode cX11_append 45 = .ok (.iconst 3, 1) := by decide +kernel
theorem dX11_append_46 : decode cX11_append 46 = .ok (.iload 4, 2) := by decide +kernel
theorem dX11_append_48 : decode cX11_append 48 = .ok (.iastore, 1) := by decide +kernel
theorem dX11_append_49 : decode cX11_append 49 = .ok (.aload_n 0, 1) := by decide +kernel
theorem dX11_append_50 : decode cX11_append 50 = .ok (.getfield 51, 3) := by decide +kernel
theorem dX11_append_53 : decode cX11_append 53 = .ok (.iconst 4, 1) := by decide +kernel
theorem dX11_append_54 : decode cX11_append 54 = .ok (.iload 5, 2) := by decide +kernel
theorem dX11_append_56 : decode cX11_append 56 = .ok (.iastore, 1) := by decide +kernel
theorem dX11_append_57 : decode cX11_append 57 = .ok (.iconst 0, 1) := by decide +kernel
theorem dX11_append_58 : decode cX11_append 58 = .ok (.istore 6, 2) := by decide +kernel
theorem dX11_append_60 : decode cX11_append 60 = .ok (.iload 6, 2) := by decide +kernel
theorem dX11_append_62 : decode cX11_append 62 = .ok (.bipush 20, 2) := by decide +kernel
theorem dX11_append_64 : decode cX11_append 64 = .ok (.if_icmp .ge 42, 3) := by decide +kernel
theorem dX11_append_67 : decode cX11_append 67 = .ok (.aload_n 0, 1) := by decide +kernel
theorem dX11_append_68 : decode cX11_append 68 = .ok (.getfield 47, 3) := by decide +kernel
theorem dX11_append_71 : decode cX11_append 71 = .ok (.aload_n 0, 1) := by decide +kernel
theorem dX11_append_72 : decode cX11_append 72 = .ok (.getfield 110, 3) := by decide +kernel
theorem dX11_append_75 : decode cX11_append 75 = .ok (.iload 6, 2) := by decide +kernel
theorem dX11_append_77 : decode cX11_append 77 = .ok (.iadd, 1) := by decide +kernel
theorem dX11_append_78 : decode cX11_append 78 = .ok (.aload_n 0, 1) := by decide +kernel
theorem dX11_append_79 : decode cX11_append 79 = .ok (.getfield 51, 3) := by decide +kernel
theorem dX11_append_82 : decode cX11_append 82 = .ok (.iload 6, 2) := by decide +kernel
theorem dX11_append_84 : decode cX11_append 84 = .ok (.iconst 4, 1) := by decide +kernel
theorem dX11_append_85 : decode cX11_append 85 = .ok (.idiv, 1) := by decide +kernel
theorem dX11_append_86 : decode cX11_append 86 = .ok (.iaload, 1) := by decide +kernel
theorem dX11_append_87 : decode cX11_append 87 = .ok (.bipush 24, 2) := by decide +kernel
theorem dX11_append_89 : decode cX11_append 89 = .ok (.bipush 8, 2) := by decide +kernel
theorem dX11_append_91 : decode cX11_append 91 = .ok (.iload 6, 2) := by decide +kernel
theorem dX11_append_93 : decode cX11_append 93 = .ok (.iconst 4, 1) := by decide +kernel
theorem dX11_append_94 : decode cX11_append 94 = .ok (.irem, 1) := by decide +kernel
theorem dX11_append_95 : decode cX11_append 95 = .ok (.imul, 1) := by decide +kernel
theorem dX11_append_96 : decode cX11_append 96 = .ok (.isub, 1) := by decide +kernel
theorem dX11_append_97 : decode cX11_append 97 = .ok (.ishr, 1) := by decide +kernel
theorem dX11_append_98 : decode cX11_append 98 = .ok (.i2b, 1) := by decide +kernel
theorem dX11_append_99 : decode cX11_append 99 = .ok (.bastore, 1) := by decide +kernel
theorem dX11_append_100 : decode cX11_append 100 = .ok (.iinc 6 1, 3) := by decide +kernel
theorem dX11_append_103 : decode cX11_append 103 = .ok (.goto (-43), 3) := by decide +kernel
theorem dX11_append_106 : decode cX11_append 106 = .ok (.aload_n 0, 1) := by decide +kernel
theorem dX11_append_107 : decode cX11_append 107 = .ok (.dup, 1) := by decide +kernel
theorem dX11_append_108 : decode cX11_append 108 = .ok (.getfield 110, 3) := by decide +kernel
theorem dX11_append_111 : decode cX11_append 111 = .ok (.bipush 20, 2) := by decide +kernel
theorem dX11_append_113 : decode cX11_append 113 = .ok (.iadd, 1) := by decide +kernel
theorem dX11_append_114 : decode cX11_append 114 = .ok (.putfield 110, 3) := by decide +kernel
theorem dX11_append_117 : decode cX11_append 117 = .ok (.aload_n 0, 1) := by decide +kernel
theorem dX11_append_118 : decode cX11_append 118 = .ok (.getfield 110, 3) := by decide +kernel
theorem dX11_append_121 : decode cX11_append 121 = .ok (.ireturn, 1) := by decide +kernel
theorem ci_X11_append : Cond.instanceMethod yX11_append ∈ TW := TW_of 1534 (by decide +kernel) (by decide +kernel)
theorem cs_X11_append : Cond.selects yX11_append.cls yX11_append yX11_append ∈ TW := TW_of 1535 (by decide +kernel) (by decide +kernel)
abbrev cX11_truncate : ByteArray := prog_13_method_20_code
def yX11_truncate : MethodName := ⟨RX11, "truncate", "(I)Z"⟩
theorem dX11_truncate_0 : decode cX11_truncate 0 = .ok (.aload_n 0, 1) := by decide +kernel
theorem dX11_truncate_1 : decode cX11_truncate 1 = .ok (.iconst 0, 1) := by decide +kernel
theorem dX11_truncate_2 : decode cX11_truncate 2 = .ok (.putfield 3, 3) := by decide +kernel
theorem dX11_truncate_5 : decode cX11_truncate 5 = .ok (.iload_n 1, 1) := by decide +kernel
theorem dX11_truncate_6 : decode cX11_truncate 6 = .ok (.ifCond .lt 11, 3) := by decide +kernel
theorem dX11_truncate_9 : decode cX11_truncate 9 = .ok (.iload_n 1, 1) := by decide +kernel
theorem dX11_truncate_10 : decode cX11_truncate 10 = .ok (.aload_n 0, 1) := by decide +kernel
theorem dX11_truncate_11 : decode cX11_truncate 11 = .ok (.getfield 110, 3) := by decide +kernel
theorem dX11_truncate_14 : decode cX11_truncate 14 = .ok (.if_icmp .le 5, 3) := by decide +kernel
theorem dX11_truncate_17 : decode cX11_truncate 17 = .ok (.iconst 0, 1) := by decide +kernel
theorem dX11_truncate_18 : decode cX11_truncate 18 = .ok (.ireturn, 1) := by decide +kernel
theorem dX11_truncate_19 : decode cX11_truncate 19 = .ok (.aload_n 0, 1) := by decide +kernel
theorem dX11_truncate_20 : decode cX11_truncate 20 = .ok (.iload_n 1, 1) := by decide +kernel
theorem dX11_truncate_21 : decode cX11_truncate 21 = .ok (.putfield 110, 3) := by decide +kernel
theorem dX11_truncate_24 : decode cX11_truncate 24 = .ok (.iconst 1, 1) := by decide +kernel
theorem dX11_truncate_25 : decode cX11_truncate 25 = .ok (.ireturn, 1) := by decide +kernel
theorem ci_X11_truncate : Cond.instanceMethod yX11_truncate ∈ TW := TW_of 1538 (by decide +kernel) (by decide +kernel)
theorem cs_X11_truncate : Cond.selects yX11_truncate.cls yX11_truncate yX11_truncate ∈ TW := TW_of 1539 (by decide +kernel) (by decide +kernel)
abbrev cX11_errorOffset : ByteArray := prog_13_method_21_code
def yX11_errorOffset : MethodName := ⟨RX11, "errorOffset", "()I"⟩
theorem dX11_errorOffset_0 : decode cX11_errorOffset 0 = .ok (.aload_n 0, 1) := by decide +kernel
theorem dX11_errorOffset_1 : decode cX11_errorOffset 1 = .ok (.iconst 0, 1) := by decide +kernel
theorem dX11_errorOffset_2 : decode cX11_errorOffset 2 = .ok (.putfield 3, 3) := by decide +kernel
theorem dX11_errorOffset_5 : decode cX11_errorOffset 5 = .ok (.aload_n 0, 1) := by decide +kernel
theorem dX11_errorOffset_6 : decode cX11_errorOffset 6 = .ok (.getfield 54, 3) := by decide +kernel
theorem dX11_errorOffset_9 : decode cX11_errorOffset 9 = .ok (.ireturn, 1) := by decide +kernel
theorem ci_X11_errorOffset : Cond.instanceMethod yX11_errorOffset ∈ TW := TW_of 1542 (by decide +kernel) (by decide +kernel)
theorem cs_X11_errorOffset : Cond.selects yX11_errorOffset.cls yX11_errorOffset yX11_errorOffset ∈ TW := TW_of 1543 (by decide +kernel) (by decide +kernel)
abbrev cX11_errorKind : ByteArray := prog_13_method_22_code
def yX11_errorKind : MethodName := ⟨RX11, "errorKind", "()I"⟩
theorem dX11_errorKind_0 : decode cX11_errorKind 0 = .ok (.aload_n 0, 1) := by decide +kernel
theorem dX11_errorKind_1 : decode cX11_errorKind 1 = .ok (.iconst 0, 1) := by decide +kernel
theorem dX11_errorKind_2 : decode cX11_errorKind 2 = .ok (.putfield 3, 3) := by decide +kernel
theorem dX11_errorKind_5 : decode cX11_errorKind 5 = .ok (.aload_n 0, 1) := by decide +kernel
theorem dX11_errorKind_6 : decode cX11_errorKind 6 = .ok (.getfield 113, 3) := by decide +kernel
theorem dX11_errorKind_9 : decode cX11_errorKind 9 = .ok (.ireturn, 1) := by decide +kernel
theorem ci_X11_errorKind : Cond.instanceMethod yX11_errorKind ∈ TW := TW_of 1546 (by decide +kernel) (by decide +kernel)
theorem cs_X11_errorKind : Cond.selects yX11_errorKind.cls yX11_errorKind yX11_errorKind ∈ TW := TW_of 1547 (by decide +kernel) (by decide +kernel)
abbrev cX11_hasFailed : ByteArray := prog_13_method_23_code
def yX11_hasFailed : MethodName := ⟨RX11, "hasFailed", "()Z"⟩
theorem dX11_hasFailed_0 : decode cX11_hasFailed 0 = .ok (.aload_n 0, 1) := by decide +kernel
theorem dX11_hasFailed_1 : decode cX11_hasFailed 1 = .ok (.getfield 116, 3) := by decide +kernel
theorem dX11_hasFailed_4 : decode cX11_hasFailed 4 = .ok (.iconst (-1), 1) := by decide +kernel
theorem dX11_hasFailed_5 : decode cX11_hasFailed 5 = .ok (.if_icmp .eq 7, 3) := by decide +kernel
theorem dX11_hasFailed_8 : decode cX11_hasFailed 8 = .ok (.iconst 1, 1) := by decide +kernel
theorem dX11_hasFailed_9 : decode cX11_hasFailed 9 = .ok (.goto 4, 3) := by decide +kernel
theorem dX11_hasFailed_12 : decode cX11_hasFailed 12 = .ok (.iconst 0, 1) := by decide +kernel
theorem dX11_hasFailed_13 : decode cX11_hasFailed 13 = .ok (.ireturn, 1) := by decide +kernel
theorem ci_X11_hasFailed : Cond.instanceMethod yX11_hasFailed ∈ TW := TW_of 1563 (by decide +kernel) (by decide +kernel)
theorem cs_X11_hasFailed : Cond.selects yX11_hasFailed.cls yX11_hasFailed yX11_hasFailed ∈ TW := TW_of 30 (by decide +kernel) (by decide +kernel)
abbrev cX11_isAt : ByteArray := prog_13_method_24_code
def yX11_isAt : MethodName := ⟨RX11, "isAt", "(II)Z"⟩
theorem dX11_isAt_0 : decode cX11_isAt 0 = .ok (.aload_n 0, 1) := by decide +kernel
theorem dX11_isAt_1 : decode cX11_isAt 1 = .ok (.getfield 119, 3) := by decide +kernel
theorem dX11_isAt_4 : decode cX11_isAt 4 = .ok (.aload_n 0, 1) := by decide +kernel
theorem dX11_isAt_5 : decode cX11_isAt 5 = .ok (.getfield 122, 3) := by decide +kernel
theorem dX11_isAt_8 : decode cX11_isAt 8 = .ok (.if_icmp .ge 33, 3) := by decide +kernel
theorem dX11_isAt_11 : decode cX11_isAt 11 = .ok (.aload_n 0, 1) := by decide +kernel
theorem dX11_isAt_12 : decode cX11_isAt 12 = .ok (.getfield 47, 3) := by decide +kernel
theorem dX11_isAt_15 : decode cX11_isAt 15 = .ok (.aload_n 0, 1) := by decide +kernel
theorem dX11_isAt_16 : decode cX11_isAt 16 = .ok (.getfield 119, 3) := by decide +kernel
theorem dX11_isAt_19 : decode cX11_isAt 19 = .ok (.baload, 1) := by decide +kernel
theorem dX11_isAt_20 : decode cX11_isAt 20 = .ok (.iload_n 1, 1) := by decide +kernel
theorem dX11_isAt_21 : decode cX11_isAt 21 = .ok (.if_icmp .lt 20, 3) := by decide +kernel
theorem dX11_isAt_24 : decode cX11_isAt 24 = .ok (.aload_n 0, 1) := by decide +kernel
theorem dX11_isAt_25 : decode cX11_isAt 25 = .ok (.getfield 47, 3) := by decide +kernel
theorem dX11_isAt_28 : decode cX11_isAt 28 = .ok (.aload_n 0, 1) := by decide +kernel
theorem dX11_isAt_29 : decode cX11_isAt 29 = .ok (.getfield 119, 3) := by decide +kernel
theorem dX11_isAt_32 : decode cX11_isAt 32 = .ok (.baload, 1) := by decide +kernel
theorem dX11_isAt_33 : decode cX11_isAt 33 = .ok (.iload_n 2, 1) := by decide +kernel
theorem dX11_isAt_34 : decode cX11_isAt 34 = .ok (.if_icmp .gt 7, 3) := by decide +kernel
theorem dX11_isAt_37 : decode cX11_isAt 37 = .ok (.iconst 1, 1) := by decide +kernel
theorem dX11_isAt_38 : decode cX11_isAt 38 = .ok (.goto 4, 3) := by decide +kernel
theorem dX11_isAt_41 : decode cX11_isAt 41 = .ok (.iconst 0, 1) := by decide +kernel
theorem dX11_isAt_42 : decode cX11_isAt 42 = .ok (.ireturn, 1) := by decide +kernel
theorem ci_X11_isAt : Cond.instanceMethod yX11_isAt ∈ TW := TW_of 1567 (by decide +kernel) (by decide +kernel)
theorem cs_X11_isAt : Cond.selects yX11_isAt.cls yX11_isAt yX11_isAt ∈ TW := TW_of 31 (by decide +kernel) (by decide +kernel)
abbrev cX11_blanks : ByteArray := prog_13_method_25_code
def yX11_blanks : MethodName := ⟨RX11, "blanks", "()V"⟩
theorem dX11_blanks_0 : decode cX11_blanks 0 = .ok (.aload_n 0, 1) := by decide +kernel
theorem dX11_blanks_1 : decode cX11_blanks 1 = .ok (.invokevirtual 125, 3) := by decide +kernel
theorem dX11_blanks_4 : decode cX11_blanks 4 = .ok (.ifCond .eq 4, 3) := by decide +kernel
theorem dX11_blanks_7 : decode cX11_blanks 7 = .ok (.return_, 1) := by decide +kernel
theorem dX11_blanks_8 : decode cX11_blanks 8 = .ok (.aload_n 0, 1) := by decide +kernel
theorem dX11_blanks_9 : decode cX11_blanks 9 = .ok (.bipush 9, 2) := by decide +kernel
theorem dX11_blanks_11 : decode cX11_blanks 11 = .ok (.bipush 10, 2) := by decide +kernel
theorem dX11_blanks_13 : decode cX11_blanks 13 = .ok (.invokevirtual 129, 3) := by decide +kernel
theorem dX11_blanks_16 : decode cX11_blanks 16 = .ok (.ifCond .ne 14, 3) := by decide +kernel
theorem dX11_blanks_19 : decode cX11_blanks 19 = .ok (.aload_n 0, 1) := by decide +kernel
theorem dX11_blanks_20 : decode cX11_blanks 20 = .ok (.bipush 32, 2) := by decide +kernel
theorem dX11_blanks_22 : decode cX11_blanks 22 = .ok (.bipush 32, 2) := by decide +kernel
theorem dX11_blanks_24 : decode cX11_blanks 24 = .ok (.invokevirtual 129, 3) := by decide +kernel
theorem dX11_blanks_27 : decode cX11_blanks 27 = .ok (.ifCond .eq 16, 3) := by decide +kernel
theorem dX11_blanks_30 : decode cX11_blanks 30 = .ok (.aload_n 0, 1) := by decide +kernel
theorem dX11_blanks_31 : decode cX11_blanks 31 = .ok (.dup, 1) := by decide +kernel
theorem dX11_blanks_32 : decode cX11_blanks 32 = .ok (.getfield 119, 3) := by decide +kernel
theorem dX11_blanks_35 : decode cX11_blanks 35 = .ok (.iconst 1, 1) := by decide +kernel
theorem dX11_blanks_36 : decode cX11_blanks 36 = .ok (.iadd, 1) := by decide +kernel
theorem dX11_blanks_37 : decode cX11_blanks 37 = .ok (.putfield 119, 3) := by decide +kernel
theorem dX11_blanks_40 : decode cX11_blanks 40 = .ok (.goto (-32), 3) := by decide +kernel
theorem dX11_blanks_43 : decode cX11_blanks 43 = .ok (.aload_n 0, 1) := by decide +kernel
theorem dX11_blanks_44 : decode cX11_blanks 44 = .ok (.aload_n 0, 1) := by decide +kernel
theorem dX11_blanks_45 : decode cX11_blanks 45 = .ok (.getfield 119, 3) := by decide +kernel
theorem dX11_blanks_48 : decode cX11_blanks 48 = .ok (.putfield 133, 3) := by decide +kernel
theorem dX11_blanks_51 : decode cX11_blanks 51 = .ok (.return_, 1) := by decide +kernel
theorem ci_X11_blanks : Cond.instanceMethod yX11_blanks ∈ TW := TW_of 1559 (by decide +kernel) (by decide +kernel)
theorem cs_X11_blanks : Cond.selects yX11_blanks.cls yX11_blanks yX11_blanks ∈ TW := TW_of 29 (by decide +kernel) (by decide +kernel)
abbrev cX11_must : ByteArray := prog_13_method_26_code
def yX11_must : MethodName := ⟨RX11, "must", "(ZI)V"⟩
theorem dX11_must_0 : decode cX11_must 0 = .ok (.iload_n 1, 1) := by decide +kernel
theorem dX11_must_1 : decode cX11_must 1 = .ok (.ifCond .ne 10, 3) := by decide +kernel
theorem dX11_must_4 : decode cX11_must 4 = .ok (.aload_n 0, 1) := by decide +kernel
theorem dX11_must_5 : decode cX11_must 5 = .ok (.invokevirtual 125, 3) := by decide +kernel
theorem dX11_must_8 : decode cX11_must 8 = .ok (.ifCond .eq 4, 3) := by decide +kernel
theorem dX11_must_11 : decode cX11_must 11 = .ok (.return_, 1) := by decide +kernel
theorem dX11_must_12 : decode cX11_must 12 = .ok (.aload_n 0, 1) := by decide +kernel
theorem dX11_must_13 : decode cX11_must 13 = .ok (.aload_n 0, 1) := by decide +kernel
theorem dX11_must_14 : decode cX11_must 14 = .ok (.getfield 133, 3) := by decide +kernel
theorem dX11_must_17 : decode cX11_must 17 = .ok (.putfield 116, 3) := by decide +kernel
theorem dX11_must_20 : decode cX11_must 20 = .ok (.aload_n 0, 1) := by decide +kernel
theorem dX11_must_21 : decode cX11_must 21 = .ok (.iload_n 2, 1) := by decide +kernel
theorem dX11_must_22 : decode cX11_must 22 = .ok (.putfield 136, 3) := by decide +kernel
theorem dX11_must_25 : decode cX11_must 25 = .ok (.return_, 1) := by decide +kernel
theorem ci_X11_must : Cond.instanceMethod yX11_must ∈ TW := TW_of 1595 (by decide +kernel) (by decide +kernel)
theorem cs_X11_must : Cond.selects yX11_must.cls yX11_must yX11_must ∈ TW := TW_of 37 (by decide +kernel) (by decide +kernel)
abbrev cX11_letters : ByteArray := prog_13_method_27_code
def yX11_letters : MethodName := ⟨RX11, "letters", "()I"⟩
theorem dX11_letters_0 : decode cX11_letters 0 = .ok (.aload_n 0, 1) := by decide +kernel
theorem dX11_letters_1 : decode cX11_letters 1 = .ok (.invokevirtual 139, 3) := by decide +kernel
theorem dX11_letters_4 : decode cX11_letters 4 = .ok (.aload_n 0, 1) := by decide +kernel
theorem dX11_letters_5 : decode cX11_letters 5 = .ok (.getfield 119, 3) := by decide +kernel
theorem dX11_letters_8 : decode cX11_letters 8 = .ok (.istore_n 1, 1) := by decide +kernel
theorem dX11_letters_9 : decode cX11_letters 9 = .ok (.iload_n 1, 1) := by decide +kernel
theorem dX11_letters_10 : decode cX11_letters 10 = .ok (.aload_n 0, 1) := by decide +kernel
theorem dX11_letters_11 : decode cX11_letters 11 = .ok (.getfield 122, 3) := by decide +kernel
theorem dX11_letters_14 : decode cX11_letters 14 = .ok (.if_icmp .ge 31, 3) := by decide +kernel
theorem dX11_letters_17 : decode cX11_letters 17 = .ok (.aload_n 0, 1) := by decide +kernel
theorem dX11_letters_18 : decode cX11_letters 18 = .ok (.getfield 47, 3) := by decide +kernel
theorem dX11_letters_21 : decode cX11_letters 21 = .ok (.iload_n 1, 1) := by decide +kernel
theorem dX11_letters_22 : decode cX11_letters 22 = .ok (.baload, 1) := by decide +kernel
theorem dX11_letters_23 : decode cX11_letters 23 = .ok (.bipush 97, 2) := by decide +kernel
theorem dX11_letters_25 : decode cX11_letters 25 = .ok (.if_icmp .lt 20, 3) := by decide +kernel
theorem dX11_letters_28 : decode cX11_letters 28 = .ok (.aload_n 0, 1) := by decide +kernel
theorem dX11_letters_29 : decode cX11_letters 29 = .ok (.getfield 47, 3) := by decide +kernel
theorem dX11_letters_32 : decode cX11_letters 32 = .ok (.iload_n 1, 1) := by decide +kernel
theorem dX11_letters_33 : decode cX11_letters 33 = .ok (.baload, 1) := by decide +kernel
theorem dX11_letters_34 : decode cX11_letters 34 = .ok (.bipush 122, 2) := by decide +kernel
theorem dX11_letters_36 : decode cX11_letters 36 = .ok (.if_icmp .gt 9, 3) := by decide +kernel
theorem dX11_letters_39 : decode cX11_letters 39 = .ok (.iinc 1 1, 3) := by decide +kernel
theorem dX11_letters_42 : decode cX11_letters 42 = .ok (.goto (-33), 3) := by decide +kernel
theorem dX11_letters_45 : decode cX11_letters 45 = .ok (.iload_n 1, 1) := by decide +kernel
theorem dX11_letters_46 : decode cX11_letters 46 = .ok (.aload_n 0, 1) := by decide +kernel
theorem dX11_letters_47 : decode cX11_letters 47 = .ok (.getfield 119, 3) := by decide +kernel
theorem dX11_letters_50 : decode cX11_letters 50 = .ok (.isub, 1) := by decide +kernel
theorem dX11_letters_51 : decode cX11_letters 51 = .ok (.ireturn, 1) := by decide +kernel
theorem ci_X11_letters : Cond.instanceMethod yX11_letters ∈ TW := TW_of 1584 (by decide +kernel) (by decide +kernel)
theorem cs_X11_letters : Cond.selects yX11_letters.cls yX11_letters yX11_letters ∈ TW := TW_of 35 (by decide +kernel) (by decide +kernel)
abbrev cX11_isWord : ByteArray := prog_13_method_28_code
def yX11_isWord : MethodName := ⟨RX11, "isWord", "(Ljava/lang/String;)Z"⟩
theorem dX11_isWord_0 : decode cX11_isWord 0 = .ok (.aload_n 0, 1) := by decide +kernel
theorem dX11_isWord_1 : decode cX11_isWord 1 = .ok (.invokevirtual 125, 3) := by decide +kernel
theorem dX11_isWord_4 : decode cX11_isWord 4 = .ok (.ifCond .ne 18, 3) := by decide +kernel
theorem dX11_isWord_7 : decode cX11_isWord 7 = .ok (.aload_n 0, 1) := by decide +kernel
theorem dX11_isWord_8 : decode cX11_isWord 8 = .ok (.invokevirtual 142, 3) := by decide +kernel
theorem dX11_isWord_11 : decode cX11_isWord 11 = .ok (.aload_n 1, 1) := by decide +kernel
theorem dX11_isWord_12 : decode cX11_isWord 12 = .ok (.invokevirtual 145, 3) := by decide +kernel
theorem dX11_isWord_15 : decode cX11_isWord 15 = .ok (.if_icmp .ne 7, 3) := by decide +kernel
theorem dX11_isWord_18 : decode cX11_isWord 18 = .ok (.iconst 1, 1) := by decide +kernel
theorem dX11_isWord_19 : decode cX11_isWord 19 = .ok (.goto 4, 3) := by decide +kernel
theorem dX11_isWord_22 : decode cX11_isWord 22 = .ok (.iconst 0, 1) := by decide +kernel
theorem dX11_isWord_23 : decode cX11_isWord 23 = .ok (.istore_n 2, 1) := by decide +kernel
theorem dX11_isWord_24 : decode cX11_isWord 24 = .ok (.iconst 0, 1) := by decide +kernel
theorem dX11_isWord_25 : decode cX11_isWord 25 = .ok (.istore_n 3, 1) := by decide +kernel
theorem dX11_isWord_26 : decode cX11_isWord 26 = .ok (.iload_n 2, 1) := by decide +kernel
theorem dX11_isWord_27 : decode cX11_isWord 27 = .ok (.ifCond .eq 42, 3) := by decide +kernel
theorem dX11_isWord_30 : decode cX11_isWord 30 = .ok (.iload_n 3, 1) := by decide +kernel
theorem dX11_isWord_31 : decode cX11_isWord 31 = .ok (.aload_n 1, 1) := by decide +kernel
theorem dX11_isWord_32 : decode cX11_isWord 32 = .ok (.invokevirtual 145, 3) := by decide +kernel
theorem dX11_isWord_35 : decode cX11_isWord 35 = .ok (.if_icmp .ge 34, 3) := by decide +kernel
theorem dX11_isWord_38 : decode cX11_isWord 38 = .ok (.aload_n 0, 1) := by decide +kernel
theorem dX11_isWord_39 : decode cX11_isWord 39 = .ok (.getfield 47, 3) := by decide +kernel
theorem dX11_isWord_42 : decode cX11_isWord 42 = .ok (.aload_n 0, 1) := by decide +kernel
theorem dX11_isWord_43 : decode cX11_isWord 43 = .ok (.getfield 119, 3) := by decide +kernel
theorem dX11_isWord_46 : decode cX11_isWord 46 = .ok (.iload_n 3, 1) := by decide +kernel
theorem dX11_isWord_47 : decode cX11_isWord 47 = .ok (.iadd, 1) := by decide +kernel
theorem dX11_isWord_48 : decode cX11_isWord 48 = .ok (.baload, 1) := by decide +kernel
theorem dX11_isWord_49 : decode cX11_isWord 49 = .ok (.aload_n 1, 1) := by decide +kernel
theorem dX11_isWord_50 : decode cX11_isWord 50 = .ok (.iload_n 3, 1) := by decide +kernel
theorem dX11_isWord_51 : decode cX11_isWord 51 = .ok (.invokevirtual 150, 3) := by decide +kernel
theorem dX11_isWord_54 : decode cX11_isWord 54 = .ok (.if_icmp .ne 7, 3) := by decide +kernel
theorem dX11_isWord_57 : decode cX11_isWord 57 = .ok (.iconst 1, 1) := by decide +kernel
theorem dX11_isWord_58 : decode cX11_isWord 58 = .ok (.goto 4, 3) := by decide +kernel
theorem dX11_isWord_61 : decode cX11_isWord 61 = .ok (.iconst 0, 1) := by decide +kernel
theorem dX11_isWord_62 : decode cX11_isWord 62 = .ok (.istore_n 2, 1) := by decide +kernel
theorem dX11_isWord_63 : decode cX11_isWord 63 = .ok (.iinc 3 1, 3) := by decide +kernel
theorem dX11_isWord_66 : decode cX11_isWord 66 = .ok (.goto (-40), 3) := by decide +kernel
theorem dX11_isWord_69 : decode cX11_isWord 69 = .ok (.iload_n 2, 1) := by decide +kernel
theorem dX11_isWord_70 : decode cX11_isWord 70 = .ok (.ireturn, 1) := by decide +kernel
theorem ci_X11_isWord : Cond.instanceMethod yX11_isWord ∈ TW := TW_of 1580 (by decide +kernel) (by decide +kernel)
theorem cs_X11_isWord : Cond.selects yX11_isWord.cls yX11_isWord yX11_isWord ∈ TW := TW_of 34 (by decide +kernel) (by decide +kernel)
abbrev cX11_takes : ByteArray := prog_13_method_29_code
def yX11_takes : MethodName := ⟨RX11, "takes", "(Ljava/lang/String;)Z"⟩
theorem dX11_takes_0 : decode cX11_takes 0 = .ok (.aload_n 0, 1) := by decide +kernel
theorem dX11_takes_1 : decode cX11_takes 1 = .ok (.aload_n 1, 1) := by decide +kernel
theorem dX11_takes_2 : decode cX11_takes 2 = .ok (.invokevirtual 154, 3) := by decide +kernel
theorem dX11_takes_5 : decode cX11_takes 5 = .ok (.istore_n 2, 1) := by decide +kernel
theorem dX11_takes_6 : decode cX11_takes 6 = .ok (.iload_n 2, 1) := by decide +kernel
theorem dX11_takes_7 : decode cX11_takes 7 = .ok (.ifCond .eq 16, 3) := by decide +kernel
theorem dX11_takes_10 : decode cX11_takes 10 = .ok (.aload_n 0, 1) := by decide +kernel
theorem dX11_takes_11 : decode cX11_takes 11 = .ok (.dup, 1) := by decide +kernel
theorem dX11_takes_12 : decode cX11_takes 12 = .ok (.getfield 119, 3) := by decide +kernel
theorem dX11_takes_15 : decode cX11_takes 15 = .ok (.aload_n 1, 1) := by decide +kernel
theorem dX11_takes_16 : decode cX11_takes 16 = .ok (.invokevirtual 145, 3) := by decide +kernel
theorem dX11_takes_19 : decode cX11_takes 19 = .ok (.iadd, 1) := by decide +kernel
theorem dX11_takes_20 : decode cX11_takes 20 = .ok (.putfield 119, 3) := by decide +kernel
theorem dX11_takes_23 : decode cX11_takes 23 = .ok (.iload_n 2, 1) := by decide +kernel
theorem dX11_takes_24 : decode cX11_takes 24 = .ok (.ireturn, 1) := by decide +kernel
theorem ci_X11_takes : Cond.instanceMethod yX11_takes ∈ TW := TW_of 1576 (by decide +kernel) (by decide +kernel)
theorem cs_X11_takes : Cond.selects yX11_takes.cls yX11_takes yX11_takes ∈ TW := TW_of 33 (by decide +kernel) (by decide +kernel)
abbrev cX11_takesSign : ByteArray := prog_13_method_30_code
def yX11_takesSign : MethodName := ⟨RX11, "takesSign", "(I)Z"⟩
theorem dX11_takesSign_0 : decode cX11_takesSign 0 = .ok (.aload_n 0, 1) := by decide +kernel
theorem dX11_takesSign_1 : decode cX11_takesSign 1 = .ok (.invokevirtual 139, 3) := by decide +kernel
theorem dX11_takesSign_4 : decode cX11_takesSign 4 = .ok (.aload_n 0, 1) := by decide +kernel
theorem dX11_takesSign_5 : decode cX11_takesSign 5 = .ok (.invokevirtual 125, 3) := by decide +kernel
theorem dX11_takesSign_8 : decode cX11_takesSign 8 = .ok (.ifCond .ne 16, 3) := by decide +kernel
theorem dX11_takesSign_11 : decode cX11_takesSign 11 = .ok (.aload_n 0, 1) := by decide +kernel
theorem dX11_takesSign_12 : decode cX11_takesSign 12 = .ok (.iload_n 1, 1) := by decide +kernel
theorem dX11_takesSign_13 : decode cX11_takesSign 13 = .ok (.iload_n 1, 1) := by decide +kernel
theorem dX11_takesSign_14 : decode cX11_takesSign 14 = .ok (.invokevirtual 129, 3) := by decide +kernel
theorem dX11_takesSign_17 : decode cX11_takesSign 17 = .ok (.ifCond .eq 7, 3) := by decide +kernel
theorem dX11_takesSign_20 : decode cX11_takesSign 20 = .ok (.iconst 1, 1) := by decide +kernel
theorem dX11_takesSign_21 : decode cX11_takesSign 21 = .ok (.goto 4, 3) := by decide +kernel
theorem dX11_takesSign_24 : decode cX11_takesSign 24 = .ok (.iconst 0, 1) := by decide +kernel
theorem dX11_takesSign_25 : decode cX11_takesSign 25 = .ok (.istore_n 2, 1) := by decide +kernel
theorem dX11_takesSign_26 : decode cX11_takesSign 26 = .ok (.iload_n 2, 1) := by decide +kernel
theorem dX11_takesSign_27 : decode cX11_takesSign 27 = .ok (.ifCond .eq 13, 3) := by decide +kernel
theorem dX11_takesSign_30 : decode cX11_takesSign 30 = .ok (.aload_n 0, 1) := by decide +kernel
theorem dX11_takesSign_31 : decode cX11_takesSign 31 = .ok (.dup, 1) := by decide +kernel
theorem dX11_takesSign_32 : decode cX11_takesSign 32 = .ok (.getfield 119, 3) := by decide +kernel
theorem dX11_takesSign_35 : decode cX11_takesSign 35 = .ok (.iconst 1, 1) := by decide +kernel
theorem dX11_takesSign_36 : decode cX11_takesSign 36 = .ok (.iadd, 1) := by decide +kernel
theorem dX11_takesSign_37 : decode cX11_takesSign 37 = .ok (.putfield 119, 3) := by decide +kernel
theorem dX11_takesSign_40 : decode cX11_takesSign 40 = .ok (.iload_n 2, 1) := by decide +kernel
theorem dX11_takesSign_41 : decode cX11_takesSign 41 = .ok (.ireturn, 1) := by decide +kernel
theorem ci_X11_takesSign : Cond.instanceMethod yX11_takesSign ∈ TW := TW_of 1647 (by decide +kernel) (by decide +kernel)
theorem cs_X11_takesSign : Cond.selects yX11_takesSign.cls yX11_takesSign yX11_takesSign ∈ TW := TW_of 48 (by decide +kernel) (by decide +kernel)
abbrev cX11_needs : ByteArray := prog_13_method_31_code
def yX11_needs : MethodName := ⟨RX11, "needs", "(I)V"⟩
theorem dX11_needs_0 : decode cX11_needs 0 = .ok (.aload_n 0, 1) := by decide +kernel
theorem dX11_needs_1 : decode cX11_needs 1 = .ok (.iload_n 1, 1) := by decide +kernel
theorem dX11_needs_2 : decode cX11_needs 2 = .ok (.invokevirtual 158, 3) := by decide +kernel
theorem dX11_needs_5 : decode cX11_needs 5 = .ok (.istore_n 2, 1) := by decide +kernel
theorem dX11_needs_6 : decode cX11_needs 6 = .ok (.aload_n 0, 1) := by decide +kernel
theorem dX11_needs_7 : decode cX11_needs 7 = .ok (.iload_n 2, 1) := by decide +kernel
theorem dX11_needs_8 : decode cX11_needs 8 = .ok (.iconst 1, 1) := by decide +kernel
theorem dX11_needs_9 : decode cX11_needs 9 = .ok (.invokevirtual 162, 3) := by decide +kernel
theorem dX11_needs_12 : decode cX11_needs 12 = .ok (.return_, 1) := by decide +kernel
theorem ci_X11_needs : Cond.instanceMethod yX11_needs ∈ TW := TW_of 1643 (by decide +kernel) (by decide +kernel)
theorem cs_X11_needs : Cond.selects yX11_needs.cls yX11_needs yX11_needs ∈ TW := TW_of 47 (by decide +kernel) (by decide +kernel)
abbrev cX11_number : ByteArray := prog_13_method_32_code
def yX11_number : MethodName := ⟨RX11, "number", "(II)I"⟩
theorem dX11_number_0 : decode cX11_number 0 = .ok (.aload_n 0, 1) := by decide +kernel
theorem dX11_number_1 : decode cX11_number 1 = .ok (.invokevirtual 139, 3) := by decide +kernel
theorem dX11_number_4 : decode cX11_number 4 = .ok (.aload_n 0, 1) := by decide +kernel
theorem dX11_number_5 : decode cX11_number 5 = .ok (.aload_n 0, 1) := by decide +kernel
theorem dX11_number_6 : decode cX11_number 6 = .ok (.bipush 48, 2) := by decide +kernel
theorem dX11_number_8 : decode cX11_number 8 = .ok (.bipush 57, 2) := by decide +kernel
theorem dX11_number_10 : decode cX11_number 10 = .ok (.invokevirtual 129, 3) := by decide +kernel
theorem dX11_number_13 : decode cX11_number 13 = .ok (.iconst 1, 1) := by decide +kernel
theorem dX11_number_14 : decode cX11_number 14 = .ok (.invokevirtual 162, 3) := by decide +kernel
theorem dX11_number_17 : decode cX11_number 17 = .ok (.aload_n 0, 1) := by decide +kernel
theorem dX11_number_18 : decode cX11_number 18 = .ok (.invokevirtual 125, 3) := by decide +kernel
theorem dX11_number_21 : decode cX11_number 21 = .ok (.ifCond .eq 5, 3) := by decide +kernel
theorem dX11_number_24 : decode cX11_number 24 = .ok (.iload_n 1, 1) := by decide +kernel
theorem dX11_number_25 : decode cX11_number 25 = .ok (.ireturn, 1) := by decide +kernel
theorem dX11_number_26 : decode cX11_number 26 = .ok (.iconst 0, 1) := by decide +kernel
theorem dX11_number_27 : decode cX11_number 27 = .ok (.istore_n 3, 1) := by decide +kernel
theorem dX11_number_28 : decode cX11_number 28 = .ok (.aload_n 0, 1) := by decide +kernel
theorem dX11_number_29 : decode cX11_number 29 = .ok (.bipush 48, 2) := by decide +kernel
theorem dX11_number_31 : decode cX11_number 31 = .ok (.bipush 57, 2) := by decide +kernel
theorem dX11_number_33 : decode cX11_number 33 = .ok (.invokevirtual 129, 3) := by decide +kernel
theorem dX11_number_36 : decode cX11_number 36 = .ok (.ifCond .eq 47, 3) := by decide +kernel
theorem dX11_number_39 : decode cX11_number 39 = .ok (.aload_n 0, 1) := by decide +kernel
theorem dX11_number_40 : decode cX11_number 40 = .ok (.getfield 119, 3) := by decide +kernel
theorem dX11_number_43 : decode cX11_number 43 = .ok (.aload_n 0, 1) := by decide +kernel
theorem dX11_number_44 : decode cX11_number 44 = .ok (.getfield 133, 3) := by decide +kernel
theorem dX11_number_47 : decode cX11_number 47 = .ok (.isub, 1) := by decide +kernel
theorem dX11_number_48 : decode cX11_number 48 = .ok (.iconst 5, 1) := by decide +kernel
theorem dX11_number_49 : decode cX11_number 49 = .ok (.if_icmp .ge 21, 3) := by decide +kernel
theorem dX11_number_52 : decode cX11_number 52 = .ok (.bipush 10, 2) := by decide +kernel
theorem dX11_number_54 : decode cX11_number 54 = .ok (.iload_n 3, 1) := by decide +kernel
theorem dX11_number_55 : decode cX11_number 55 = .ok (.imul, 1) := by decide +kernel
theorem dX11_number_56 : decode cX11_number 56 = .ok (.aload_n 0, 1) := by decide +kernel
theorem dX11_number_57 : decode cX11_number 57 = .ok (.getfield 47, 3) := by decide +kernel
theorem dX11_number_60 : decode cX11_number 60 = .ok (.aload_n 0, 1) := by decide +kernel
theorem dX11_number_61 : decode cX11_number 61 = .ok (.getfield 119, 3) := by decide +kernel
theorem dX11_number_64 : decode cX11_number 64 = .ok (.baload, 1) := by decide +kernel
theorem dX11_number_65 : decode cX11_number 65 = .ok (.iadd, 1) := by decide +kernel
theorem dX11_number_66 : decode cX11_number 66 = .ok (.bipush 48, 2) := by decide +kernel
theorem dX11_number_68 : decode cX11_number 68 = .ok (.isub, 1) := by decide +kernel
theorem dX11_number_69 : decode cX11_number 69 = .ok (.istore_n 3, 1) := by decide +kernel
theorem dX11_number_70 : decode cX11_number 70 = .ok (.aload_n 0, 1) := by decide +kernel
theorem dX11_number_71 : decode cX11_number 71 = .ok (.dup, 1) := by decide +kernel
theorem dX11_number_72 : decode cX11_number 72 = .ok (.getfield 119, 3) := by decide +kernel
theorem dX11_number_75 : decode cX11_number 75 = .ok (.iconst 1, 1) := by decide +kernel
theorem dX11_number_76 : decode cX11_number 76 = .ok (.iadd, 1) := by decide +kernel
theorem dX11_number_77 : decode cX11_number 77 = .ok (.putfield 119, 3) := by decide +kernel
theorem dX11_number_80 : decode cX11_number 80 = .ok (.goto (-52), 3) := by decide +kernel
theorem dX11_number_83 : decode cX11_number 83 = .ok (.aload_n 0, 1) := by decide +kernel
theorem dX11_number_84 : decode cX11_number 84 = .ok (.aload_n 0, 1) := by decide +kernel
theorem dX11_number_85 : decode cX11_number 85 = .ok (.getfield 119, 3) := by decide +kernel
theorem dX11_number_88 : decode cX11_number 88 = .ok (.aload_n 0, 1) := by decide +kernel
theorem dX11_number_89 : decode cX11_number 89 = .ok (.getfield 133, 3) := by decide +kernel
theorem dX11_number_92 : decode cX11_number 92 = .ok (.isub, 1) := by decide +kernel
theorem dX11_number_93 : decode cX11_number 93 = .ok (.iconst 5, 1) := by decide +kernel
theorem dX11_number_94 : decode cX11_number 94 = .ok (.if_icmp .gt 16, 3) := by decide +kernel
theorem dX11_number_97 : decode cX11_number 97 = .ok (.iload_n 3, 1) := by decide +kernel
theorem dX11_number_98 : decode cX11_number 98 = .ok (.iload_n 1, 1) := by decide +kernel
theorem dX11_number_99 : decode cX11_number 99 = .ok (.iload_n 2, 1) := by decide +kernel
theorem dX11_number_100 : decode cX11_number 100 = .ok (.invokestatic 166, 3) := by decide +kernel
theorem dX11_number_103 : decode cX11_number 103 = .ok (.ifCond .eq 7, 3) := by decide +kernel
theorem dX11_number_106 : decode cX11_number 106 = .ok (.iconst 1, 1) := by decide +kernel
theorem dX11_number_107 : decode cX11_number 107 = .ok (.goto 4, 3) := by decide +kernel
theorem dX11_number_110 : decode cX11_number 110 = .ok (.iconst 0, 1) := by decide +kernel
theorem dX11_number_111 : decode cX11_number 111 = .ok (.iconst 2, 1) := by decide +kernel
theorem dX11_number_112 : decode cX11_number 112 = .ok (.invokevirtual 162, 3) := by decide +kernel
theorem dX11_number_115 : decode cX11_number 115 = .ok (.aload_n 0, 1) := by decide +kernel
theorem dX11_number_116 : decode cX11_number 116 = .ok (.invokevirtual 125, 3) := by decide +kernel
theorem dX11_number_119 : decode cX11_number 119 = .ok (.ifCond .eq 7, 3) := by decide +kernel
theorem dX11_number_122 : decode cX11_number 122 = .ok (.iload_n 1, 1) := by decide +kernel
theorem dX11_number_123 : decode cX11_number 123 = .ok (.goto 4, 3) := by decide +kernel
theorem dX11_number_126 : decode cX11_number 126 = .ok (.iload_n 3, 1) := by decide +kernel
theorem dX11_number_127 : decode cX11_number 127 = .ok (.ireturn, 1) := by decide +kernel
theorem ci_X11_number : Cond.instanceMethod yX11_number ∈ TW := TW_of 1591 (by decide +kernel) (by decide +kernel)
theorem cs_X11_number : Cond.selects yX11_number.cls yX11_number yX11_number ∈ TW := TW_of 36 (by decide +kernel) (by decide +kernel)
theorem ml_X11_98 : Cond.methodLink RX11 98 Lib.Math.max.name ∈ TW := TW_of 1389 (by decide +kernel) (by decide +kernel)
theorem ml_X11_107 : Cond.methodLink RX11 107 Lib.Math.min.name ∈ TW := TW_of 1394 (by decide +kernel) (by decide +kernel)
theorem cw_X11_90 : CWd RX11 90 yX11_words cX11_words 1 (some .int) 0 := ⟨TW_of 1381 (by decide +kernel) (by decide +kernel), TW_of 1384 (by decide +kernel) (by decide +kernel), TW_of 112 (by decide +kernel) (by decide +kernel), by decide +kernel⟩
theorem cw_X11_94 : CWd RX11 94 yX11_of cX11_of 3 (some .int) 2 := ⟨TW_of 1385 (by decide +kernel) (by decide +kernel), TW_of 1388 (by decide +kernel) (by decide +kernel), TW_of 112 (by decide +kernel) (by decide +kernel), by decide +kernel⟩
theorem cw_X11_103 : CWd RX11 103 yX11_laysCut cX11_laysCut 8 none 1 := ⟨TW_of 1390 (by decide +kernel) (by decide +kernel), TW_of 1393 (by decide +kernel) (by decide +kernel), TW_of 112 (by decide +kernel) (by decide +kernel), by decide +kernel⟩
theorem cw_X11_81 : CWd RX11 81 yX11_laysBlocks cX11_laysBlocks 2 none 0 := ⟨TW_of 1377 (by decide +kernel) (by decide +kernel), TW_of 1380 (by decide +kernel) (by decide +kernel), TW_of 112 (by decide +kernel) (by decide +kernel), by decide +kernel⟩
theorem cw_X11_125 : CWd RX11 125 yX11_hasFailed cX11_hasFailed 1 (some .boolean) 0 := ⟨TW_of 1561 (by decide +kernel) (by decide +kernel), TW_of 1564 (by decide +kernel) (by decide +kernel), TW_of 112 (by decide +kernel) (by decide +kernel), by decide +kernel⟩
theorem cw_X11_129 : CWd RX11 129 yX11_isAt cX11_isAt 3 (some .boolean) 2 := ⟨TW_of 1565 (by decide +kernel) (by decide +kernel), TW_of 1568 (by decide +kernel) (by decide +kernel), TW_of 112 (by decide +kernel) (by decide +kernel), by decide +kernel⟩
theorem cw_X11_139 : CWd RX11 139 yX11_blanks cX11_blanks 1 none 0 := ⟨TW_of 1557 (by decide +kernel) (by decide +kernel), TW_of 1560 (by decide +kernel) (by decide +kernel), TW_of 112 (by decide +kernel) (by decide +kernel), by decide +kernel⟩
theorem cw_X11_142 : CWd RX11 142 yX11_letters cX11_letters 2 (some .int) 0 := ⟨TW_of 1582 (by decide +kernel) (by decide +kernel), TW_of 1585 (by decide +kernel) (by decide +kernel), TW_of 112 (by decide +kernel) (by decide +kernel), by decide +kernel⟩
theorem cw_X11_154 : CWd RX11 154 yX11_isWord cX11_isWord 4 (some .boolean) 1 := ⟨TW_of 1578 (by decide +kernel) (by decide +kernel), TW_of 1581 (by decide +kernel) (by decide +kernel), TW_of 112 (by decide +kernel) (by decide +kernel), by decide +kernel⟩
theorem cw_X11_158 : CWd RX11 158 yX11_takesSign cX11_takesSign 3 (some .boolean) 1 := ⟨TW_of 1645 (by decide +kernel) (by decide +kernel), TW_of 1648 (by decide +kernel) (by decide +kernel), TW_of 112 (by decide +kernel) (by decide +kernel), by decide +kernel⟩
theorem cw_X11_162 : CWd RX11 162 yX11_must cX11_must 3 none 2 := ⟨TW_of 1593 (by decide +kernel) (by decide +kernel), TW_of 1596 (by decide +kernel) (by decide +kernel), TW_of 112 (by decide +kernel) (by decide +kernel), by decide +kernel⟩
theorem cw_X11_166 : CWd RX11 166 yX11_in cX11_in 3 (some .boolean) 3 := ⟨TW_of 1597 (by decide +kernel) (by decide +kernel), TW_of 1599 (by decide +kernel) (by decide +kernel), TW_of 112 (by decide +kernel) (by decide +kernel), by decide +kernel⟩
set_option maxRecDepth 20000 in
set_option maxHeartbeats 1000000 in
theorem c_X11_thrown {l : Launch} {Z : ZT} {h : Hp} {g : Hp} {out : Int32} (hf : f_X11_thrown g = some out) : Met l yX11_thrown (wY yX11_thrown cX11_thrown 1 (some .int)) (rmD 0) (va_Pc [.ref (Z.1 125)] (Wd Z h g)) (va_Qi (fun r (_ : Unit) => r = out) (fun _ => Wd Z h g) (FR Z)) 0 0 (FR Z) := by
  refine metX RX11 rfl (by decide +kernel) (Nat.le_of_ble_eq_true rfl) ?_
  intro p e s m args below meth c C hW ls hl
  have hl : lv_has ls 1 [(0, .ref (Z.1 125))] := hl
  unfold f_X11_thrown at hf
  refine lv_aload_n C.1 C.2.1 dX11_thrown_0 rfl (lv_at hl 0 rfl) ?_
  refine xg_X11_3 C hW (k_125) dX11_thrown_1 ?_
  exact x_iret C hW dX11_thrown_4 (Option.some.inj hf)
set_option maxRecDepth 20000 in
set_option maxHeartbeats 1000000 in
theorem c_X11_throwsIf {l : Launch} {Z : ZT} {h : Hp} {g : Hp} {p1 : Int32} {p2 : Int32} {out : Int32 × Hp} (hf : f_X11_throwsIf g p1 p2 = some out) : Met l yX11_throwsIf (wY yX11_throwsIf cX11_throwsIf 3 (some .boolean)) (rmD 0) (va_Pc [.ref (Z.1 125), .int p1, .int p2] (Wd Z h g)) (va_Qi (fun r (_ : Unit) => r = out.1) (fun _ => Wd Z h out.2) (FR Z)) 0 0 (FR Z) := by
  refine metX RX11 rfl (by decide +kernel) (Nat.le_of_ble_eq_true rfl) ?_
  intro p e s m args below meth c C hW ls hl
  have hl : lv_has ls 3 [(0, .ref (Z.1 125)), (1, .int p1), (2, .int p2)] := hl
  unfold f_X11_throwsIf at hf
  refine lv_iload_n C.1 C.2.1 dX11_throwsIf_0 rfl (lv_at hl 1 rfl) ?_
  refine x_ifeq (tgt := 9) C hf dX11_throwsIf_1 (by decide) (fun hf => ?_) (fun hf => ?_)
  · refine lv_iload_n C.1 C.2.1 dX11_throwsIf_9 rfl (lv_at hl 1 rfl) ?_
    obtain ⟨hz, hf⟩ := ck_t hf
    obtain rfl := Option.some.inj hf
    exact x_zret C hW hz dX11_throwsIf_10 rfl
  · refine lv_aload_n C.1 C.2.1 dX11_throwsIf_4 rfl (lv_at hl 0 rfl) ?_
    refine lv_iload_n C.1 C.2.1 dX11_throwsIf_5 rfl (lv_at hl 2 rfl) ?_
    refine xp_X11_3 C hW (k_125) hf dX11_throwsIf_6 (fun g1 H locs hf hW => ?_)
    refine lv_iload_n C.1 C.2.1 dX11_throwsIf_9 rfl (lv_at hl 1 rfl) ?_
    obtain ⟨hz, hf⟩ := ck_t hf
    obtain rfl := Option.some.inj hf
    exact x_zret C hW hz dX11_throwsIf_10 rfl
set_option maxRecDepth 20000 in
set_option maxHeartbeats 1000000 in
theorem c_X11_in {l : Launch} {Z : ZT} {h : Hp} {g : Hp} {p0 : Int32} {p1 : Int32} {p2 : Int32} {out : Int32} (hf : f_X11_in g p0 p1 p2 = some out) : Met l yX11_in (wY yX11_in cX11_in 3 (some .boolean)) (rmD 0) (va_Pc [.int p0, .int p1, .int p2] (Wd Z h g)) (va_Qi (fun r (_ : Unit) => r = out) (fun _ => Wd Z h g) (FR Z)) 0 0 (FR Z) := by
  refine metX RX11 rfl (by decide +kernel) (Nat.le_of_ble_eq_true rfl) ?_
  intro p e s m args below meth c C hW ls hl
  have hl : lv_has ls 3 [(0, .int p0), (1, .int p1), (2, .int p2)] := hl
  unfold f_X11_in at hf
  refine lv_iload_n C.1 C.2.1 dX11_in_0 rfl (lv_at hl 0 rfl) ?_
  refine lv_iload_n C.1 C.2.1 dX11_in_1 rfl (lv_at hl 1 rfl) ?_
  refine x_cmplt (tgt := 14) C hf dX11_in_2 (by decide) (fun hf => ?_) (fun hf => ?_)
  · refine lv_iconst (v := 0) C.1 C.2.1 dX11_in_14 (by decide) ?_
    exact x_zret C hW (by decide) dX11_in_15 (Option.some.inj hf)
  · refine lv_iload_n C.1 C.2.1 dX11_in_5 rfl (lv_at hl 0 rfl) ?_
    refine lv_iload_n C.1 C.2.1 dX11_in_6 rfl (lv_at hl 2 rfl) ?_
    refine x_cmpgt (tgt := 14) C hf dX11_in_7 (by decide) (fun hf => ?_) (fun hf => ?_)
    · refine lv_iconst (v := 0) C.1 C.2.1 dX11_in_14 (by decide) ?_
      exact x_zret C hW (by decide) dX11_in_15 (Option.some.inj hf)
    · refine lv_iconst (v := 1) C.1 C.2.1 dX11_in_10 (by decide) ?_
      refine lv_goto (tgt := 15) C.1 C.2.1 dX11_in_11 (by decide) ?_
      exact x_zret C hW (by decide) dX11_in_15 (Option.some.inj hf)
set_option maxRecDepth 20000 in
set_option maxHeartbeats 1000000 in
theorem j_X11_begins_22 {l : Launch} {Z : ZT} {h : Hp} {g : Hp} {p : Program} {e : Env} {s : State} {m : MethodId} {args : Array Value} {below : List Frame} {meth : Method} {c : Code} (C : CX p s m args meth c cX11_begins RX11 2 none Z) {out : Hp} {ls : Array Slot} {H : Heap} {locs : List Loc} (hW : XW Z h g s.heap H locs) (hl : lv_has ls 2 [(0, .ref (Z.1 125))]) (hf : J_X11_begins_22 g = some out) : W p l e (rmD 0) s m args below meth c H locs 0 0 (MQ below (va_Qv (fun (_ : Unit) => True) (fun _ => Wd Z h out) (FR Z)) args s 0 0 (FR Z)) (F0 m 22 ls []) := by
  refine lv_aload_n C.1 C.2.1 dX11_begins_22 rfl (lv_at hl 0 rfl) ?_
  refine xg_X11_17 C hW (k_125) dX11_begins_23 ?_
  refine lv_iconst (v := 0) C.1 C.2.1 dX11_begins_26 (by decide) ?_
  refine lv_sipush (v := 1000) C.1 C.2.1 dX11_begins_27 (by decide) ?_
  refine x_iastM C hW a_127 hf dX11_begins_30 (fun g1 H locs hf hW => ?_)
  refine lv_aload_n C.1 C.2.1 dX11_begins_31 rfl (lv_at hl 0 rfl) ?_
  refine xg_X11_17 C hW (k_125) dX11_begins_32 ?_
  refine lv_iconst (v := 1) C.1 C.2.1 dX11_begins_35 (by decide) ?_
  refine lv_bipush (v := 12) C.1 C.2.1 dX11_begins_36 (by decide) ?_
  refine x_iastM C hW a_127 hf dX11_begins_38 (fun g2 H locs hf hW => ?_)
  obtain rfl := Option.some.inj hf
  exact x_vret C hW dX11_begins_39 trivial
set_option maxRecDepth 20000 in
set_option maxHeartbeats 1000000 in
theorem l_X11_begins_2 {l : Launch} {Z : ZT} {h : Hp} {p : Program} {e : Env} {s : State} {m : MethodId} {args : Array Value} {below : List Frame} {meth : Method} {c : Code} (C : CX p s m args meth c cX11_begins RX11 2 none Z) {out : Hp} : ∀ (n : Nat) (x1 : Int32) (g : Hp) (ls : Array Slot) (H : Heap) (locs : List Loc), XW Z h g s.heap H locs → lv_has ls 2 [(0, .ref (Z.1 125)), (1, .int x1)] → Lp (F_X11_begins_2) n (x1, g) = some out → W p l e (rmD 0) s m args below meth c H locs 0 0 (MQ below (va_Qv (fun (_ : Unit) => True) (fun _ => Wd Z h out) (FR Z)) args s 0 0 (FR Z)) (F0 m 2 ls []) := by
  intro n
  induction n with
  | zero => intro x1 g ls H locs hW hl hf; cases hf
  | succ n ih =>
    intro x1 g ls H locs hW hl hf
    rw [Lp_s] at hf
    refine lv_iload_n C.1 C.2.1 dX11_begins_2 rfl (lv_at hl 1 rfl) ?_
    refine lv_sipush (v := 193) C.1 C.2.1 dX11_begins_3 (by decide) ?_
    refine x_cmpge (tgt := 22) C hf dX11_begins_6 (by decide) (fun hf => ?_) (fun hf => ?_)
    · exact j_X11_begins_22 C hW (lv_sub hl [0] rfl) hf
    · refine lv_aload_n C.1 C.2.1 dX11_begins_9 rfl (lv_at hl 0 rfl) ?_
      refine xg_X11_17 C hW (k_125) dX11_begins_10 ?_
      refine lv_iload_n C.1 C.2.1 dX11_begins_13 rfl (lv_at hl 1 rfl) ?_
      refine lv_iconst (v := 0) C.1 C.2.1 dX11_begins_14 (by decide) ?_
      refine x_iastM C hW a_127 hf dX11_begins_15 (fun g3 H locs hf hW => ?_)
      refine x_iinc (w := 1) C hf dX11_begins_16 hl (k := 1) rfl (by decide) (by decide) (fun v4 => [(1, .int v4), (0, .ref (Z.1 125))]) (fun _ => rfl) (fun v4 ls hf hl => ?_)
      refine lv_goto (tgt := 2) C.1 C.2.1 dX11_begins_19 (by decide) ?_
      exact ih v4 g3 ls _ _ hW (lv_sub hl [1, 0] rfl) hf
set_option maxRecDepth 20000 in
set_option maxHeartbeats 1000000 in
theorem c_X11_begins {l : Launch} {Z : ZT} {h : Hp} {g : Hp} {out : Hp} (hf : f_X11_begins g = some out) : Met l yX11_begins (wY yX11_begins cX11_begins 2 none) (rmD 0) (va_Pc [.ref (Z.1 125)] (Wd Z h g)) (va_Qv (fun (_ : Unit) => True) (fun _ => Wd Z h out) (FR Z)) 0 0 (FR Z) := by
  refine metX RX11 rfl (by decide +kernel) (Nat.le_of_ble_eq_true rfl) ?_
  intro p e s m args below meth c C hW ls hl
  have hl : lv_has ls 2 [(0, .ref (Z.1 125))] := hl
  unfold f_X11_begins at hf
  refine lv_iconst (v := 0) C.1 C.2.1 dX11_begins_0 (by decide) ?_
  refine lv_istore_n (lv' := [(1, .int (0 : Int32)), (0, .ref (Z.1 125))]) C.1 C.2.1 dX11_begins_1 rfl hl (by decide) rfl (fun ls hl => ?_)
  exact l_X11_begins_2 C FU (0 : Int32) g ls _ _ hW (lv_sub hl [1, 0] rfl) hf
set_option maxRecDepth 20000 in
set_option maxHeartbeats 1000000 in
theorem j_X11_laysCut_131 {l : Launch} {Z : ZT} {h : Hp} {p1 : Int32} {g : Hp} {r40 : Int32 × Int32 × Hp → Option (Hp)} {x2 : Int32} {x3 : Int32} {x4 : Int32} {x5 : Int32} {p : Program} {e : Env} {s : State} {m : MethodId} {args : Array Value} {below : List Frame} {meth : Method} {c : Code} (C : CX p s m args meth c cX11_laysCut RX11 8 none Z) {out : Hp} (hr40 : ∀ (x4 : Int32) (x5 : Int32) (g : Hp) (ls : Array Slot) (H : Heap) (locs : List Loc), XW Z h g s.heap H locs → lv_has ls 8 [(0, .ref (Z.1 125)), (1, .int p1), (2, .int x2), (3, .int x3), (4, .int x4), (5, .int x5)] → r40 (x4, x5, g) = some out → W p l e (rmD 0) s m args below meth c H locs 0 0 (MQ below (va_Qv (fun (_ : Unit) => True) (fun _ => Wd Z h out) (FR Z)) args s 0 0 (FR Z)) (F0 m 40 ls [])) {ls : Array Slot} {H : Heap} {locs : List Loc} (hW : XW Z h g s.heap H locs) (hl : lv_has ls 8 [(0, .ref (Z.1 125)), (1, .int p1), (2, .int x2), (3, .int x3), (4, .int x4), (5, .int x5)]) (hf : J_X11_laysCut_131 p1 g r40 x2 x3 x4 x5 = some out) : W p l e (rmD 0) s m args below meth c H locs 0 0 (MQ below (va_Qv (fun (_ : Unit) => True) (fun _ => Wd Z h out) (FR Z)) args s 0 0 (FR Z)) (F0 m 131 ls []) := by
  rw [J_X11_laysCut_131] at hf
  refine x_iinc (w := 1) C hf dX11_laysCut_131 hl (k := 5) rfl (by decide) (by decide) (fun v1 => [(5, .int v1), (0, .ref (Z.1 125)), (1, .int p1), (2, .int x2), (3, .int x3), (4, .int x4)]) (fun _ => rfl) (fun v1 ls hf hl => ?_)
  refine lv_goto (tgt := 40) C.1 C.2.1 dX11_laysCut_134 (by decide) ?_
  exact hr40 x4 v1 g ls _ _ hW (lv_sub hl [1, 2, 3, 4, 5, 0] rfl) hf
set_option maxRecDepth 20000 in
set_option maxHeartbeats 1000000 in
theorem l_X11_laysCut_40 {l : Launch} {Z : ZT} {h : Hp} {p1 : Int32} {x2 : Int32} {x3 : Int32} {p : Program} {e : Env} {s : State} {m : MethodId} {args : Array Value} {below : List Frame} {meth : Method} {c : Code} (C : CX p s m args meth c cX11_laysCut RX11 8 none Z) {out : Hp} : ∀ (n : Nat) (x4 : Int32) (x5 : Int32) (g : Hp) (ls : Array Slot) (H : Heap) (locs : List Loc), XW Z h g s.heap H locs → lv_has ls 8 [(0, .ref (Z.1 125)), (1, .int p1), (2, .int x2), (3, .int x3), (4, .int x4), (5, .int x5)] → Lp (F_X11_laysCut_40 p1 x2 x3) n (x4, x5, g) = some out → W p l e (rmD 0) s m args below meth c H locs 0 0 (MQ below (va_Qv (fun (_ : Unit) => True) (fun _ => Wd Z h out) (FR Z)) args s 0 0 (FR Z)) (F0 m 40 ls []) := by
  intro n
  induction n with
  | zero => intro x4 x5 g ls H locs hW hl hf; cases hf
  | succ n ih =>
    intro x4 x5 g ls H locs hW hl hf
    rw [Lp_s] at hf
    refine lv_iload C.1 C.2.1 dX11_laysCut_40 (lv_at hl 5 rfl) ?_
    refine lv_aload_n C.1 C.2.1 dX11_laysCut_42 rfl (lv_at hl 0 rfl) ?_
    refine xg_X11_13 C hW (k_125) dX11_laysCut_43 ?_
    refine lv_iconst (v := 4) C.1 C.2.1 dX11_laysCut_46 (by decide) ?_
    refine x_ialdM C hW a_126 hf dX11_laysCut_47 (fun hf => ?_)
    refine x_cmpge (tgt := 137) C hf dX11_laysCut_48 (by decide) (fun hf => ?_) (fun hf => ?_)
    · obtain rfl := Option.some.inj hf
      exact x_vret C hW dX11_laysCut_137 trivial
    · refine lv_iload_n C.1 C.2.1 dX11_laysCut_51 rfl (lv_at hl 2 rfl) ?_
      refine lv_aload_n C.1 C.2.1 dX11_laysCut_52 rfl (lv_at hl 0 rfl) ?_
      refine xg_X11_13 C hW (k_125) dX11_laysCut_53 ?_
      refine lv_sipush (v := 169) C.1 C.2.1 dX11_laysCut_56 (by decide) ?_
      refine lv_iconst (v := 2) C.1 C.2.1 dX11_laysCut_59 (by decide) ?_
      refine lv_iload C.1 C.2.1 dX11_laysCut_60 (lv_at hl 5 rfl) ?_
      refine lv_imul C.1 C.2.1 dX11_laysCut_62 ?_
      refine lv_iadd C.1 C.2.1 dX11_laysCut_63 ?_
      refine x_ialdM C hW a_126 hf dX11_laysCut_64 (fun hf => ?_)
      refine x_max C hl (ml_X11_98) (by decide) ⟨Nat.le_refl _, Nat.le_refl _⟩ (Nat.le_of_ble_eq_true rfl) dX11_laysCut_65 ?_
      refine x_ist C hf dX11_laysCut_68 hl (by decide) (fun v2 => [(6, .int v2), (0, .ref (Z.1 125)), (1, .int p1), (2, .int x2), (3, .int x3), (4, .int x4), (5, .int x5)]) (fun _ => rfl) (fun v2 ls hf hl => ?_)
      refine lv_iload_n C.1 C.2.1 dX11_laysCut_70 rfl (lv_at hl 4 rfl) ?_
      refine lv_aload_n C.1 C.2.1 dX11_laysCut_71 rfl (lv_at hl 1 rfl) ?_
      refine xg_X11_13 C hW (k_125) dX11_laysCut_72 ?_
      refine lv_sipush (v := 169) C.1 C.2.1 dX11_laysCut_75 (by decide) ?_
      refine lv_iconst (v := 2) C.1 C.2.1 dX11_laysCut_78 (by decide) ?_
      refine lv_iload C.1 C.2.1 dX11_laysCut_79 (lv_at hl 6 rfl) ?_
      refine lv_imul C.1 C.2.1 dX11_laysCut_81 ?_
      refine lv_iadd C.1 C.2.1 dX11_laysCut_82 ?_
      refine lv_iconst (v := 1) C.1 C.2.1 dX11_laysCut_83 (by decide) ?_
      refine lv_iadd C.1 C.2.1 dX11_laysCut_84 ?_
      refine x_ialdM C hW a_126 hf dX11_laysCut_85 (fun hf => ?_)
      refine x_min C hl (ml_X11_107) (by decide) ⟨Nat.le_refl _, Nat.le_refl _⟩ (Nat.le_of_ble_eq_true rfl) dX11_laysCut_86 ?_
      refine x_ist C hf dX11_laysCut_89 hl (by decide) (fun v3 => [(7, .int v3), (6, .int v2), (0, .ref (Z.1 125)), (1, .int p1), (2, .int x2), (3, .int x3), (4, .int x4), (5, .int x5)]) (fun _ => rfl) (fun v3 ls hf hl => ?_)
      refine lv_iload C.1 C.2.1 dX11_laysCut_91 (lv_at hl 0 rfl) ?_
      refine lv_iload C.1 C.2.1 dX11_laysCut_93 (lv_at hl 1 rfl) ?_
      refine lv_isub C.1 C.2.1 dX11_laysCut_95 ?_
      refine lv_iload C.1 C.2.1 dX11_laysCut_96 (lv_at hl 6 rfl) ?_
      refine x_cmpgt (tgt := 104) C hf dX11_laysCut_98 (by decide) (fun hf => ?_) (fun hf => ?_)
      · refine lv_iload C.1 C.2.1 dX11_laysCut_104 (lv_at hl 0 rfl) ?_
        refine lv_iload C.1 C.2.1 dX11_laysCut_106 (lv_at hl 1 rfl) ?_
        refine lv_isub C.1 C.2.1 dX11_laysCut_108 ?_
        refine x_ist C hf dX11_laysCut_109 hl (by decide) (fun v4 => [(4, .int v4), (7, .int v3), (6, .int v2), (0, .ref (Z.1 125)), (1, .int p1), (2, .int x2), (3, .int x3), (5, .int x5)]) (fun _ => rfl) (fun v4 ls hf hl => ?_)
        refine lv_aload_n C.1 C.2.1 dX11_laysCut_111 rfl (lv_at hl 3 rfl) ?_
        refine xg_X11_32 C hW (k_125) dX11_laysCut_112 ?_
        refine lv_iload_n C.1 C.2.1 dX11_laysCut_115 rfl (lv_at hl 4 rfl) ?_
        refine lv_iload C.1 C.2.1 dX11_laysCut_116 (lv_at hl 2 rfl) ?_
        refine lv_iload C.1 C.2.1 dX11_laysCut_118 (lv_at hl 1 rfl) ?_
        refine lv_iadd C.1 C.2.1 dX11_laysCut_120 ?_
        refine lv_iconst (v := 2) C.1 C.2.1 dX11_laysCut_121 (by decide) ?_
        refine lv_idiv C.1 C.2.1 dX11_laysCut_122 (by decide) ?_
        refine x_iastM C hW a_132 hf dX11_laysCut_123 (fun g5 H locs hf hW => ?_)
        refine lv_aload_n C.1 C.2.1 dX11_laysCut_124 rfl (lv_at hl 3 rfl) ?_
        refine xg_X11_35 C hW (k_125) dX11_laysCut_125 ?_
        refine lv_iload_n C.1 C.2.1 dX11_laysCut_128 rfl (lv_at hl 4 rfl) ?_
        refine lv_iconst (v := 1) C.1 C.2.1 dX11_laysCut_129 (by decide) ?_
        refine x_iastM C hW a_133 hf dX11_laysCut_130 (fun g6 H locs hf hW => ?_)
        exact j_X11_laysCut_131 C (fun z0 z1 z2 => ih z0 z1 z2) hW (lv_sub hl [3, 4, 5, 6, 0, 7] rfl) hf
      · refine lv_goto (tgt := 131) C.1 C.2.1 dX11_laysCut_101 (by decide) ?_
        exact j_X11_laysCut_131 C (fun z0 z1 z2 => ih z0 z1 z2) hW (lv_sub hl [2, 3, 4, 5, 6, 7] rfl) hf
set_option maxRecDepth 20000 in
set_option maxHeartbeats 1000000 in
theorem c_X11_laysCut {l : Launch} {Z : ZT} {h : Hp} {g : Hp} {p1 : Int32} {out : Hp} (hf : f_X11_laysCut g p1 = some out) : Met l yX11_laysCut (wY yX11_laysCut cX11_laysCut 8 none) (rmD 0) (va_Pc [.ref (Z.1 125), .int p1] (Wd Z h g)) (va_Qv (fun (_ : Unit) => True) (fun _ => Wd Z h out) (FR Z)) 0 0 (FR Z) := by
  refine metX RX11 rfl (by decide +kernel) (Nat.le_of_ble_eq_true rfl) ?_
  intro p e s m args below meth c C hW ls hl
  have hl : lv_has ls 8 [(0, .ref (Z.1 125)), (1, .int p1)] := hl
  unfold f_X11_laysCut at hf
  refine lv_aload_n C.1 C.2.1 dX11_laysCut_0 rfl (lv_at hl 0 rfl) ?_
  refine xg_X11_26 C hW (k_125) dX11_laysCut_1 ?_
  refine lv_iload_n C.1 C.2.1 dX11_laysCut_4 rfl (lv_at hl 1 rfl) ?_
  refine x_ialdM C hW a_130 hf dX11_laysCut_5 (fun hf => ?_)
  refine x_istn C hf dX11_laysCut_6 rfl hl (by decide) (fun v7 => [(2, .int v7), (0, .ref (Z.1 125)), (1, .int p1)]) (fun _ => rfl) (fun v7 ls hf hl => ?_)
  refine lv_aload_n C.1 C.2.1 dX11_laysCut_7 rfl (lv_at hl 1 rfl) ?_
  refine xg_X11_23 C hW (k_125) dX11_laysCut_8 ?_
  refine lv_iload_n C.1 C.2.1 dX11_laysCut_11 rfl (lv_at hl 2 rfl) ?_
  refine lv_iconst (v := 1) C.1 C.2.1 dX11_laysCut_12 (by decide) ?_
  refine lv_iadd C.1 C.2.1 dX11_laysCut_13 ?_
  refine x_ialdM C hW a_129 hf dX11_laysCut_14 (fun hf => ?_)
  refine x_istn C hf dX11_laysCut_15 rfl hl (by decide) (fun v8 => [(3, .int v8), (2, .int v7), (0, .ref (Z.1 125)), (1, .int p1)]) (fun _ => rfl) (fun v8 ls hf hl => ?_)
  refine lv_iconst (v := 0) C.1 C.2.1 dX11_laysCut_16 (by decide) ?_
  refine lv_istore (lv' := [(4, .int (0 : Int32)), (3, .int v8), (2, .int v7), (0, .ref (Z.1 125)), (1, .int p1)]) C.1 C.2.1 dX11_laysCut_17 hl (by decide) rfl (fun ls hl => ?_)
  refine lv_aload_n C.1 C.2.1 dX11_laysCut_19 rfl (lv_at hl 3 rfl) ?_
  refine xg_X11_32 C hW (k_125) dX11_laysCut_20 ?_
  refine lv_iload_n C.1 C.2.1 dX11_laysCut_23 rfl (lv_at hl 4 rfl) ?_
  refine lv_iload_n C.1 C.2.1 dX11_laysCut_24 rfl (lv_at hl 2 rfl) ?_
  refine lv_iload_n C.1 C.2.1 dX11_laysCut_25 rfl (lv_at hl 1 rfl) ?_
  refine lv_iadd C.1 C.2.1 dX11_laysCut_26 ?_
  refine lv_iconst (v := 2) C.1 C.2.1 dX11_laysCut_27 (by decide) ?_
  refine lv_idiv C.1 C.2.1 dX11_laysCut_28 (by decide) ?_
  refine x_iastM C hW a_132 hf dX11_laysCut_29 (fun g9 H locs hf hW => ?_)
  refine lv_aload_n C.1 C.2.1 dX11_laysCut_30 rfl (lv_at hl 3 rfl) ?_
  refine xg_X11_35 C hW (k_125) dX11_laysCut_31 ?_
  refine lv_iload_n C.1 C.2.1 dX11_laysCut_34 rfl (lv_at hl 4 rfl) ?_
  refine lv_iconst (v := 0) C.1 C.2.1 dX11_laysCut_35 (by decide) ?_
  refine x_iastM C hW a_133 hf dX11_laysCut_36 (fun g10 H locs hf hW => ?_)
  refine lv_iconst (v := 0) C.1 C.2.1 dX11_laysCut_37 (by decide) ?_
  refine lv_istore (lv' := [(5, .int (0 : Int32)), (4, .int (0 : Int32)), (3, .int v8), (2, .int v7), (0, .ref (Z.1 125)), (1, .int p1)]) C.1 C.2.1 dX11_laysCut_38 hl (by decide) rfl (fun ls hl => ?_)
  exact l_X11_laysCut_40 C FU (0 : Int32) (0 : Int32) g10 ls _ _ hW (lv_sub hl [4, 5, 3, 2, 1, 0] rfl) hf
set_option maxRecDepth 20000 in
set_option maxHeartbeats 1000000 in
theorem c_X11_of {l : Launch} {Z : ZT} {h : Hp} {g : Hp} {p1 : Int32} {p2 : Int32} {out : Int32} (hf : f_X11_of g p1 p2 = some out) : Met l yX11_of (wY yX11_of cX11_of 3 (some .int)) (rmD 0) (va_Pc [.ref (Z.1 125), .int p1, .int p2] (Wd Z h g)) (va_Qi (fun r (_ : Unit) => r = out) (fun _ => Wd Z h g) (FR Z)) 0 0 (FR Z) := by
  refine metX RX11 rfl (by decide +kernel) (Nat.le_of_ble_eq_true rfl) ?_
  intro p e s m args below meth c C hW ls hl
  have hl : lv_has ls 3 [(0, .ref (Z.1 125)), (1, .int p1), (2, .int p2)] := hl
  unfold f_X11_of at hf
  refine lv_aload_n C.1 C.2.1 dX11_of_0 rfl (lv_at hl 0 rfl) ?_
  refine xg_X11_13 C hW (k_125) dX11_of_1 ?_
  refine lv_bipush (v := 9) C.1 C.2.1 dX11_of_4 (by decide) ?_
  refine lv_iconst (v := 4) C.1 C.2.1 dX11_of_6 (by decide) ?_
  refine lv_iload_n C.1 C.2.1 dX11_of_7 rfl (lv_at hl 1 rfl) ?_
  refine lv_imul C.1 C.2.1 dX11_of_8 ?_
  refine lv_iadd C.1 C.2.1 dX11_of_9 ?_
  refine lv_iload_n C.1 C.2.1 dX11_of_10 rfl (lv_at hl 2 rfl) ?_
  refine lv_iadd C.1 C.2.1 dX11_of_11 ?_
  refine x_ialdM C hW a_126 hf dX11_of_12 (fun hf => ?_)
  exact x_iret C hW dX11_of_13 (Option.some.inj hf)
set_option maxRecDepth 20000 in
set_option maxHeartbeats 1000000 in
theorem c_X11_words {l : Launch} {Z : ZT} {h : Hp} {g : Hp} {out : Int32} (hf : f_X11_words g = some out) : Met l yX11_words (wY yX11_words cX11_words 1 (some .int)) (rmD 0) (va_Pc [.ref (Z.1 125)] (Wd Z h g)) (va_Qi (fun r (_ : Unit) => r = out) (fun _ => Wd Z h g) (FR Z)) 0 0 (FR Z) := by
  refine metX RX11 rfl (by decide +kernel) (Nat.le_of_ble_eq_true rfl) ?_
  intro p e s m args below meth c C hW ls hl
  have hl : lv_has ls 1 [(0, .ref (Z.1 125))] := hl
  unfold f_X11_words at hf
  refine lv_aload_n C.1 C.2.1 dX11_words_0 rfl (lv_at hl 0 rfl) ?_
  refine xg_X11_13 C hW (k_125) dX11_words_1 ?_
  refine lv_iconst (v := 3) C.1 C.2.1 dX11_words_4 (by decide) ?_
  refine x_ialdM C hW a_126 hf dX11_words_5 (fun hf => ?_)
  exact x_iret C hW dX11_words_6 (Option.some.inj hf)
set_option maxRecDepth 20000 in
set_option maxHeartbeats 1000000 in
theorem j_X11_laysBlocks_177 {l : Launch} {Z : ZT} {h : Hp} {g : Hp} {p : Program} {e : Env} {s : State} {m : MethodId} {args : Array Value} {below : List Frame} {meth : Method} {c : Code} (C : CX p s m args meth c cX11_laysBlocks RX11 2 none Z) {out : Hp} {ls : Array Slot} {H : Heap} {locs : List Loc} (hW : XW Z h g s.heap H locs) (hl : lv_has ls 2 [(0, .ref (Z.1 125))]) (hf : J_X11_laysBlocks_177 g = some out) : W p l e (rmD 1) s m args below meth c H locs 0 0 (MQ below (va_Qv (fun (_ : Unit) => True) (fun _ => Wd Z h out) (FR Z)) args s 0 0 (FR Z)) (F0 m 177 ls []) := by
  refine lv_aload_n C.1 C.2.1 dX11_laysBlocks_177 rfl (lv_at hl 0 rfl) ?_
  refine xg_X11_84 C hW (k_125) dX11_laysBlocks_178 ?_
  refine x_ifle (tgt := 196) C hf dX11_laysBlocks_181 (by decide) (fun hf => ?_) (fun hf => ?_)
  · obtain rfl := Option.some.inj hf
    exact x_vret C hW dX11_laysBlocks_196 trivial
  · refine lv_aload_n C.1 C.2.1 dX11_laysBlocks_184 rfl (lv_at hl 0 rfl) ?_
    refine xg_X11_35 C hW (k_125) dX11_laysBlocks_185 ?_
    refine lv_aload_n C.1 C.2.1 dX11_laysBlocks_188 rfl (lv_at hl 0 rfl) ?_
    refine xg_X11_84 C hW (k_125) dX11_laysBlocks_189 ?_
    refine lv_iconst (v := 1) C.1 C.2.1 dX11_laysBlocks_192 (by decide) ?_
    refine lv_isub C.1 C.2.1 dX11_laysBlocks_193 ?_
    refine lv_iconst (v := 0) C.1 C.2.1 dX11_laysBlocks_194 (by decide) ?_
    refine x_iastM C hW a_133 hf dX11_laysBlocks_195 (fun g1 H locs hf hW => ?_)
    obtain rfl := Option.some.inj hf
    exact x_vret C hW dX11_laysBlocks_196 trivial
set_option maxRecDepth 20000 in
set_option maxHeartbeats 1000000 in
theorem l_X11_laysBlocks_156 {l : Launch} {Z : ZT} {h : Hp} {p : Program} {e : Env} {s : State} {m : MethodId} {args : Array Value} {below : List Frame} {meth : Method} {c : Code} (C : CX p s m args meth c cX11_laysBlocks RX11 2 none Z) {out : Hp} : ∀ (n : Nat) (x1 : Int32) (g : Hp) (ls : Array Slot) (H : Heap) (locs : List Loc), XW Z h g s.heap H locs → lv_has ls 2 [(0, .ref (Z.1 125)), (1, .int x1)] → Lp (F_X11_laysBlocks_156) n (x1, g) = some out → W p l e (rmD 1) s m args below meth c H locs 0 0 (MQ below (va_Qv (fun (_ : Unit) => True) (fun _ => Wd Z h out) (FR Z)) args s 0 0 (FR Z)) (F0 m 156 ls []) := by
  intro n
  induction n with
  | zero => intro x1 g ls H locs hW hl hf; cases hf
  | succ n ih =>
    intro x1 g ls H locs hW hl hf
    rw [Lp_s] at hf
    refine lv_iload_n C.1 C.2.1 dX11_laysBlocks_156 rfl (lv_at hl 1 rfl) ?_
    refine lv_aload_n C.1 C.2.1 dX11_laysBlocks_157 rfl (lv_at hl 0 rfl) ?_
    refine xg_X11_84 C hW (k_125) dX11_laysBlocks_158 ?_
    refine lv_iconst (v := 1) C.1 C.2.1 dX11_laysBlocks_161 (by decide) ?_
    refine lv_isub C.1 C.2.1 dX11_laysBlocks_162 ?_
    refine x_cmpge (tgt := 177) C hf dX11_laysBlocks_163 (by decide) (fun hf => ?_) (fun hf => ?_)
    · exact j_X11_laysBlocks_177 C hW (lv_sub hl [0] rfl) hf
    · refine lv_aload_n C.1 C.2.1 dX11_laysBlocks_166 rfl (lv_at hl 0 rfl) ?_
      refine lv_iload_n C.1 C.2.1 dX11_laysBlocks_167 rfl (lv_at hl 1 rfl) ?_
      obtain ⟨u2, hcu2, hf⟩ := bnd_t hf
      refine x_callv hW (x_runV C hW hl (wk9 (k_125)) rfl rfl (c_X11_laysCut hcu2) (cw_X11_103) ci_X11_laysCut cs_X11_laysCut (rm_ok (by decide) (by decide)) ⟨Nat.le_refl _, Nat.le_refl _⟩ (As := [.int x1]) rfl rfl (Nat.le_of_ble_eq_true rfl) dX11_laysBlocks_168) (fun H locs hW => ?_)
      refine x_iinc (w := 1) C hf dX11_laysBlocks_171 hl (k := 1) rfl (by decide) (by decide) (fun v3 => [(1, .int v3), (0, .ref (Z.1 125))]) (fun _ => rfl) (fun v3 ls hf hl => ?_)
      refine lv_goto (tgt := 156) C.1 C.2.1 dX11_laysBlocks_174 (by decide) ?_
      exact ih v3 u2 ls _ _ hW (lv_sub hl [1, 0] rfl) hf
set_option maxRecDepth 20000 in
set_option maxHeartbeats 1000000 in
theorem j_X11_laysBlocks_141 {l : Launch} {Z : ZT} {h : Hp} {g : Hp} {p : Program} {e : Env} {s : State} {m : MethodId} {args : Array Value} {below : List Frame} {meth : Method} {c : Code} (C : CX p s m args meth c cX11_laysBlocks RX11 2 none Z) {out : Hp} {ls : Array Slot} {H : Heap} {locs : List Loc} (hW : XW Z h g s.heap H locs) (hl : lv_has ls 2 [(0, .ref (Z.1 125))]) (hf : J_X11_laysBlocks_141 g = some out) : W p l e (rmD 1) s m args below meth c H locs 0 0 (MQ below (va_Qv (fun (_ : Unit) => True) (fun _ => Wd Z h out) (FR Z)) args s 0 0 (FR Z)) (F0 m 141 ls []) := by
  rw [J_X11_laysBlocks_141] at hf
  refine lv_aload_n C.1 C.2.1 dX11_laysBlocks_141 rfl (lv_at hl 0 rfl) ?_
  refine xg_X11_29 C hW (k_125) dX11_laysBlocks_142 ?_
  refine lv_aload_n C.1 C.2.1 dX11_laysBlocks_145 rfl (lv_at hl 0 rfl) ?_
  refine xg_X11_84 C hW (k_125) dX11_laysBlocks_146 ?_
  refine lv_aload_n C.1 C.2.1 dX11_laysBlocks_149 rfl (lv_at hl 0 rfl) ?_
  obtain ⟨u4, hcu4, hf⟩ := bnd_t hf
  refine x_calli hW (x_runV C hW hl (wk9 (k_125)) rfl rfl (c_X11_words hcu4) (cw_X11_90) ci_X11_words cs_X11_words (rm_ok (by decide) (by decide)) ⟨Nat.le_refl _, Nat.le_refl _⟩ (As := []) rfl rfl (Nat.le_of_ble_eq_true rfl) dX11_laysBlocks_150) (fun H locs hW => ?_)
  refine x_iastM C hW a_131 hf dX11_laysBlocks_153 (fun g5 H locs hf hW => ?_)
  refine lv_iconst (v := 0) C.1 C.2.1 dX11_laysBlocks_154 (by decide) ?_
  refine lv_istore_n (lv' := [(1, .int (0 : Int32)), (0, .ref (Z.1 125))]) C.1 C.2.1 dX11_laysBlocks_155 rfl hl (by decide) rfl (fun ls hl => ?_)
  exact l_X11_laysBlocks_156 C FU (0 : Int32) g5 ls _ _ hW (lv_sub hl [1, 0] rfl) hf
set_option maxRecDepth 20000 in
set_option maxHeartbeats 1000000 in
theorem j_X11_laysBlocks_92 {l : Launch} {Z : ZT} {h : Hp} {g : Hp} {r7 : Int32 × Hp → Option (Hp)} {x1 : Int32} {p : Program} {e : Env} {s : State} {m : MethodId} {args : Array Value} {below : List Frame} {meth : Method} {c : Code} (C : CX p s m args meth c cX11_laysBlocks RX11 2 none Z) {out : Hp} (hr7 : ∀ (x1 : Int32) (g : Hp) (ls : Array Slot) (H : Heap) (locs : List Loc), XW Z h g s.heap H locs → lv_has ls 2 [(0, .ref (Z.1 125)), (1, .int x1)] → r7 (x1, g) = some out → W p l e (rmD 1) s m args below meth c H locs 0 0 (MQ below (va_Qv (fun (_ : Unit) => True) (fun _ => Wd Z h out) (FR Z)) args s 0 0 (FR Z)) (F0 m 7 ls [])) {ls : Array Slot} {H : Heap} {locs : List Loc} (hW : XW Z h g s.heap H locs) (hl : lv_has ls 2 [(0, .ref (Z.1 125)), (1, .int x1)]) (hf : J_X11_laysBlocks_92 g r7 x1 = some out) : W p l e (rmD 1) s m args below meth c H locs 0 0 (MQ below (va_Qv (fun (_ : Unit) => True) (fun _ => Wd Z h out) (FR Z)) args s 0 0 (FR Z)) (F0 m 92 ls []) := by
  refine lv_aload_n C.1 C.2.1 dX11_laysBlocks_92 rfl (lv_at hl 0 rfl) ?_
  refine xg_X11_20 C hW (k_125) dX11_laysBlocks_93 ?_
  refine lv_iload_n C.1 C.2.1 dX11_laysBlocks_96 rfl (lv_at hl 1 rfl) ?_
  refine lv_aload_n C.1 C.2.1 dX11_laysBlocks_97 rfl (lv_at hl 0 rfl) ?_
  refine xg_X11_84 C hW (k_125) dX11_laysBlocks_98 ?_
  refine lv_iconst (v := 1) C.1 C.2.1 dX11_laysBlocks_101 (by decide) ?_
  refine lv_isub C.1 C.2.1 dX11_laysBlocks_102 ?_
  refine x_iastM C hW a_128 hf dX11_laysBlocks_103 (fun g6 H locs hf hW => ?_)
  refine lv_aload_n C.1 C.2.1 dX11_laysBlocks_104 rfl (lv_at hl 0 rfl) ?_
  refine xg_X11_26 C hW (k_125) dX11_laysBlocks_105 ?_
  refine lv_aload_n C.1 C.2.1 dX11_laysBlocks_108 rfl (lv_at hl 0 rfl) ?_
  refine xg_X11_84 C hW (k_125) dX11_laysBlocks_109 ?_
  refine lv_iconst (v := 1) C.1 C.2.1 dX11_laysBlocks_112 (by decide) ?_
  refine lv_isub C.1 C.2.1 dX11_laysBlocks_113 ?_
  refine lv_aload_n C.1 C.2.1 dX11_laysBlocks_114 rfl (lv_at hl 0 rfl) ?_
  refine xg_X11_26 C hW (k_125) dX11_laysBlocks_115 ?_
  refine lv_aload_n C.1 C.2.1 dX11_laysBlocks_118 rfl (lv_at hl 0 rfl) ?_
  refine xg_X11_84 C hW (k_125) dX11_laysBlocks_119 ?_
  refine lv_iconst (v := 1) C.1 C.2.1 dX11_laysBlocks_122 (by decide) ?_
  refine lv_isub C.1 C.2.1 dX11_laysBlocks_123 ?_
  refine x_ialdM C hW a_130 hf dX11_laysBlocks_124 (fun hf => ?_)
  refine lv_aload_n C.1 C.2.1 dX11_laysBlocks_125 rfl (lv_at hl 0 rfl) ?_
  refine lv_iload_n C.1 C.2.1 dX11_laysBlocks_126 rfl (lv_at hl 1 rfl) ?_
  refine lv_iconst (v := 3) C.1 C.2.1 dX11_laysBlocks_127 (by decide) ?_
  obtain ⟨u7, hcu7, hf⟩ := bnd_t hf
  refine x_calli hW (x_runV C hW hl (wk9 (k_125)) rfl rfl (c_X11_of hcu7) (cw_X11_94) ci_X11_of cs_X11_of (rm_ok (by decide) (by decide)) ⟨Nat.le_refl _, Nat.le_refl _⟩ (As := [.int x1, .int (3 : Int32)]) rfl rfl (Nat.le_of_ble_eq_true rfl) dX11_laysBlocks_128) (fun H locs hW => ?_)
  refine x_max C hl (ml_X11_98) (by decide) ⟨Nat.le_refl _, Nat.le_refl _⟩ (Nat.le_of_ble_eq_true rfl) dX11_laysBlocks_131 ?_
  refine x_iastM C hW a_130 hf dX11_laysBlocks_134 (fun g8 H locs hf hW => ?_)
  refine x_iinc (w := 1) C hf dX11_laysBlocks_135 hl (k := 1) rfl (by decide) (by decide) (fun v9 => [(1, .int v9), (0, .ref (Z.1 125))]) (fun _ => rfl) (fun v9 ls hf hl => ?_)
  refine lv_goto (tgt := 7) C.1 C.2.1 dX11_laysBlocks_138 (by decide) ?_
  exact hr7 v9 g8 ls _ _ hW (lv_sub hl [1, 0] rfl) hf
set_option maxRecDepth 20000 in
set_option maxHeartbeats 1000000 in
theorem j_X11_laysBlocks_42 {l : Launch} {Z : ZT} {h : Hp} {g : Hp} {r7 : Int32 × Hp → Option (Hp)} {x1 : Int32} {p : Program} {e : Env} {s : State} {m : MethodId} {args : Array Value} {below : List Frame} {meth : Method} {c : Code} (C : CX p s m args meth c cX11_laysBlocks RX11 2 none Z) {out : Hp} (hr7 : ∀ (x1 : Int32) (g : Hp) (ls : Array Slot) (H : Heap) (locs : List Loc), XW Z h g s.heap H locs → lv_has ls 2 [(0, .ref (Z.1 125)), (1, .int x1)] → r7 (x1, g) = some out → W p l e (rmD 1) s m args below meth c H locs 0 0 (MQ below (va_Qv (fun (_ : Unit) => True) (fun _ => Wd Z h out) (FR Z)) args s 0 0 (FR Z)) (F0 m 7 ls [])) {ls : Array Slot} {H : Heap} {locs : List Loc} (hW : XW Z h g s.heap H locs) (hl : lv_has ls 2 [(0, .ref (Z.1 125)), (1, .int x1)]) (hf : J_X11_laysBlocks_42 g r7 x1 = some out) : W p l e (rmD 1) s m args below meth c H locs 0 0 (MQ below (va_Qv (fun (_ : Unit) => True) (fun _ => Wd Z h out) (FR Z)) args s 0 0 (FR Z)) (F0 m 42 ls []) := by
  refine lv_aload_n C.1 C.2.1 dX11_laysBlocks_42 rfl (lv_at hl 0 rfl) ?_
  refine xg_X11_29 C hW (k_125) dX11_laysBlocks_43 ?_
  refine lv_aload_n C.1 C.2.1 dX11_laysBlocks_46 rfl (lv_at hl 0 rfl) ?_
  refine xg_X11_84 C hW (k_125) dX11_laysBlocks_47 ?_
  refine lv_iload_n C.1 C.2.1 dX11_laysBlocks_50 rfl (lv_at hl 1 rfl) ?_
  refine x_iastM C hW a_131 hf dX11_laysBlocks_51 (fun g10 H locs hf hW => ?_)
  refine lv_aload_n C.1 C.2.1 dX11_laysBlocks_52 rfl (lv_at hl 0 rfl) ?_
  refine xg_X11_23 C hW (k_125) dX11_laysBlocks_53 ?_
  refine lv_aload_n C.1 C.2.1 dX11_laysBlocks_56 rfl (lv_at hl 0 rfl) ?_
  refine xg_X11_84 C hW (k_125) dX11_laysBlocks_57 ?_
  refine lv_aload_n C.1 C.2.1 dX11_laysBlocks_60 rfl (lv_at hl 0 rfl) ?_
  refine lv_iload_n C.1 C.2.1 dX11_laysBlocks_61 rfl (lv_at hl 1 rfl) ?_
  refine lv_iconst (v := 2) C.1 C.2.1 dX11_laysBlocks_62 (by decide) ?_
  obtain ⟨u11, hcu11, hf⟩ := bnd_t hf
  refine x_calli hW (x_runV C hW hl (wk9 (k_125)) rfl rfl (c_X11_of hcu11) (cw_X11_94) ci_X11_of cs_X11_of (rm_ok (by decide) (by decide)) ⟨Nat.le_refl _, Nat.le_refl _⟩ (As := [.int x1, .int (2 : Int32)]) rfl rfl (Nat.le_of_ble_eq_true rfl) dX11_laysBlocks_63) (fun H locs hW => ?_)
  refine x_iastM C hW a_129 hf dX11_laysBlocks_66 (fun g12 H locs hf hW => ?_)
  refine lv_aload_n C.1 C.2.1 dX11_laysBlocks_67 rfl (lv_at hl 0 rfl) ?_
  refine xg_X11_26 C hW (k_125) dX11_laysBlocks_68 ?_
  refine lv_aload_n C.1 C.2.1 dX11_laysBlocks_71 rfl (lv_at hl 0 rfl) ?_
  refine xg_X11_84 C hW (k_125) dX11_laysBlocks_72 ?_
  refine lv_aload_n C.1 C.2.1 dX11_laysBlocks_75 rfl (lv_at hl 0 rfl) ?_
  refine lv_iload_n C.1 C.2.1 dX11_laysBlocks_76 rfl (lv_at hl 1 rfl) ?_
  refine lv_iconst (v := 3) C.1 C.2.1 dX11_laysBlocks_77 (by decide) ?_
  obtain ⟨u13, hcu13, hf⟩ := bnd_t hf
  refine x_calli hW (x_runV C hW hl (wk9 (k_125)) rfl rfl (c_X11_of hcu13) (cw_X11_94) ci_X11_of cs_X11_of (rm_ok (by decide) (by decide)) ⟨Nat.le_refl _, Nat.le_refl _⟩ (As := [.int x1, .int (3 : Int32)]) rfl rfl (Nat.le_of_ble_eq_true rfl) dX11_laysBlocks_78) (fun H locs hW => ?_)
  refine x_iastM C hW a_130 hf dX11_laysBlocks_81 (fun g14 H locs hf hW => ?_)
  refine lv_aload_n C.1 C.2.1 dX11_laysBlocks_82 rfl (lv_at hl 0 rfl) ?_
  refine lv_dup C.1 C.2.1 dX11_laysBlocks_83 rfl ?_
  refine xg_X11_84 C hW (k_125) dX11_laysBlocks_84 ?_
  refine lv_iconst (v := 1) C.1 C.2.1 dX11_laysBlocks_87 (by decide) ?_
  refine lv_iadd C.1 C.2.1 dX11_laysBlocks_88 ?_
  refine xp_X11_84 C hW (k_125) hf dX11_laysBlocks_89 (fun g15 H locs hf hW => ?_)
  exact j_X11_laysBlocks_92 C hr7 hW (lv_sub hl [0, 1] rfl) hf
set_option maxRecDepth 20000 in
set_option maxHeartbeats 1000000 in
theorem l_X11_laysBlocks_7 {l : Launch} {Z : ZT} {h : Hp} {p : Program} {e : Env} {s : State} {m : MethodId} {args : Array Value} {below : List Frame} {meth : Method} {c : Code} (C : CX p s m args meth c cX11_laysBlocks RX11 2 none Z) {out : Hp} : ∀ (n : Nat) (x1 : Int32) (g : Hp) (ls : Array Slot) (H : Heap) (locs : List Loc), XW Z h g s.heap H locs → lv_has ls 2 [(0, .ref (Z.1 125)), (1, .int x1)] → Lp (F_X11_laysBlocks_7) n (x1, g) = some out → W p l e (rmD 1) s m args below meth c H locs 0 0 (MQ below (va_Qv (fun (_ : Unit) => True) (fun _ => Wd Z h out) (FR Z)) args s 0 0 (FR Z)) (F0 m 7 ls []) := by
  intro n
  induction n with
  | zero => intro x1 g ls H locs hW hl hf; cases hf
  | succ n ih =>
    intro x1 g ls H locs hW hl hf
    rw [Lp_s] at hf
    rw [F_X11_laysBlocks_7] at hf
    try dsimp only at hf
    refine lv_iload_n C.1 C.2.1 dX11_laysBlocks_7 rfl (lv_at hl 1 rfl) ?_
    refine lv_aload_n C.1 C.2.1 dX11_laysBlocks_8 rfl (lv_at hl 0 rfl) ?_
    obtain ⟨u16, hcu16, hf⟩ := bnd_t hf
    refine x_calli hW (x_runV C hW hl (wk9 (k_125)) rfl rfl (c_X11_words hcu16) (cw_X11_90) ci_X11_words cs_X11_words (rm_ok (by decide) (by decide)) ⟨Nat.le_refl _, Nat.le_refl _⟩ (As := []) rfl rfl (Nat.le_of_ble_eq_true rfl) dX11_laysBlocks_9) (fun H locs hW => ?_)
    refine x_cmpge (tgt := 141) C hf dX11_laysBlocks_12 (by decide) (fun hf => ?_) (fun hf => ?_)
    · exact j_X11_laysBlocks_141 C hW (lv_sub hl [0] rfl) hf
    · refine lv_aload_n C.1 C.2.1 dX11_laysBlocks_15 rfl (lv_at hl 0 rfl) ?_
      refine xg_X11_84 C hW (k_125) dX11_laysBlocks_16 ?_
      refine x_ifeq (tgt := 42) C hf dX11_laysBlocks_19 (by decide) (fun hf => ?_) (fun hf => ?_)
      · exact j_X11_laysBlocks_42 C (fun z0 z1 => ih z0 z1) hW (lv_sub hl [0, 1] rfl) hf
      · refine lv_aload_n C.1 C.2.1 dX11_laysBlocks_22 rfl (lv_at hl 0 rfl) ?_
        refine lv_iload_n C.1 C.2.1 dX11_laysBlocks_23 rfl (lv_at hl 1 rfl) ?_
        refine lv_iconst (v := 2) C.1 C.2.1 dX11_laysBlocks_24 (by decide) ?_
        obtain ⟨u17, hcu17, hf⟩ := bnd_t hf
        refine x_calli hW (x_runV C hW hl (wk9 (k_125)) rfl rfl (c_X11_of hcu17) (cw_X11_94) ci_X11_of cs_X11_of (rm_ok (by decide) (by decide)) ⟨Nat.le_refl _, Nat.le_refl _⟩ (As := [.int x1, .int (2 : Int32)]) rfl rfl (Nat.le_of_ble_eq_true rfl) dX11_laysBlocks_25) (fun H locs hW => ?_)
        refine lv_aload_n C.1 C.2.1 dX11_laysBlocks_28 rfl (lv_at hl 0 rfl) ?_
        refine xg_X11_26 C hW (k_125) dX11_laysBlocks_29 ?_
        refine lv_aload_n C.1 C.2.1 dX11_laysBlocks_32 rfl (lv_at hl 0 rfl) ?_
        refine xg_X11_84 C hW (k_125) dX11_laysBlocks_33 ?_
        refine lv_iconst (v := 1) C.1 C.2.1 dX11_laysBlocks_36 (by decide) ?_
        refine lv_isub C.1 C.2.1 dX11_laysBlocks_37 ?_
        refine x_ialdM C hW a_130 hf dX11_laysBlocks_38 (fun hf => ?_)
        refine x_cmplt (tgt := 92) C hf dX11_laysBlocks_39 (by decide) (fun hf => ?_) (fun hf => ?_)
        · exact j_X11_laysBlocks_92 C (fun z0 z1 => ih z0 z1) hW (lv_sub hl [0, 1] rfl) hf
        · exact j_X11_laysBlocks_42 C (fun z0 z1 => ih z0 z1) hW (lv_sub hl [0, 1] rfl) hf
set_option maxRecDepth 20000 in
set_option maxHeartbeats 1000000 in
theorem c_X11_laysBlocks {l : Launch} {Z : ZT} {h : Hp} {g : Hp} {out : Hp} (hf : f_X11_laysBlocks g = some out) : Met l yX11_laysBlocks (wY yX11_laysBlocks cX11_laysBlocks 2 none) (rmD 1) (va_Pc [.ref (Z.1 125)] (Wd Z h g)) (va_Qv (fun (_ : Unit) => True) (fun _ => Wd Z h out) (FR Z)) 0 0 (FR Z) := by
  refine metX RX11 rfl (by decide +kernel) (Nat.le_of_ble_eq_true rfl) ?_
  intro p e s m args below meth c C hW ls hl
  have hl : lv_has ls 2 [(0, .ref (Z.1 125))] := hl
  unfold f_X11_laysBlocks at hf
  refine lv_aload_n C.1 C.2.1 dX11_laysBlocks_0 rfl (lv_at hl 0 rfl) ?_
  refine lv_iconst (v := 0) C.1 C.2.1 dX11_laysBlocks_1 (by decide) ?_
  refine xp_X11_84 C hW (k_125) hf dX11_laysBlocks_2 (fun g18 H locs hf hW => ?_)
  refine lv_iconst (v := 0) C.1 C.2.1 dX11_laysBlocks_5 (by decide) ?_
  refine lv_istore_n (lv' := [(1, .int (0 : Int32)), (0, .ref (Z.1 125))]) C.1 C.2.1 dX11_laysBlocks_6 rfl hl (by decide) rfl (fun ls hl => ?_)
  exact l_X11_laysBlocks_7 C FU (0 : Int32) g18 ls _ _ hW (lv_sub hl [1, 0] rfl) hf
set_option maxRecDepth 20000 in
set_option maxHeartbeats 1000000 in
theorem j_X11_takesOver_90 {l : Launch} {Z : ZT} {h : Hp} {g : Hp} {p : Program} {e : Env} {s : State} {m : MethodId} {args : Array Value} {below : List Frame} {meth : Method} {c : Code} (C : CX p s m args meth c cX11_takesOver RX11 2 none Z) {out : Hp} {ls : Array Slot} {H : Heap} {locs : List Loc} (hW : XW Z h g s.heap H locs) (hl : lv_has ls 2 [(0, .ref (Z.1 125))]) (hf : J_X11_takesOver_90 g = some out) : W p l e (rmD 2) s m args below meth c H locs 0 0 (MQ below (va_Qv (fun (_ : Unit) => True) (fun _ => Wd Z h out) (FR Z)) args s 0 0 (FR Z)) (F0 m 90 ls []) := by
  rw [J_X11_takesOver_90] at hf
  refine lv_aload_n C.1 C.2.1 dX11_takesOver_90 rfl (lv_at hl 0 rfl) ?_
  refine lv_iconst (v := 0) C.1 C.2.1 dX11_takesOver_91 (by decide) ?_
  refine xp_X11_87 C hW (k_125) hf dX11_takesOver_92 (fun g1 H locs hf hW => ?_)
  obtain rfl := Option.some.inj hf
  exact x_vret C hW dX11_takesOver_95 trivial
set_option maxRecDepth 20000 in
set_option maxHeartbeats 1000000 in
theorem l_X11_takesOver_66 {l : Launch} {Z : ZT} {h : Hp} {p : Program} {e : Env} {s : State} {m : MethodId} {args : Array Value} {below : List Frame} {meth : Method} {c : Code} (C : CX p s m args meth c cX11_takesOver RX11 2 none Z) {out : Hp} : ∀ (n : Nat) (x1 : Int32) (g : Hp) (ls : Array Slot) (H : Heap) (locs : List Loc), XW Z h g s.heap H locs → lv_has ls 2 [(0, .ref (Z.1 125)), (1, .int x1)] → Lp (F_X11_takesOver_66) n (x1, g) = some out → W p l e (rmD 2) s m args below meth c H locs 0 0 (MQ below (va_Qv (fun (_ : Unit) => True) (fun _ => Wd Z h out) (FR Z)) args s 0 0 (FR Z)) (F0 m 66 ls []) := by
  intro n
  induction n with
  | zero => intro x1 g ls H locs hW hl hf; cases hf
  | succ n ih =>
    intro x1 g ls H locs hW hl hf
    rw [Lp_s] at hf
    refine lv_iload_n C.1 C.2.1 dX11_takesOver_66 rfl (lv_at hl 1 rfl) ?_
    refine lv_aload_n C.1 C.2.1 dX11_takesOver_67 rfl (lv_at hl 0 rfl) ?_
    refine xg_X11_84 C hW (k_125) dX11_takesOver_68 ?_
    refine x_cmpge (tgt := 90) C hf dX11_takesOver_71 (by decide) (fun hf => ?_) (fun hf => ?_)
    · exact j_X11_takesOver_90 C hW (lv_sub hl [0] rfl) hf
    · refine lv_aload_n C.1 C.2.1 dX11_takesOver_74 rfl (lv_at hl 0 rfl) ?_
      refine xg_X11_38 C hW (k_125) dX11_takesOver_75 ?_
      refine lv_bipush (v := 41) C.1 C.2.1 dX11_takesOver_78 (by decide) ?_
      refine lv_iload_n C.1 C.2.1 dX11_takesOver_80 rfl (lv_at hl 1 rfl) ?_
      refine lv_iadd C.1 C.2.1 dX11_takesOver_81 ?_
      refine lv_iload_n C.1 C.2.1 dX11_takesOver_82 rfl (lv_at hl 1 rfl) ?_
      refine x_iastM C hW a_134 hf dX11_takesOver_83 (fun g2 H locs hf hW => ?_)
      refine x_iinc (w := 1) C hf dX11_takesOver_84 hl (k := 1) rfl (by decide) (by decide) (fun v3 => [(1, .int v3), (0, .ref (Z.1 125))]) (fun _ => rfl) (fun v3 ls hf hl => ?_)
      refine lv_goto (tgt := 66) C.1 C.2.1 dX11_takesOver_87 (by decide) ?_
      exact ih v3 g2 ls _ _ hW (lv_sub hl [1, 0] rfl) hf
set_option maxRecDepth 20000 in
set_option maxHeartbeats 1000000 in
theorem j_X11_takesOver_53 {l : Launch} {Z : ZT} {h : Hp} {g : Hp} {p : Program} {e : Env} {s : State} {m : MethodId} {args : Array Value} {below : List Frame} {meth : Method} {c : Code} (C : CX p s m args meth c cX11_takesOver RX11 2 none Z) {out : Hp} {ls : Array Slot} {H : Heap} {locs : List Loc} (hW : XW Z h g s.heap H locs) (hl : lv_has ls 2 [(0, .ref (Z.1 125))]) (hf : J_X11_takesOver_53 g = some out) : W p l e (rmD 2) s m args below meth c H locs 0 0 (MQ below (va_Qv (fun (_ : Unit) => True) (fun _ => Wd Z h out) (FR Z)) args s 0 0 (FR Z)) (F0 m 53 ls []) := by
  refine lv_aload_n C.1 C.2.1 dX11_takesOver_53 rfl (lv_at hl 0 rfl) ?_
  refine xg_X11_38 C hW (k_125) dX11_takesOver_54 ?_
  refine lv_bipush (v := 40) C.1 C.2.1 dX11_takesOver_57 (by decide) ?_
  refine lv_aload_n C.1 C.2.1 dX11_takesOver_59 rfl (lv_at hl 0 rfl) ?_
  refine xg_X11_84 C hW (k_125) dX11_takesOver_60 ?_
  refine x_iastM C hW a_134 hf dX11_takesOver_63 (fun g4 H locs hf hW => ?_)
  refine lv_iconst (v := 0) C.1 C.2.1 dX11_takesOver_64 (by decide) ?_
  refine lv_istore_n (lv' := [(1, .int (0 : Int32)), (0, .ref (Z.1 125))]) C.1 C.2.1 dX11_takesOver_65 rfl hl (by decide) rfl (fun ls hl => ?_)
  exact l_X11_takesOver_66 C FU (0 : Int32) g4 ls _ _ hW (lv_sub hl [1, 0] rfl) hf
set_option maxRecDepth 20000 in
set_option maxHeartbeats 1000000 in
theorem l_X11_takesOver_33 {l : Launch} {Z : ZT} {h : Hp} {p : Program} {e : Env} {s : State} {m : MethodId} {args : Array Value} {below : List Frame} {meth : Method} {c : Code} (C : CX p s m args meth c cX11_takesOver RX11 2 none Z) {out : Hp} : ∀ (n : Nat) (x1 : Int32) (g : Hp) (ls : Array Slot) (H : Heap) (locs : List Loc), XW Z h g s.heap H locs → lv_has ls 2 [(0, .ref (Z.1 125)), (1, .int x1)] → Lp (F_X11_takesOver_33) n (x1, g) = some out → W p l e (rmD 2) s m args below meth c H locs 0 0 (MQ below (va_Qv (fun (_ : Unit) => True) (fun _ => Wd Z h out) (FR Z)) args s 0 0 (FR Z)) (F0 m 33 ls []) := by
  intro n
  induction n with
  | zero => intro x1 g ls H locs hW hl hf; cases hf
  | succ n ih =>
    intro x1 g ls H locs hW hl hf
    rw [Lp_s] at hf
    refine lv_iload_n C.1 C.2.1 dX11_takesOver_33 rfl (lv_at hl 1 rfl) ?_
    refine lv_sipush (v := 161) C.1 C.2.1 dX11_takesOver_34 (by decide) ?_
    refine x_cmpge (tgt := 53) C hf dX11_takesOver_37 (by decide) (fun hf => ?_) (fun hf => ?_)
    · exact j_X11_takesOver_53 C hW (lv_sub hl [0] rfl) hf
    · refine lv_aload_n C.1 C.2.1 dX11_takesOver_40 rfl (lv_at hl 0 rfl) ?_
      refine xg_X11_38 C hW (k_125) dX11_takesOver_41 ?_
      refine lv_iload_n C.1 C.2.1 dX11_takesOver_44 rfl (lv_at hl 1 rfl) ?_
      refine lv_iconst (v := 0) C.1 C.2.1 dX11_takesOver_45 (by decide) ?_
      refine x_iastM C hW a_134 hf dX11_takesOver_46 (fun g5 H locs hf hW => ?_)
      refine x_iinc (w := 1) C hf dX11_takesOver_47 hl (k := 1) rfl (by decide) (by decide) (fun v6 => [(1, .int v6), (0, .ref (Z.1 125))]) (fun _ => rfl) (fun v6 ls hf hl => ?_)
      refine lv_goto (tgt := 33) C.1 C.2.1 dX11_takesOver_50 (by decide) ?_
      exact ih v6 g5 ls _ _ hW (lv_sub hl [1, 0] rfl) hf
set_option maxRecDepth 20000 in
set_option maxHeartbeats 1000000 in
theorem j_X11_takesOver_27 {l : Launch} {Z : ZT} {h : Hp} {g : Hp} {p : Program} {e : Env} {s : State} {m : MethodId} {args : Array Value} {below : List Frame} {meth : Method} {c : Code} (C : CX p s m args meth c cX11_takesOver RX11 2 none Z) {out : Hp} {ls : Array Slot} {H : Heap} {locs : List Loc} (hW : XW Z h g s.heap H locs) (hl : lv_has ls 2 [(0, .ref (Z.1 125))]) (hf : J_X11_takesOver_27 g = some out) : W p l e (rmD 2) s m args below meth c H locs 0 0 (MQ below (va_Qv (fun (_ : Unit) => True) (fun _ => Wd Z h out) (FR Z)) args s 0 0 (FR Z)) (F0 m 27 ls []) := by
  rw [J_X11_takesOver_27] at hf
  refine lv_aload_n C.1 C.2.1 dX11_takesOver_27 rfl (lv_at hl 0 rfl) ?_
  obtain ⟨u7, hcu7, hf⟩ := bnd_t hf
  refine x_callv hW (x_runV C hW hl (wk9 (k_125)) rfl rfl (c_X11_laysBlocks hcu7) (cw_X11_81) ci_X11_laysBlocks cs_X11_laysBlocks (rm_ok (by decide) (by decide)) ⟨Nat.le_refl _, Nat.le_refl _⟩ (As := []) rfl rfl (Nat.le_of_ble_eq_true rfl) dX11_takesOver_28) (fun H locs hW => ?_)
  refine lv_iconst (v := 0) C.1 C.2.1 dX11_takesOver_31 (by decide) ?_
  refine lv_istore_n (lv' := [(1, .int (0 : Int32)), (0, .ref (Z.1 125))]) C.1 C.2.1 dX11_takesOver_32 rfl hl (by decide) rfl (fun ls hl => ?_)
  exact l_X11_takesOver_33 C FU (0 : Int32) u7 ls _ _ hW (lv_sub hl [1, 0] rfl) hf
set_option maxRecDepth 20000 in
set_option maxHeartbeats 1000000 in
theorem l_X11_takesOver_2 {l : Launch} {Z : ZT} {h : Hp} {p : Program} {e : Env} {s : State} {m : MethodId} {args : Array Value} {below : List Frame} {meth : Method} {c : Code} (C : CX p s m args meth c cX11_takesOver RX11 2 none Z) {out : Hp} : ∀ (n : Nat) (x1 : Int32) (g : Hp) (ls : Array Slot) (H : Heap) (locs : List Loc), XW Z h g s.heap H locs → lv_has ls 2 [(0, .ref (Z.1 125)), (1, .int x1)] → Lp (F_X11_takesOver_2) n (x1, g) = some out → W p l e (rmD 2) s m args below meth c H locs 0 0 (MQ below (va_Qv (fun (_ : Unit) => True) (fun _ => Wd Z h out) (FR Z)) args s 0 0 (FR Z)) (F0 m 2 ls []) := by
  intro n
  induction n with
  | zero => intro x1 g ls H locs hW hl hf; cases hf
  | succ n ih =>
    intro x1 g ls H locs hW hl hf
    rw [Lp_s] at hf
    refine lv_iload_n C.1 C.2.1 dX11_takesOver_2 rfl (lv_at hl 1 rfl) ?_
    refine lv_sipush (v := 193) C.1 C.2.1 dX11_takesOver_3 (by decide) ?_
    refine x_cmpge (tgt := 27) C hf dX11_takesOver_6 (by decide) (fun hf => ?_) (fun hf => ?_)
    · exact j_X11_takesOver_27 C hW (lv_sub hl [0] rfl) hf
    · refine lv_aload_n C.1 C.2.1 dX11_takesOver_9 rfl (lv_at hl 0 rfl) ?_
      refine xg_X11_13 C hW (k_125) dX11_takesOver_10 ?_
      refine lv_iload_n C.1 C.2.1 dX11_takesOver_13 rfl (lv_at hl 1 rfl) ?_
      refine lv_aload_n C.1 C.2.1 dX11_takesOver_14 rfl (lv_at hl 0 rfl) ?_
      refine xg_X11_17 C hW (k_125) dX11_takesOver_15 ?_
      refine lv_iload_n C.1 C.2.1 dX11_takesOver_18 rfl (lv_at hl 1 rfl) ?_
      refine x_ialdM C hW a_127 hf dX11_takesOver_19 (fun hf => ?_)
      refine x_iastM C hW a_126 hf dX11_takesOver_20 (fun g8 H locs hf hW => ?_)
      refine x_iinc (w := 1) C hf dX11_takesOver_21 hl (k := 1) rfl (by decide) (by decide) (fun v9 => [(1, .int v9), (0, .ref (Z.1 125))]) (fun _ => rfl) (fun v9 ls hf hl => ?_)
      refine lv_goto (tgt := 2) C.1 C.2.1 dX11_takesOver_24 (by decide) ?_
      exact ih v9 g8 ls _ _ hW (lv_sub hl [1, 0] rfl) hf
set_option maxRecDepth 20000 in
set_option maxHeartbeats 1000000 in
theorem c_X11_takesOver {l : Launch} {Z : ZT} {h : Hp} {g : Hp} {out : Hp} (hf : f_X11_takesOver g = some out) : Met l yX11_takesOver (wY yX11_takesOver cX11_takesOver 2 none) (rmD 2) (va_Pc [.ref (Z.1 125)] (Wd Z h g)) (va_Qv (fun (_ : Unit) => True) (fun _ => Wd Z h out) (FR Z)) 0 0 (FR Z) := by
  refine metX RX11 rfl (by decide +kernel) (Nat.le_of_ble_eq_true rfl) ?_
  intro p e s m args below meth c C hW ls hl
  have hl : lv_has ls 2 [(0, .ref (Z.1 125))] := hl
  unfold f_X11_takesOver at hf
  refine lv_iconst (v := 0) C.1 C.2.1 dX11_takesOver_0 (by decide) ?_
  refine lv_istore_n (lv' := [(1, .int (0 : Int32)), (0, .ref (Z.1 125))]) C.1 C.2.1 dX11_takesOver_1 rfl hl (by decide) rfl (fun ls hl => ?_)
  exact l_X11_takesOver_2 C FU (0 : Int32) g ls _ _ hW (lv_sub hl [1, 0] rfl) hf
set_option maxRecDepth 20000 in
set_option maxHeartbeats 1000000 in
theorem j_X11_keeps_88 {l : Launch} {Z : ZT} {h : Hp} {g : Hp} {p : Program} {e : Env} {s : State} {m : MethodId} {args : Array Value} {below : List Frame} {meth : Method} {c : Code} (C : CX p s m args meth c cX11_keeps RX11 2 none Z) {out : Hp} {ls : Array Slot} {H : Heap} {locs : List Loc} (hW : XW Z h g s.heap H locs) (hl : lv_has ls 2 [(0, .ref (Z.1 125))]) (hf : J_X11_keeps_88 g = some out) : W p l e (rmD 0) s m args below meth c H locs 0 0 (MQ below (va_Qv (fun (_ : Unit) => True) (fun _ => Wd Z h out) (FR Z)) args s 0 0 (FR Z)) (F0 m 88 ls []) := by
  rw [J_X11_keeps_88] at hf
  refine lv_aload_n C.1 C.2.1 dX11_keeps_88 rfl (lv_at hl 0 rfl) ?_
  refine lv_dup C.1 C.2.1 dX11_keeps_89 rfl ?_
  refine xg_X11_87 C hW (k_125) dX11_keeps_90 ?_
  refine lv_iconst (v := 1) C.1 C.2.1 dX11_keeps_93 (by decide) ?_
  refine lv_iadd C.1 C.2.1 dX11_keeps_94 ?_
  refine xp_X11_87 C hW (k_125) hf dX11_keeps_95 (fun g1 H locs hf hW => ?_)
  obtain rfl := Option.some.inj hf
  exact x_vret C hW dX11_keeps_98 trivial
set_option maxRecDepth 20000 in
set_option maxHeartbeats 1000000 in
theorem l_X11_keeps_54 {l : Launch} {Z : ZT} {h : Hp} {p : Program} {e : Env} {s : State} {m : MethodId} {args : Array Value} {below : List Frame} {meth : Method} {c : Code} (C : CX p s m args meth c cX11_keeps RX11 2 none Z) {out : Hp} : ∀ (n : Nat) (x1 : Int32) (g : Hp) (ls : Array Slot) (H : Heap) (locs : List Loc), XW Z h g s.heap H locs → lv_has ls 2 [(0, .ref (Z.1 125)), (1, .int x1)] → Lp (F_X11_keeps_54) n (x1, g) = some out → W p l e (rmD 0) s m args below meth c H locs 0 0 (MQ below (va_Qv (fun (_ : Unit) => True) (fun _ => Wd Z h out) (FR Z)) args s 0 0 (FR Z)) (F0 m 54 ls []) := by
  intro n
  induction n with
  | zero => intro x1 g ls H locs hW hl hf; cases hf
  | succ n ih =>
    intro x1 g ls H locs hW hl hf
    rw [Lp_s] at hf
    refine lv_iload_n C.1 C.2.1 dX11_keeps_54 rfl (lv_at hl 1 rfl) ?_
    refine lv_sipush (v := 161) C.1 C.2.1 dX11_keeps_55 (by decide) ?_
    refine x_cmpge (tgt := 88) C hf dX11_keeps_58 (by decide) (fun hf => ?_) (fun hf => ?_)
    · exact j_X11_keeps_88 C hW (lv_sub hl [0] rfl) hf
    · refine lv_aload_n C.1 C.2.1 dX11_keeps_61 rfl (lv_at hl 0 rfl) ?_
      refine xg_X11_41 C hW (k_125) dX11_keeps_62 ?_
      refine lv_sipush (v := 161) C.1 C.2.1 dX11_keeps_65 (by decide) ?_
      refine lv_aload_n C.1 C.2.1 dX11_keeps_68 rfl (lv_at hl 0 rfl) ?_
      refine xg_X11_87 C hW (k_125) dX11_keeps_69 ?_
      refine lv_imul C.1 C.2.1 dX11_keeps_72 ?_
      refine lv_iload_n C.1 C.2.1 dX11_keeps_73 rfl (lv_at hl 1 rfl) ?_
      refine lv_iadd C.1 C.2.1 dX11_keeps_74 ?_
      refine lv_aload_n C.1 C.2.1 dX11_keeps_75 rfl (lv_at hl 0 rfl) ?_
      refine xg_X11_38 C hW (k_125) dX11_keeps_76 ?_
      refine lv_iload_n C.1 C.2.1 dX11_keeps_79 rfl (lv_at hl 1 rfl) ?_
      refine x_ialdM C hW a_134 hf dX11_keeps_80 (fun hf => ?_)
      refine x_iastM C hW a_135 hf dX11_keeps_81 (fun g2 H locs hf hW => ?_)
      refine x_iinc (w := 1) C hf dX11_keeps_82 hl (k := 1) rfl (by decide) (by decide) (fun v3 => [(1, .int v3), (0, .ref (Z.1 125))]) (fun _ => rfl) (fun v3 ls hf hl => ?_)
      refine lv_goto (tgt := 54) C.1 C.2.1 dX11_keeps_85 (by decide) ?_
      exact ih v3 g2 ls _ _ hW (lv_sub hl [1, 0] rfl) hf
set_option maxRecDepth 20000 in
set_option maxHeartbeats 1000000 in
theorem j_X11_keeps_52 {l : Launch} {Z : ZT} {h : Hp} {g : Hp} {p : Program} {e : Env} {s : State} {m : MethodId} {args : Array Value} {below : List Frame} {meth : Method} {c : Code} (C : CX p s m args meth c cX11_keeps RX11 2 none Z) {out : Hp} {ls : Array Slot} {H : Heap} {locs : List Loc} (hW : XW Z h g s.heap H locs) (hl : lv_has ls 2 [(0, .ref (Z.1 125))]) (hf : J_X11_keeps_52 g = some out) : W p l e (rmD 0) s m args below meth c H locs 0 0 (MQ below (va_Qv (fun (_ : Unit) => True) (fun _ => Wd Z h out) (FR Z)) args s 0 0 (FR Z)) (F0 m 52 ls []) := by
  refine lv_iconst (v := 0) C.1 C.2.1 dX11_keeps_52 (by decide) ?_
  refine lv_istore_n (lv' := [(1, .int (0 : Int32)), (0, .ref (Z.1 125))]) C.1 C.2.1 dX11_keeps_53 rfl hl (by decide) rfl (fun ls hl => ?_)
  exact l_X11_keeps_54 C FU (0 : Int32) g ls _ _ hW (lv_sub hl [1, 0] rfl) hf
set_option maxRecDepth 20000 in
set_option maxHeartbeats 1000000 in
theorem j_X11_keeps_42 {l : Launch} {Z : ZT} {h : Hp} {g : Hp} {p : Program} {e : Env} {s : State} {m : MethodId} {args : Array Value} {below : List Frame} {meth : Method} {c : Code} (C : CX p s m args meth c cX11_keeps RX11 2 none Z) {out : Hp} {ls : Array Slot} {H : Heap} {locs : List Loc} (hW : XW Z h g s.heap H locs) (hl : lv_has ls 2 [(0, .ref (Z.1 125))]) (hf : J_X11_keeps_42 g = some out) : W p l e (rmD 0) s m args below meth c H locs 0 0 (MQ below (va_Qv (fun (_ : Unit) => True) (fun _ => Wd Z h out) (FR Z)) args s 0 0 (FR Z)) (F0 m 42 ls []) := by
  rw [J_X11_keeps_42] at hf
  refine lv_aload_n C.1 C.2.1 dX11_keeps_42 rfl (lv_at hl 0 rfl) ?_
  refine lv_dup C.1 C.2.1 dX11_keeps_43 rfl ?_
  refine xg_X11_87 C hW (k_125) dX11_keeps_44 ?_
  refine lv_iconst (v := 1) C.1 C.2.1 dX11_keeps_47 (by decide) ?_
  refine lv_isub C.1 C.2.1 dX11_keeps_48 ?_
  refine xp_X11_87 C hW (k_125) hf dX11_keeps_49 (fun g4 H locs hf hW => ?_)
  exact j_X11_keeps_52 C hW (lv_sub hl [0] rfl) hf
set_option maxRecDepth 20000 in
set_option maxHeartbeats 1000000 in
theorem l_X11_keeps_13 {l : Launch} {Z : ZT} {h : Hp} {p : Program} {e : Env} {s : State} {m : MethodId} {args : Array Value} {below : List Frame} {meth : Method} {c : Code} (C : CX p s m args meth c cX11_keeps RX11 2 none Z) {out : Hp} : ∀ (n : Nat) (x1 : Int32) (g : Hp) (ls : Array Slot) (H : Heap) (locs : List Loc), XW Z h g s.heap H locs → lv_has ls 2 [(0, .ref (Z.1 125)), (1, .int x1)] → Lp (F_X11_keeps_13) n (x1, g) = some out → W p l e (rmD 0) s m args below meth c H locs 0 0 (MQ below (va_Qv (fun (_ : Unit) => True) (fun _ => Wd Z h out) (FR Z)) args s 0 0 (FR Z)) (F0 m 13 ls []) := by
  intro n
  induction n with
  | zero => intro x1 g ls H locs hW hl hf; cases hf
  | succ n ih =>
    intro x1 g ls H locs hW hl hf
    rw [Lp_s] at hf
    refine lv_iload_n C.1 C.2.1 dX11_keeps_13 rfl (lv_at hl 1 rfl) ?_
    refine lv_sipush (v := 1932) C.1 C.2.1 dX11_keeps_14 (by decide) ?_
    refine x_cmpge (tgt := 42) C hf dX11_keeps_17 (by decide) (fun hf => ?_) (fun hf => ?_)
    · exact j_X11_keeps_42 C hW (lv_sub hl [0] rfl) hf
    · refine lv_aload_n C.1 C.2.1 dX11_keeps_20 rfl (lv_at hl 0 rfl) ?_
      refine xg_X11_41 C hW (k_125) dX11_keeps_21 ?_
      refine lv_iload_n C.1 C.2.1 dX11_keeps_24 rfl (lv_at hl 1 rfl) ?_
      refine lv_sipush (v := 161) C.1 C.2.1 dX11_keeps_25 (by decide) ?_
      refine lv_isub C.1 C.2.1 dX11_keeps_28 ?_
      refine lv_aload_n C.1 C.2.1 dX11_keeps_29 rfl (lv_at hl 0 rfl) ?_
      refine xg_X11_41 C hW (k_125) dX11_keeps_30 ?_
      refine lv_iload_n C.1 C.2.1 dX11_keeps_33 rfl (lv_at hl 1 rfl) ?_
      refine x_ialdM C hW a_135 hf dX11_keeps_34 (fun hf => ?_)
      refine x_iastM C hW a_135 hf dX11_keeps_35 (fun g5 H locs hf hW => ?_)
      refine x_iinc (w := 1) C hf dX11_keeps_36 hl (k := 1) rfl (by decide) (by decide) (fun v6 => [(1, .int v6), (0, .ref (Z.1 125))]) (fun _ => rfl) (fun v6 ls hf hl => ?_)
      refine lv_goto (tgt := 13) C.1 C.2.1 dX11_keeps_39 (by decide) ?_
      exact ih v6 g5 ls _ _ hW (lv_sub hl [1, 0] rfl) hf
set_option maxRecDepth 20000 in
set_option maxHeartbeats 1000000 in
theorem c_X11_keeps {l : Launch} {Z : ZT} {h : Hp} {g : Hp} {out : Hp} (hf : f_X11_keeps g = some out) : Met l yX11_keeps (wY yX11_keeps cX11_keeps 2 none) (rmD 0) (va_Pc [.ref (Z.1 125)] (Wd Z h g)) (va_Qv (fun (_ : Unit) => True) (fun _ => Wd Z h out) (FR Z)) 0 0 (FR Z) := by
  refine metX RX11 rfl (by decide +kernel) (Nat.le_of_ble_eq_true rfl) ?_
  intro p e s m args below meth c C hW ls hl
  have hl : lv_has ls 2 [(0, .ref (Z.1 125))] := hl
  unfold f_X11_keeps at hf
  refine lv_aload_n C.1 C.2.1 dX11_keeps_0 rfl (lv_at hl 0 rfl) ?_
  refine xg_X11_87 C hW (k_125) dX11_keeps_1 ?_
  refine lv_bipush (v := 12) C.1 C.2.1 dX11_keeps_4 (by decide) ?_
  refine x_cmpne (tgt := 52) C hf dX11_keeps_6 (by decide) (fun hf => ?_) (fun hf => ?_)
  · exact j_X11_keeps_52 C hW (lv_sub hl [0] rfl) hf
  · refine lv_sipush (v := 161) C.1 C.2.1 dX11_keeps_9 (by decide) ?_
    refine lv_istore_n (lv' := [(1, .int (161 : Int32)), (0, .ref (Z.1 125))]) C.1 C.2.1 dX11_keeps_12 rfl hl (by decide) rfl (fun ls hl => ?_)
    exact l_X11_keeps_13 C FU (161 : Int32) g ls _ _ hW (lv_sub hl [1, 0] rfl) hf
set_option maxRecDepth 20000 in
set_option maxHeartbeats 1000000 in
theorem l_X11_undo_26 {l : Launch} {Z : ZT} {h : Hp} {p : Program} {e : Env} {s : State} {m : MethodId} {args : Array Value} {below : List Frame} {meth : Method} {c : Code} (C : CX p s m args meth c cX11_undo RX11 2 (some .int) Z) {out : Int32 × Hp} : ∀ (n : Nat) (x1 : Int32) (g : Hp) (ls : Array Slot) (H : Heap) (locs : List Loc), XW Z h g s.heap H locs → lv_has ls 2 [(0, .ref (Z.1 125)), (1, .int x1)] → Lp (F_X11_undo_26) n (x1, g) = some out → W p l e (rmD 0) s m args below meth c H locs 0 0 (MQ below (va_Qi (fun r (_ : Unit) => r = out.1) (fun _ => Wd Z h out.2) (FR Z)) args s 0 0 (FR Z)) (F0 m 26 ls []) := by
  intro n
  induction n with
  | zero => intro x1 g ls H locs hW hl hf; cases hf
  | succ n ih =>
    intro x1 g ls H locs hW hl hf
    rw [Lp_s] at hf
    refine lv_iload_n C.1 C.2.1 dX11_undo_26 rfl (lv_at hl 1 rfl) ?_
    refine lv_sipush (v := 161) C.1 C.2.1 dX11_undo_27 (by decide) ?_
    refine x_cmpge (tgt := 60) C hf dX11_undo_30 (by decide) (fun hf => ?_) (fun hf => ?_)
    · refine lv_aload_n C.1 C.2.1 dX11_undo_60 rfl (lv_at hl 0 rfl) ?_
      refine xg_X11_87 C hW (k_125) dX11_undo_61 ?_
      obtain rfl := Option.some.inj hf
      exact x_iret C hW dX11_undo_64 rfl
    · refine lv_aload_n C.1 C.2.1 dX11_undo_33 rfl (lv_at hl 0 rfl) ?_
      refine xg_X11_38 C hW (k_125) dX11_undo_34 ?_
      refine lv_iload_n C.1 C.2.1 dX11_undo_37 rfl (lv_at hl 1 rfl) ?_
      refine lv_aload_n C.1 C.2.1 dX11_undo_38 rfl (lv_at hl 0 rfl) ?_
      refine xg_X11_41 C hW (k_125) dX11_undo_39 ?_
      refine lv_sipush (v := 161) C.1 C.2.1 dX11_undo_42 (by decide) ?_
      refine lv_aload_n C.1 C.2.1 dX11_undo_45 rfl (lv_at hl 0 rfl) ?_
      refine xg_X11_87 C hW (k_125) dX11_undo_46 ?_
      refine lv_imul C.1 C.2.1 dX11_undo_49 ?_
      refine lv_iload_n C.1 C.2.1 dX11_undo_50 rfl (lv_at hl 1 rfl) ?_
      refine lv_iadd C.1 C.2.1 dX11_undo_51 ?_
      refine x_ialdM C hW a_135 hf dX11_undo_52 (fun hf => ?_)
      refine x_iastM C hW a_134 hf dX11_undo_53 (fun g1 H locs hf hW => ?_)
      refine x_iinc (w := 1) C hf dX11_undo_54 hl (k := 1) rfl (by decide) (by decide) (fun v2 => [(1, .int v2), (0, .ref (Z.1 125))]) (fun _ => rfl) (fun v2 ls hf hl => ?_)
      refine lv_goto (tgt := 26) C.1 C.2.1 dX11_undo_57 (by decide) ?_
      exact ih v2 g1 ls _ _ hW (lv_sub hl [1, 0] rfl) hf
set_option maxRecDepth 20000 in
set_option maxHeartbeats 1000000 in
theorem c_X11_undo {l : Launch} {Z : ZT} {h : Hp} {g : Hp} {out : Int32 × Hp} (hf : f_X11_undo g = some out) : Met l yX11_undo (wY yX11_undo cX11_undo 2 (some .int)) (rmD 0) (va_Pc [.ref (Z.1 125)] (Wd Z h g)) (va_Qi (fun r (_ : Unit) => r = out.1) (fun _ => Wd Z h out.2) (FR Z)) 0 0 (FR Z) := by
  refine metX RX11 rfl (by decide +kernel) (Nat.le_of_ble_eq_true rfl) ?_
  intro p e s m args below meth c C hW ls hl
  have hl : lv_has ls 2 [(0, .ref (Z.1 125))] := hl
  unfold f_X11_undo at hf
  refine lv_aload_n C.1 C.2.1 dX11_undo_0 rfl (lv_at hl 0 rfl) ?_
  refine lv_iconst (v := 0) C.1 C.2.1 dX11_undo_1 (by decide) ?_
  refine xp_X11_3 C hW (k_125) hf dX11_undo_2 (fun g3 H locs hf hW => ?_)
  refine lv_aload_n C.1 C.2.1 dX11_undo_5 rfl (lv_at hl 0 rfl) ?_
  refine xg_X11_87 C hW (k_125) dX11_undo_6 ?_
  refine x_ifne (tgt := 14) C hf dX11_undo_9 (by decide) (fun hf => ?_) (fun hf => ?_)
  · refine lv_aload_n C.1 C.2.1 dX11_undo_14 rfl (lv_at hl 0 rfl) ?_
    refine lv_dup C.1 C.2.1 dX11_undo_15 rfl ?_
    refine xg_X11_87 C hW (k_125) dX11_undo_16 ?_
    refine lv_iconst (v := 1) C.1 C.2.1 dX11_undo_19 (by decide) ?_
    refine lv_isub C.1 C.2.1 dX11_undo_20 ?_
    refine xp_X11_87 C hW (k_125) hf dX11_undo_21 (fun g4 H locs hf hW => ?_)
    refine lv_iconst (v := 0) C.1 C.2.1 dX11_undo_24 (by decide) ?_
    refine lv_istore_n (lv' := [(1, .int (0 : Int32)), (0, .ref (Z.1 125))]) C.1 C.2.1 dX11_undo_25 rfl hl (by decide) rfl (fun ls hl => ?_)
    exact l_X11_undo_26 C FU (0 : Int32) g4 ls _ _ hW (lv_sub hl [1, 0] rfl) hf
  · refine lv_iconst (v := -1) C.1 C.2.1 dX11_undo_12 (by decide) ?_
    obtain rfl := Option.some.inj hf
    exact x_iret C hW dX11_undo_13 rfl
set_option maxRecDepth 20000 in
set_option maxHeartbeats 1000000 in
theorem c_X11_undoDepth {l : Launch} {Z : ZT} {h : Hp} {g : Hp} {out : Int32 × Hp} (hf : f_X11_undoDepth g = some out) : Met l yX11_undoDepth (wY yX11_undoDepth cX11_undoDepth 1 (some .int)) (rmD 0) (va_Pc [.ref (Z.1 125)] (Wd Z h g)) (va_Qi (fun r (_ : Unit) => r = out.1) (fun _ => Wd Z h out.2) (FR Z)) 0 0 (FR Z) := by
  refine metX RX11 rfl (by decide +kernel) (Nat.le_of_ble_eq_true rfl) ?_
  intro p e s m args below meth c C hW ls hl
  have hl : lv_has ls 1 [(0, .ref (Z.1 125))] := hl
  unfold f_X11_undoDepth at hf
  refine lv_aload_n C.1 C.2.1 dX11_undoDepth_0 rfl (lv_at hl 0 rfl) ?_
  refine lv_iconst (v := 0) C.1 C.2.1 dX11_undoDepth_1 (by decide) ?_
  refine xp_X11_3 C hW (k_125) hf dX11_undoDepth_2 (fun g1 H locs hf hW => ?_)
  refine lv_aload_n C.1 C.2.1 dX11_undoDepth_5 rfl (lv_at hl 0 rfl) ?_
  refine xg_X11_87 C hW (k_125) dX11_undoDepth_6 ?_
  obtain rfl := Option.some.inj hf
  exact x_iret C hW dX11_undoDepth_9 rfl
set_option maxRecDepth 20000 in
set_option maxHeartbeats 1000000 in
theorem l_X11_putsAside_2 {l : Launch} {Z : ZT} {h : Hp} {p : Program} {e : Env} {s : State} {m : MethodId} {args : Array Value} {below : List Frame} {meth : Method} {c : Code} (C : CX p s m args meth c cX11_putsAside RX11 2 none Z) {out : Hp} : ∀ (n : Nat) (x1 : Int32) (g : Hp) (ls : Array Slot) (H : Heap) (locs : List Loc), XW Z h g s.heap H locs → lv_has ls 2 [(0, .ref (Z.1 125)), (1, .int x1)] → Lp (F_X11_putsAside_2) n (x1, g) = some out → W p l e (rmD 0) s m args below meth c H locs 0 0 (MQ below (va_Qv (fun (_ : Unit) => True) (fun _ => Wd Z h out) (FR Z)) args s 0 0 (FR Z)) (F0 m 2 ls []) := by
  intro n
  induction n with
  | zero => intro x1 g ls H locs hW hl hf; cases hf
  | succ n ih =>
    intro x1 g ls H locs hW hl hf
    rw [Lp_s] at hf
    refine lv_iload_n C.1 C.2.1 dX11_putsAside_2 rfl (lv_at hl 1 rfl) ?_
    refine lv_sipush (v := 161) C.1 C.2.1 dX11_putsAside_3 (by decide) ?_
    refine x_cmpge (tgt := 27) C hf dX11_putsAside_6 (by decide) (fun hf => ?_) (fun hf => ?_)
    · obtain rfl := Option.some.inj hf
      exact x_vret C hW dX11_putsAside_27 trivial
    · refine lv_aload_n C.1 C.2.1 dX11_putsAside_9 rfl (lv_at hl 0 rfl) ?_
      refine xg_X11_44 C hW (k_125) dX11_putsAside_10 ?_
      refine lv_iload_n C.1 C.2.1 dX11_putsAside_13 rfl (lv_at hl 1 rfl) ?_
      refine lv_aload_n C.1 C.2.1 dX11_putsAside_14 rfl (lv_at hl 0 rfl) ?_
      refine xg_X11_38 C hW (k_125) dX11_putsAside_15 ?_
      refine lv_iload_n C.1 C.2.1 dX11_putsAside_18 rfl (lv_at hl 1 rfl) ?_
      refine x_ialdM C hW a_134 hf dX11_putsAside_19 (fun hf => ?_)
      refine x_iastM C hW a_136 hf dX11_putsAside_20 (fun g1 H locs hf hW => ?_)
      refine x_iinc (w := 1) C hf dX11_putsAside_21 hl (k := 1) rfl (by decide) (by decide) (fun v2 => [(1, .int v2), (0, .ref (Z.1 125))]) (fun _ => rfl) (fun v2 ls hf hl => ?_)
      refine lv_goto (tgt := 2) C.1 C.2.1 dX11_putsAside_24 (by decide) ?_
      exact ih v2 g1 ls _ _ hW (lv_sub hl [1, 0] rfl) hf
set_option maxRecDepth 20000 in
set_option maxHeartbeats 1000000 in
theorem c_X11_putsAside {l : Launch} {Z : ZT} {h : Hp} {g : Hp} {out : Hp} (hf : f_X11_putsAside g = some out) : Met l yX11_putsAside (wY yX11_putsAside cX11_putsAside 2 none) (rmD 0) (va_Pc [.ref (Z.1 125)] (Wd Z h g)) (va_Qv (fun (_ : Unit) => True) (fun _ => Wd Z h out) (FR Z)) 0 0 (FR Z) := by
  refine metX RX11 rfl (by decide +kernel) (Nat.le_of_ble_eq_true rfl) ?_
  intro p e s m args below meth c C hW ls hl
  have hl : lv_has ls 2 [(0, .ref (Z.1 125))] := hl
  unfold f_X11_putsAside at hf
  refine lv_iconst (v := 0) C.1 C.2.1 dX11_putsAside_0 (by decide) ?_
  refine lv_istore_n (lv' := [(1, .int (0 : Int32)), (0, .ref (Z.1 125))]) C.1 C.2.1 dX11_putsAside_1 rfl hl (by decide) rfl (fun ls hl => ?_)
  exact l_X11_putsAside_2 C FU (0 : Int32) g ls _ _ hW (lv_sub hl [1, 0] rfl) hf
set_option maxRecDepth 20000 in
set_option maxHeartbeats 1000000 in
theorem l_X11_takesBack_2 {l : Launch} {Z : ZT} {h : Hp} {p : Program} {e : Env} {s : State} {m : MethodId} {args : Array Value} {below : List Frame} {meth : Method} {c : Code} (C : CX p s m args meth c cX11_takesBack RX11 2 none Z) {out : Hp} : ∀ (n : Nat) (x1 : Int32) (g : Hp) (ls : Array Slot) (H : Heap) (locs : List Loc), XW Z h g s.heap H locs → lv_has ls 2 [(0, .ref (Z.1 125)), (1, .int x1)] → Lp (F_X11_takesBack_2) n (x1, g) = some out → W p l e (rmD 0) s m args below meth c H locs 0 0 (MQ below (va_Qv (fun (_ : Unit) => True) (fun _ => Wd Z h out) (FR Z)) args s 0 0 (FR Z)) (F0 m 2 ls []) := by
  intro n
  induction n with
  | zero => intro x1 g ls H locs hW hl hf; cases hf
  | succ n ih =>
    intro x1 g ls H locs hW hl hf
    rw [Lp_s] at hf
    refine lv_iload_n C.1 C.2.1 dX11_takesBack_2 rfl (lv_at hl 1 rfl) ?_
    refine lv_sipush (v := 161) C.1 C.2.1 dX11_takesBack_3 (by decide) ?_
    refine x_cmpge (tgt := 27) C hf dX11_takesBack_6 (by decide) (fun hf => ?_) (fun hf => ?_)
    · obtain rfl := Option.some.inj hf
      exact x_vret C hW dX11_takesBack_27 trivial
    · refine lv_aload_n C.1 C.2.1 dX11_takesBack_9 rfl (lv_at hl 0 rfl) ?_
      refine xg_X11_38 C hW (k_125) dX11_takesBack_10 ?_
      refine lv_iload_n C.1 C.2.1 dX11_takesBack_13 rfl (lv_at hl 1 rfl) ?_
      refine lv_aload_n C.1 C.2.1 dX11_takesBack_14 rfl (lv_at hl 0 rfl) ?_
      refine xg_X11_44 C hW (k_125) dX11_takesBack_15 ?_
      refine lv_iload_n C.1 C.2.1 dX11_takesBack_18 rfl (lv_at hl 1 rfl) ?_
      refine x_ialdM C hW a_136 hf dX11_takesBack_19 (fun hf => ?_)
      refine x_iastM C hW a_134 hf dX11_takesBack_20 (fun g1 H locs hf hW => ?_)
      refine x_iinc (w := 1) C hf dX11_takesBack_21 hl (k := 1) rfl (by decide) (by decide) (fun v2 => [(1, .int v2), (0, .ref (Z.1 125))]) (fun _ => rfl) (fun v2 ls hf hl => ?_)
      refine lv_goto (tgt := 2) C.1 C.2.1 dX11_takesBack_24 (by decide) ?_
      exact ih v2 g1 ls _ _ hW (lv_sub hl [1, 0] rfl) hf
set_option maxRecDepth 20000 in
set_option maxHeartbeats 1000000 in
theorem c_X11_takesBack {l : Launch} {Z : ZT} {h : Hp} {g : Hp} {out : Hp} (hf : f_X11_takesBack g = some out) : Met l yX11_takesBack (wY yX11_takesBack cX11_takesBack 2 none) (rmD 0) (va_Pc [.ref (Z.1 125)] (Wd Z h g)) (va_Qv (fun (_ : Unit) => True) (fun _ => Wd Z h out) (FR Z)) 0 0 (FR Z) := by
  refine metX RX11 rfl (by decide +kernel) (Nat.le_of_ble_eq_true rfl) ?_
  intro p e s m args below meth c C hW ls hl
  have hl : lv_has ls 2 [(0, .ref (Z.1 125))] := hl
  unfold f_X11_takesBack at hf
  refine lv_iconst (v := 0) C.1 C.2.1 dX11_takesBack_0 (by decide) ?_
  refine lv_istore_n (lv' := [(1, .int (0 : Int32)), (0, .ref (Z.1 125))]) C.1 C.2.1 dX11_takesBack_1 rfl hl (by decide) rfl (fun ls hl => ?_)
  exact l_X11_takesBack_2 C FU (0 : Int32) g ls _ _ hW (lv_sub hl [1, 0] rfl) hf
set_option maxRecDepth 20000 in
set_option maxHeartbeats 1000000 in
theorem c_X11_isKept {l : Launch} {Z : ZT} {h : Hp} {g : Hp} {p1 : Int32} {out : Int32} (hf : f_X11_isKept g p1 = some out) : Met l yX11_isKept (wY yX11_isKept cX11_isKept 2 (some .boolean)) (rmD 0) (va_Pc [.ref (Z.1 125), .int p1] (Wd Z h g)) (va_Qi (fun r (_ : Unit) => r = out) (fun _ => Wd Z h g) (FR Z)) 0 0 (FR Z) := by
  refine metX RX11 rfl (by decide +kernel) (Nat.le_of_ble_eq_true rfl) ?_
  intro p e s m args below meth c C hW ls hl
  have hl : lv_has ls 2 [(0, .ref (Z.1 125)), (1, .int p1)] := hl
  unfold f_X11_isKept at hf
  refine lv_aload_n C.1 C.2.1 dX11_isKept_0 rfl (lv_at hl 0 rfl) ?_
  refine xg_X11_38 C hW (k_125) dX11_isKept_1 ?_
  refine lv_iconst (v := 0) C.1 C.2.1 dX11_isKept_4 (by decide) ?_
  refine lv_iload_n C.1 C.2.1 dX11_isKept_5 rfl (lv_at hl 1 rfl) ?_
  refine lv_iadd C.1 C.2.1 dX11_isKept_6 ?_
  refine x_ialdM C hW a_134 hf dX11_isKept_7 (fun hf => ?_)
  refine x_ifne (tgt := 15) C hf dX11_isKept_8 (by decide) (fun hf => ?_) (fun hf => ?_)
  · refine lv_iconst (v := 0) C.1 C.2.1 dX11_isKept_15 (by decide) ?_
    exact x_zret C hW (by decide) dX11_isKept_16 (Option.some.inj hf)
  · refine lv_iconst (v := 1) C.1 C.2.1 dX11_isKept_11 (by decide) ?_
    refine lv_goto (tgt := 16) C.1 C.2.1 dX11_isKept_12 (by decide) ?_
    exact x_zret C hW (by decide) dX11_isKept_16 (Option.some.inj hf)
set_option maxRecDepth 20000 in
set_option maxHeartbeats 1000000 in
theorem c_X11_rangeStart {l : Launch} {Z : ZT} {h : Hp} {g : Hp} {p1 : Int32} {out : Int32} (hf : f_X11_rangeStart g p1 = some out) : Met l yX11_rangeStart (wY yX11_rangeStart cX11_rangeStart 2 (some .int)) (rmD 0) (va_Pc [.ref (Z.1 125), .int p1] (Wd Z h g)) (va_Qi (fun r (_ : Unit) => r = out) (fun _ => Wd Z h g) (FR Z)) 0 0 (FR Z) := by
  refine metX RX11 rfl (by decide +kernel) (Nat.le_of_ble_eq_true rfl) ?_
  intro p e s m args below meth c C hW ls hl
  have hl : lv_has ls 2 [(0, .ref (Z.1 125)), (1, .int p1)] := hl
  unfold f_X11_rangeStart at hf
  refine lv_iload_n C.1 C.2.1 dX11_rangeStart_0 rfl (lv_at hl 1 rfl) ?_
  refine x_ifne (tgt := 8) C hf dX11_rangeStart_1 (by decide) (fun hf => ?_) (fun hf => ?_)
  · refine lv_aload_n C.1 C.2.1 dX11_rangeStart_8 rfl (lv_at hl 0 rfl) ?_
    refine xg_X11_32 C hW (k_125) dX11_rangeStart_9 ?_
    refine lv_iload_n C.1 C.2.1 dX11_rangeStart_12 rfl (lv_at hl 1 rfl) ?_
    refine lv_iconst (v := 1) C.1 C.2.1 dX11_rangeStart_13 (by decide) ?_
    refine lv_isub C.1 C.2.1 dX11_rangeStart_14 ?_
    refine x_ialdM C hW a_132 hf dX11_rangeStart_15 (fun hf => ?_)
    exact x_iret C hW dX11_rangeStart_16 (Option.some.inj hf)
  · refine lv_iconst (v := 0) C.1 C.2.1 dX11_rangeStart_4 (by decide) ?_
    refine lv_goto (tgt := 16) C.1 C.2.1 dX11_rangeStart_5 (by decide) ?_
    exact x_iret C hW dX11_rangeStart_16 (Option.some.inj hf)
set_option maxRecDepth 20000 in
set_option maxHeartbeats 1000000 in
theorem c_X11_rangeEnd {l : Launch} {Z : ZT} {h : Hp} {g : Hp} {p1 : Int32} {out : Int32} (hf : f_X11_rangeEnd g p1 = some out) : Met l yX11_rangeEnd (wY yX11_rangeEnd cX11_rangeEnd 2 (some .int)) (rmD 0) (va_Pc [.ref (Z.1 125), .int p1] (Wd Z h g)) (va_Qi (fun r (_ : Unit) => r = out) (fun _ => Wd Z h g) (FR Z)) 0 0 (FR Z) := by
  refine metX RX11 rfl (by decide +kernel) (Nat.le_of_ble_eq_true rfl) ?_
  intro p e s m args below meth c C hW ls hl
  have hl : lv_has ls 2 [(0, .ref (Z.1 125)), (1, .int p1)] := hl
  unfold f_X11_rangeEnd at hf
  refine lv_iload_n C.1 C.2.1 dX11_rangeEnd_0 rfl (lv_at hl 1 rfl) ?_
  refine lv_aload_n C.1 C.2.1 dX11_rangeEnd_1 rfl (lv_at hl 0 rfl) ?_
  refine xg_X11_84 C hW (k_125) dX11_rangeEnd_2 ?_
  refine lv_iconst (v := 1) C.1 C.2.1 dX11_rangeEnd_5 (by decide) ?_
  refine lv_isub C.1 C.2.1 dX11_rangeEnd_6 ?_
  refine x_cmpne (tgt := 19) C hf dX11_rangeEnd_7 (by decide) (fun hf => ?_) (fun hf => ?_)
  · refine lv_aload_n C.1 C.2.1 dX11_rangeEnd_19 rfl (lv_at hl 0 rfl) ?_
    refine xg_X11_32 C hW (k_125) dX11_rangeEnd_20 ?_
    refine lv_iload_n C.1 C.2.1 dX11_rangeEnd_23 rfl (lv_at hl 1 rfl) ?_
    refine x_ialdM C hW a_132 hf dX11_rangeEnd_24 (fun hf => ?_)
    exact x_iret C hW dX11_rangeEnd_25 (Option.some.inj hf)
  · refine lv_aload_n C.1 C.2.1 dX11_rangeEnd_10 rfl (lv_at hl 0 rfl) ?_
    refine xg_X11_13 C hW (k_125) dX11_rangeEnd_11 ?_
    refine lv_iconst (v := 0) C.1 C.2.1 dX11_rangeEnd_14 (by decide) ?_
    refine x_ialdM C hW a_126 hf dX11_rangeEnd_15 (fun hf => ?_)
    refine lv_goto (tgt := 25) C.1 C.2.1 dX11_rangeEnd_16 (by decide) ?_
    exact x_iret C hW dX11_rangeEnd_25 (Option.some.inj hf)
set_option maxRecDepth 20000 in
set_option maxHeartbeats 1000000 in
theorem j_X11_append_106 {l : Launch} {Z : ZT} {h : Hp} {p1 : Int32} {p2 : Int32} {p3 : Int32} {p4 : Int32} {p5 : Int32} {g : Hp} {p : Program} {e : Env} {s : State} {m : MethodId} {args : Array Value} {below : List Frame} {meth : Method} {c : Code} (C : CX p s m args meth c cX11_append RX11 7 (some .int) Z) {out : Int32 × Hp} {ls : Array Slot} {H : Heap} {locs : List Loc} (hW : XW Z h g s.heap H locs) (hl : lv_has ls 7 [(0, .ref (Z.1 125)), (1, .int p1), (2, .int p2), (3, .int p3), (4, .int p4), (5, .int p5)]) (hf : J_X11_append_106 p1 p2 p3 p4 p5 g = some out) : W p l e (rmD 0) s m args below meth c H locs 0 0 (MQ below (va_Qi (fun r (_ : Unit) => r = out.1) (fun _ => Wd Z h out.2) (FR Z)) args s 0 0 (FR Z)) (F0 m 106 ls []) := by
  rw [J_X11_append_106] at hf
  refine lv_aload_n C.1 C.2.1 dX11_append_106 rfl (lv_at hl 0 rfl) ?_
  refine lv_dup C.1 C.2.1 dX11_append_107 rfl ?_
  refine xg_X11_110 C hW (k_125) dX11_append_108 ?_
  refine lv_bipush (v := 20) C.1 C.2.1 dX11_append_111 (by decide) ?_
  refine lv_iadd C.1 C.2.1 dX11_append_113 ?_
  refine xp_X11_110 C hW (k_125) hf dX11_append_114 (fun g1 H locs hf hW => ?_)
  refine lv_aload_n C.1 C.2.1 dX11_append_117 rfl (lv_at hl 0 rfl) ?_
  refine xg_X11_110 C hW (k_125) dX11_append_118 ?_
  obtain rfl := Option.some.inj hf
  exact x_iret C hW dX11_append_121 rfl
set_option maxRecDepth 20000 in
set_option maxHeartbeats 1000000 in
theorem l_X11_append_60 {l : Launch} {Z : ZT} {h : Hp} {p1 : Int32} {p2 : Int32} {p3 : Int32} {p4 : Int32} {p5 : Int32} {p : Program} {e : Env} {s : State} {m : MethodId} {args : Array Value} {below : List Frame} {meth : Method} {c : Code} (C : CX p s m args meth c cX11_append RX11 7 (some .int) Z) {out : Int32 × Hp} : ∀ (n : Nat) (x6 : Int32) (g : Hp) (ls : Array Slot) (H : Heap) (locs : List Loc), XW Z h g s.heap H locs → lv_has ls 7 [(0, .ref (Z.1 125)), (1, .int p1), (2, .int p2), (3, .int p3), (4, .int p4), (5, .int p5), (6, .int x6)] → Lp (F_X11_append_60 p1 p2 p3 p4 p5) n (x6, g) = some out → W p l e (rmD 0) s m args below meth c H locs 0 0 (MQ below (va_Qi (fun r (_ : Unit) => r = out.1) (fun _ => Wd Z h out.2) (FR Z)) args s 0 0 (FR Z)) (F0 m 60 ls []) := by
  intro n
  induction n with
  | zero => intro x6 g ls H locs hW hl hf; cases hf
  | succ n ih =>
    intro x6 g ls H locs hW hl hf
    rw [Lp_s] at hf
    refine lv_iload C.1 C.2.1 dX11_append_60 (lv_at hl 6 rfl) ?_
    refine lv_bipush (v := 20) C.1 C.2.1 dX11_append_62 (by decide) ?_
    refine x_cmpge (tgt := 106) C hf dX11_append_64 (by decide) (fun hf => ?_) (fun hf => ?_)
    · exact j_X11_append_106 C hW (lv_sub hl [0, 1, 2, 3, 4, 5] rfl) hf
    · refine lv_aload_n C.1 C.2.1 dX11_append_67 rfl (lv_at hl 0 rfl) ?_
      refine xg_X11_47 C hW (k_125) dX11_append_68 ?_
      refine lv_aload_n C.1 C.2.1 dX11_append_71 rfl (lv_at hl 0 rfl) ?_
      refine xg_X11_110 C hW (k_125) dX11_append_72 ?_
      refine lv_iload C.1 C.2.1 dX11_append_75 (lv_at hl 6 rfl) ?_
      refine lv_iadd C.1 C.2.1 dX11_append_77 ?_
      refine lv_aload_n C.1 C.2.1 dX11_append_78 rfl (lv_at hl 0 rfl) ?_
      refine xg_X11_51 C hW (k_125) dX11_append_79 ?_
      refine lv_iload C.1 C.2.1 dX11_append_82 (lv_at hl 6 rfl) ?_
      refine lv_iconst (v := 4) C.1 C.2.1 dX11_append_84 (by decide) ?_
      refine lv_idiv C.1 C.2.1 dX11_append_85 (by decide) ?_
      refine x_ialdM C hW a_138 hf dX11_append_86 (fun hf => ?_)
      refine lv_bipush (v := 24) C.1 C.2.1 dX11_append_87 (by decide) ?_
      refine lv_bipush (v := 8) C.1 C.2.1 dX11_append_89 (by decide) ?_
      refine lv_iload C.1 C.2.1 dX11_append_91 (lv_at hl 6 rfl) ?_
      refine lv_iconst (v := 4) C.1 C.2.1 dX11_append_93 (by decide) ?_
      refine lv_irem C.1 C.2.1 dX11_append_94 (by decide) ?_
      refine lv_imul C.1 C.2.1 dX11_append_95 ?_
      refine lv_isub C.1 C.2.1 dX11_append_96 ?_
      refine lv_ishr C.1 C.2.1 dX11_append_97 ?_
      refine lv_i2b (v := i2b (g 138 (ix (x6 / (4 : Int32))) >>> (((24 : Int32) - ((8 : Int32) * (irem x6 (4 : Int32)))) &&& 31))) C.1 C.2.1 dX11_append_98 rfl ?_
      refine x_bastM C hW a_137 hf dX11_append_99 (fun g2 H locs hf hW => ?_)
      refine x_iinc (w := 1) C hf dX11_append_100 hl (k := 6) rfl (by decide) (by decide) (fun v3 => [(6, .int v3), (0, .ref (Z.1 125)), (1, .int p1), (2, .int p2), (3, .int p3), (4, .int p4), (5, .int p5)]) (fun _ => rfl) (fun v3 ls hf hl => ?_)
      refine lv_goto (tgt := 60) C.1 C.2.1 dX11_append_103 (by decide) ?_
      exact ih v3 g2 ls _ _ hW (lv_sub hl [1, 2, 3, 4, 5, 6, 0] rfl) hf
set_option maxRecDepth 20000 in
set_option maxHeartbeats 1000000 in
theorem c_X11_append {l : Launch} {Z : ZT} {h : Hp} {g : Hp} {p1 : Int32} {p2 : Int32} {p3 : Int32} {p4 : Int32} {p5 : Int32} {out : Int32 × Hp} (hf : f_X11_append g p1 p2 p3 p4 p5 = some out) : Met l yX11_append (wY yX11_append cX11_append 7 (some .int)) (rmD 0) (va_Pc [.ref (Z.1 125), .int p1, .int p2, .int p3, .int p4, .int p5] (Wd Z h g)) (va_Qi (fun r (_ : Unit) => r = out.1) (fun _ => Wd Z h out.2) (FR Z)) 0 0 (FR Z) := by
  refine metX RX11 rfl (by decide +kernel) (Nat.le_of_ble_eq_true rfl) ?_
  intro p e s m args below meth c C hW ls hl
  have hl : lv_has ls 7 [(0, .ref (Z.1 125)), (1, .int p1), (2, .int p2), (3, .int p3), (4, .int p4), (5, .int p5)] := hl
  unfold f_X11_append at hf
  refine lv_aload_n C.1 C.2.1 dX11_append_0 rfl (lv_at hl 0 rfl) ?_
  refine lv_iconst (v := 0) C.1 C.2.1 dX11_append_1 (by decide) ?_
  refine xp_X11_3 C hW (k_125) hf dX11_append_2 (fun g4 H locs hf hW => ?_)
  refine lv_aload_n C.1 C.2.1 dX11_append_5 rfl (lv_at hl 0 rfl) ?_
  refine xg_X11_110 C hW (k_125) dX11_append_6 ?_
  refine lv_bipush (v := 20) C.1 C.2.1 dX11_append_9 (by decide) ?_
  refine lv_iadd C.1 C.2.1 dX11_append_11 ?_
  refine lv_sipush (v := 900) C.1 C.2.1 dX11_append_12 (by decide) ?_
  refine x_cmple (tgt := 20) C hf dX11_append_15 (by decide) (fun hf => ?_) (fun hf => ?_)
  · refine lv_aload_n C.1 C.2.1 dX11_append_20 rfl (lv_at hl 0 rfl) ?_
    refine xg_X11_51 C hW (k_125) dX11_append_21 ?_
    refine lv_iconst (v := 0) C.1 C.2.1 dX11_append_24 (by decide) ?_
    refine lv_iload_n C.1 C.2.1 dX11_append_25 rfl (lv_at hl 1 rfl) ?_
    refine x_iastM C hW a_138 hf dX11_append_26 (fun g5 H locs hf hW => ?_)
    refine lv_aload_n C.1 C.2.1 dX11_append_27 rfl (lv_at hl 0 rfl) ?_
    refine xg_X11_51 C hW (k_125) dX11_append_28 ?_
    refine lv_iconst (v := 1) C.1 C.2.1 dX11_append_31 (by decide) ?_
    refine lv_iload_n C.1 C.2.1 dX11_append_32 rfl (lv_at hl 2 rfl) ?_
    refine x_iastM C hW a_138 hf dX11_append_33 (fun g6 H locs hf hW => ?_)
    refine lv_aload_n C.1 C.2.1 dX11_append_34 rfl (lv_at hl 0 rfl) ?_
    refine xg_X11_51 C hW (k_125) dX11_append_35 ?_
    refine lv_iconst (v := 2) C.1 C.2.1 dX11_append_38 (by decide) ?_
    refine lv_iload_n C.1 C.2.1 dX11_append_39 rfl (lv_at hl 3 rfl) ?_
    refine x_iastM C hW a_138 hf dX11_append_40 (fun g7 H locs hf hW => ?_)
    refine lv_aload_n C.1 C.2.1 dX11_append_41 rfl (lv_at hl 0 rfl) ?_
    refine xg_X11_51 C hW (k_125) dX11_append_42 ?_
    refine lv_iconst (v := 3) C.1 C.2.1 dX11_append_45 (by decide) ?_
    refine lv_iload C.1 C.2.1 dX11_append_46 (lv_at hl 4 rfl) ?_
    refine x_iastM C hW a_138 hf dX11_append_48 (fun g8 H locs hf hW => ?_)
    refine lv_aload_n C.1 C.2.1 dX11_append_49 rfl (lv_at hl 0 rfl) ?_
    refine xg_X11_51 C hW (k_125) dX11_append_50 ?_
    refine lv_iconst (v := 4) C.1 C.2.1 dX11_append_53 (by decide) ?_
    refine lv_iload C.1 C.2.1 dX11_append_54 (lv_at hl 5 rfl) ?_
    refine x_iastM C hW a_138 hf dX11_append_56 (fun g9 H locs hf hW => ?_)
    refine lv_iconst (v := 0) C.1 C.2.1 dX11_append_57 (by decide) ?_
    refine lv_istore (lv' := [(6, .int (0 : Int32)), (0, .ref (Z.1 125)), (1, .int p1), (2, .int p2), (3, .int p3), (4, .int p4), (5, .int p5)]) C.1 C.2.1 dX11_append_58 hl (by decide) rfl (fun ls hl => ?_)
    exact l_X11_append_60 C FU (0 : Int32) g9 ls _ _ hW (lv_sub hl [1, 2, 3, 4, 5, 6, 0] rfl) hf
  · refine lv_iconst (v := -1) C.1 C.2.1 dX11_append_18 (by decide) ?_
    obtain rfl := Option.some.inj hf
    exact x_iret C hW dX11_append_19 rfl
set_option maxRecDepth 20000 in
set_option maxHeartbeats 1000000 in
theorem c_X11_truncate {l : Launch} {Z : ZT} {h : Hp} {g : Hp} {p1 : Int32} {out : Int32 × Hp} (hf : f_X11_truncate g p1 = some out) : Met l yX11_truncate (wY yX11_truncate cX11_truncate 2 (some .boolean)) (rmD 0) (va_Pc [.ref (Z.1 125), .int p1] (Wd Z h g)) (va_Qi (fun r (_ : Unit) => r = out.1) (fun _ => Wd Z h out.2) (FR Z)) 0 0 (FR Z) := by
  refine metX RX11 rfl (by decide +kernel) (Nat.le_of_ble_eq_true rfl) ?_
  intro p e s m args below meth c C hW ls hl
  have hl : lv_has ls 2 [(0, .ref (Z.1 125)), (1, .int p1)] := hl
  unfold f_X11_truncate at hf
  refine lv_aload_n C.1 C.2.1 dX11_truncate_0 rfl (lv_at hl 0 rfl) ?_
  refine lv_iconst (v := 0) C.1 C.2.1 dX11_truncate_1 (by decide) ?_
  refine xp_X11_3 C hW (k_125) hf dX11_truncate_2 (fun g1 H locs hf hW => ?_)
  refine lv_iload_n C.1 C.2.1 dX11_truncate_5 rfl (lv_at hl 1 rfl) ?_
  refine x_iflt (tgt := 17) C hf dX11_truncate_6 (by decide) (fun hf => ?_) (fun hf => ?_)
  · refine lv_iconst (v := 0) C.1 C.2.1 dX11_truncate_17 (by decide) ?_
    obtain rfl := Option.some.inj hf
    exact x_zret C hW (by decide) dX11_truncate_18 rfl
  · refine lv_iload_n C.1 C.2.1 dX11_truncate_9 rfl (lv_at hl 1 rfl) ?_
    refine lv_aload_n C.1 C.2.1 dX11_truncate_10 rfl (lv_at hl 0 rfl) ?_
    refine xg_X11_110 C hW (k_125) dX11_truncate_11 ?_
    refine x_cmple (tgt := 19) C hf dX11_truncate_14 (by decide) (fun hf => ?_) (fun hf => ?_)
    · refine lv_aload_n C.1 C.2.1 dX11_truncate_19 rfl (lv_at hl 0 rfl) ?_
      refine lv_iload_n C.1 C.2.1 dX11_truncate_20 rfl (lv_at hl 1 rfl) ?_
      refine xp_X11_110 C hW (k_125) hf dX11_truncate_21 (fun g2 H locs hf hW => ?_)
      refine lv_iconst (v := 1) C.1 C.2.1 dX11_truncate_24 (by decide) ?_
      obtain rfl := Option.some.inj hf
      exact x_zret C hW (by decide) dX11_truncate_25 rfl
    · refine lv_iconst (v := 0) C.1 C.2.1 dX11_truncate_17 (by decide) ?_
      obtain rfl := Option.some.inj hf
      exact x_zret C hW (by decide) dX11_truncate_18 rfl
set_option maxRecDepth 20000 in
set_option maxHeartbeats 1000000 in
theorem c_X11_errorOffset {l : Launch} {Z : ZT} {h : Hp} {g : Hp} {out : Int32 × Hp} (hf : f_X11_errorOffset g = some out) : Met l yX11_errorOffset (wY yX11_errorOffset cX11_errorOffset 1 (some .int)) (rmD 0) (va_Pc [.ref (Z.1 125)] (Wd Z h g)) (va_Qi (fun r (_ : Unit) => r = out.1) (fun _ => Wd Z h out.2) (FR Z)) 0 0 (FR Z) := by
  refine metX RX11 rfl (by decide +kernel) (Nat.le_of_ble_eq_true rfl) ?_
  intro p e s m args below meth c C hW ls hl
  have hl : lv_has ls 1 [(0, .ref (Z.1 125))] := hl
  unfold f_X11_errorOffset at hf
  refine lv_aload_n C.1 C.2.1 dX11_errorOffset_0 rfl (lv_at hl 0 rfl) ?_
  refine lv_iconst (v := 0) C.1 C.2.1 dX11_errorOffset_1 (by decide) ?_
  refine xp_X11_3 C hW (k_125) hf dX11_errorOffset_2 (fun g1 H locs hf hW => ?_)
  refine lv_aload_n C.1 C.2.1 dX11_errorOffset_5 rfl (lv_at hl 0 rfl) ?_
  refine xg_X11_54 C hW (k_125) dX11_errorOffset_6 ?_
  obtain rfl := Option.some.inj hf
  exact x_iret C hW dX11_errorOffset_9 rfl
set_option maxRecDepth 20000 in
set_option maxHeartbeats 1000000 in
theorem c_X11_errorKind {l : Launch} {Z : ZT} {h : Hp} {g : Hp} {out : Int32 × Hp} (hf : f_X11_errorKind g = some out) : Met l yX11_errorKind (wY yX11_errorKind cX11_errorKind 1 (some .int)) (rmD 0) (va_Pc [.ref (Z.1 125)] (Wd Z h g)) (va_Qi (fun r (_ : Unit) => r = out.1) (fun _ => Wd Z h out.2) (FR Z)) 0 0 (FR Z) := by
  refine metX RX11 rfl (by decide +kernel) (Nat.le_of_ble_eq_true rfl) ?_
  intro p e s m args below meth c C hW ls hl
  have hl : lv_has ls 1 [(0, .ref (Z.1 125))] := hl
  unfold f_X11_errorKind at hf
  refine lv_aload_n C.1 C.2.1 dX11_errorKind_0 rfl (lv_at hl 0 rfl) ?_
  refine lv_iconst (v := 0) C.1 C.2.1 dX11_errorKind_1 (by decide) ?_
  refine xp_X11_3 C hW (k_125) hf dX11_errorKind_2 (fun g1 H locs hf hW => ?_)
  refine lv_aload_n C.1 C.2.1 dX11_errorKind_5 rfl (lv_at hl 0 rfl) ?_
  refine xg_X11_113 C hW (k_125) dX11_errorKind_6 ?_
  obtain rfl := Option.some.inj hf
  exact x_iret C hW dX11_errorKind_9 rfl
set_option maxRecDepth 20000 in
set_option maxHeartbeats 1000000 in
theorem c_X11_hasFailed {l : Launch} {Z : ZT} {h : Hp} {g : Hp} {out : Int32} (hf : f_X11_hasFailed g = some out) : Met l yX11_hasFailed (wY yX11_hasFailed cX11_hasFailed 1 (some .boolean)) (rmD 0) (va_Pc [.ref (Z.1 125)] (Wd Z h g)) (va_Qi (fun r (_ : Unit) => r = out) (fun _ => Wd Z h g) (FR Z)) 0 0 (FR Z) := by
  refine metX RX11 rfl (by decide +kernel) (Nat.le_of_ble_eq_true rfl) ?_
  intro p e s m args below meth c C hW ls hl
  have hl : lv_has ls 1 [(0, .ref (Z.1 125))] := hl
  unfold f_X11_hasFailed at hf
  refine lv_aload_n C.1 C.2.1 dX11_hasFailed_0 rfl (lv_at hl 0 rfl) ?_
  refine xg_X11_116 C hW (k_125) dX11_hasFailed_1 ?_
  refine lv_iconst (v := -1) C.1 C.2.1 dX11_hasFailed_4 (by decide) ?_
  refine x_cmpeq (tgt := 12) C hf dX11_hasFailed_5 (by decide) (fun hf => ?_) (fun hf => ?_)
  · refine lv_iconst (v := 0) C.1 C.2.1 dX11_hasFailed_12 (by decide) ?_
    exact x_zret C hW (by decide) dX11_hasFailed_13 (Option.some.inj hf)
  · refine lv_iconst (v := 1) C.1 C.2.1 dX11_hasFailed_8 (by decide) ?_
    refine lv_goto (tgt := 13) C.1 C.2.1 dX11_hasFailed_9 (by decide) ?_
    exact x_zret C hW (by decide) dX11_hasFailed_13 (Option.some.inj hf)
set_option maxRecDepth 20000 in
set_option maxHeartbeats 1000000 in
theorem c_X11_isAt {l : Launch} {Z : ZT} {h : Hp} {g : Hp} {p1 : Int32} {p2 : Int32} {out : Int32} (hf : f_X11_isAt g p1 p2 = some out) : Met l yX11_isAt (wY yX11_isAt cX11_isAt 3 (some .boolean)) (rmD 0) (va_Pc [.ref (Z.1 125), .int p1, .int p2] (Wd Z h g)) (va_Qi (fun r (_ : Unit) => r = out) (fun _ => Wd Z h g) (FR Z)) 0 0 (FR Z) := by
  refine metX RX11 rfl (by decide +kernel) (Nat.le_of_ble_eq_true rfl) ?_
  intro p e s m args below meth c C hW ls hl
  have hl : lv_has ls 3 [(0, .ref (Z.1 125)), (1, .int p1), (2, .int p2)] := hl
  unfold f_X11_isAt at hf
  refine lv_aload_n C.1 C.2.1 dX11_isAt_0 rfl (lv_at hl 0 rfl) ?_
  refine xg_X11_119 C hW (k_125) dX11_isAt_1 ?_
  refine lv_aload_n C.1 C.2.1 dX11_isAt_4 rfl (lv_at hl 0 rfl) ?_
  refine xg_X11_122 C hW (k_125) dX11_isAt_5 ?_
  refine x_cmpge (tgt := 41) C hf dX11_isAt_8 (by decide) (fun hf => ?_) (fun hf => ?_)
  · refine lv_iconst (v := 0) C.1 C.2.1 dX11_isAt_41 (by decide) ?_
    exact x_zret C hW (by decide) dX11_isAt_42 (Option.some.inj hf)
  · refine lv_aload_n C.1 C.2.1 dX11_isAt_11 rfl (lv_at hl 0 rfl) ?_
    refine xg_X11_47 C hW (k_125) dX11_isAt_12 ?_
    refine lv_aload_n C.1 C.2.1 dX11_isAt_15 rfl (lv_at hl 0 rfl) ?_
    refine xg_X11_119 C hW (k_125) dX11_isAt_16 ?_
    refine x_baldM C hW a_137 hf dX11_isAt_19 (fun hf => ?_)
    refine lv_iload_n C.1 C.2.1 dX11_isAt_20 rfl (lv_at hl 1 rfl) ?_
    refine x_cmplt (tgt := 41) C hf dX11_isAt_21 (by decide) (fun hf => ?_) (fun hf => ?_)
    · refine lv_iconst (v := 0) C.1 C.2.1 dX11_isAt_41 (by decide) ?_
      exact x_zret C hW (by decide) dX11_isAt_42 (Option.some.inj hf)
    · refine lv_aload_n C.1 C.2.1 dX11_isAt_24 rfl (lv_at hl 0 rfl) ?_
      refine xg_X11_47 C hW (k_125) dX11_isAt_25 ?_
      refine lv_aload_n C.1 C.2.1 dX11_isAt_28 rfl (lv_at hl 0 rfl) ?_
      refine xg_X11_119 C hW (k_125) dX11_isAt_29 ?_
      refine x_baldM C hW a_137 hf dX11_isAt_32 (fun hf => ?_)
      refine lv_iload_n C.1 C.2.1 dX11_isAt_33 rfl (lv_at hl 2 rfl) ?_
      refine x_cmpgt (tgt := 41) C hf dX11_isAt_34 (by decide) (fun hf => ?_) (fun hf => ?_)
      · refine lv_iconst (v := 0) C.1 C.2.1 dX11_isAt_41 (by decide) ?_
        exact x_zret C hW (by decide) dX11_isAt_42 (Option.some.inj hf)
      · refine lv_iconst (v := 1) C.1 C.2.1 dX11_isAt_37 (by decide) ?_
        refine lv_goto (tgt := 42) C.1 C.2.1 dX11_isAt_38 (by decide) ?_
        exact x_zret C hW (by decide) dX11_isAt_42 (Option.some.inj hf)
set_option maxRecDepth 20000 in
set_option maxHeartbeats 1000000 in
theorem j_X11_blanks_30 {l : Launch} {Z : ZT} {h : Hp} {g : Hp} {r8 : Hp → Option (Hp)} {p : Program} {e : Env} {s : State} {m : MethodId} {args : Array Value} {below : List Frame} {meth : Method} {c : Code} (C : CX p s m args meth c cX11_blanks RX11 1 none Z) {out : Hp} (hr8 : ∀ (g : Hp) (ls : Array Slot) (H : Heap) (locs : List Loc), XW Z h g s.heap H locs → lv_has ls 1 [(0, .ref (Z.1 125))] → r8 g = some out → W p l e (rmD 1) s m args below meth c H locs 0 0 (MQ below (va_Qv (fun (_ : Unit) => True) (fun _ => Wd Z h out) (FR Z)) args s 0 0 (FR Z)) (F0 m 8 ls [])) {ls : Array Slot} {H : Heap} {locs : List Loc} (hW : XW Z h g s.heap H locs) (hl : lv_has ls 1 [(0, .ref (Z.1 125))]) (hf : J_X11_blanks_30 g r8 = some out) : W p l e (rmD 1) s m args below meth c H locs 0 0 (MQ below (va_Qv (fun (_ : Unit) => True) (fun _ => Wd Z h out) (FR Z)) args s 0 0 (FR Z)) (F0 m 30 ls []) := by
  rw [J_X11_blanks_30] at hf
  refine lv_aload_n C.1 C.2.1 dX11_blanks_30 rfl (lv_at hl 0 rfl) ?_
  refine lv_dup C.1 C.2.1 dX11_blanks_31 rfl ?_
  refine xg_X11_119 C hW (k_125) dX11_blanks_32 ?_
  refine lv_iconst (v := 1) C.1 C.2.1 dX11_blanks_35 (by decide) ?_
  refine lv_iadd C.1 C.2.1 dX11_blanks_36 ?_
  refine xp_X11_119 C hW (k_125) hf dX11_blanks_37 (fun g1 H locs hf hW => ?_)
  refine lv_goto (tgt := 8) C.1 C.2.1 dX11_blanks_40 (by decide) ?_
  exact hr8 g1 ls _ _ hW (lv_sub hl [0] rfl) hf
set_option maxRecDepth 20000 in
set_option maxHeartbeats 1000000 in
theorem j_X11_blanks_43 {l : Launch} {Z : ZT} {h : Hp} {g : Hp} {p : Program} {e : Env} {s : State} {m : MethodId} {args : Array Value} {below : List Frame} {meth : Method} {c : Code} (C : CX p s m args meth c cX11_blanks RX11 1 none Z) {out : Hp} {ls : Array Slot} {H : Heap} {locs : List Loc} (hW : XW Z h g s.heap H locs) (hl : lv_has ls 1 [(0, .ref (Z.1 125))]) (hf : J_X11_blanks_43 g = some out) : W p l e (rmD 1) s m args below meth c H locs 0 0 (MQ below (va_Qv (fun (_ : Unit) => True) (fun _ => Wd Z h out) (FR Z)) args s 0 0 (FR Z)) (F0 m 43 ls []) := by
  rw [J_X11_blanks_43] at hf
  refine lv_aload_n C.1 C.2.1 dX11_blanks_43 rfl (lv_at hl 0 rfl) ?_
  refine lv_aload_n C.1 C.2.1 dX11_blanks_44 rfl (lv_at hl 0 rfl) ?_
  refine xg_X11_119 C hW (k_125) dX11_blanks_45 ?_
  refine xp_X11_133 C hW (k_125) hf dX11_blanks_48 (fun g2 H locs hf hW => ?_)
  obtain rfl := Option.some.inj hf
  exact x_vret C hW dX11_blanks_51 trivial
set_option maxRecDepth 20000 in
set_option maxHeartbeats 1000000 in
theorem l_X11_blanks_8 {l : Launch} {Z : ZT} {h : Hp} {p : Program} {e : Env} {s : State} {m : MethodId} {args : Array Value} {below : List Frame} {meth : Method} {c : Code} (C : CX p s m args meth c cX11_blanks RX11 1 none Z) {out : Hp} : ∀ (n : Nat) (g : Hp) (ls : Array Slot) (H : Heap) (locs : List Loc), XW Z h g s.heap H locs → lv_has ls 1 [(0, .ref (Z.1 125))] → Lp (F_X11_blanks_8) n g = some out → W p l e (rmD 1) s m args below meth c H locs 0 0 (MQ below (va_Qv (fun (_ : Unit) => True) (fun _ => Wd Z h out) (FR Z)) args s 0 0 (FR Z)) (F0 m 8 ls []) := by
  intro n
  induction n with
  | zero => intro g ls H locs hW hl hf; cases hf
  | succ n ih =>
    intro g ls H locs hW hl hf
    rw [Lp_s] at hf
    rw [F_X11_blanks_8] at hf
    try dsimp only at hf
    refine lv_aload_n C.1 C.2.1 dX11_blanks_8 rfl (lv_at hl 0 rfl) ?_
    refine lv_bipush (v := 9) C.1 C.2.1 dX11_blanks_9 (by decide) ?_
    refine lv_bipush (v := 10) C.1 C.2.1 dX11_blanks_11 (by decide) ?_
    obtain ⟨u3, hcu3, hf⟩ := bnd_t hf
    refine x_calli hW (x_runV C hW hl (wk9 (k_125)) rfl rfl (c_X11_isAt hcu3) (cw_X11_129) ci_X11_isAt cs_X11_isAt (rm_ok (by decide) (by decide)) ⟨Nat.le_refl _, Nat.le_refl _⟩ (As := [.int (9 : Int32), .int (10 : Int32)]) rfl rfl (Nat.le_of_ble_eq_true rfl) dX11_blanks_13) (fun H locs hW => ?_)
    refine x_ifne (tgt := 30) C hf dX11_blanks_16 (by decide) (fun hf => ?_) (fun hf => ?_)
    · exact j_X11_blanks_30 C (fun z0 => ih z0) hW (lv_sub hl [0] rfl) hf
    · refine lv_aload_n C.1 C.2.1 dX11_blanks_19 rfl (lv_at hl 0 rfl) ?_
      refine lv_bipush (v := 32) C.1 C.2.1 dX11_blanks_20 (by decide) ?_
      refine lv_bipush (v := 32) C.1 C.2.1 dX11_blanks_22 (by decide) ?_
      obtain ⟨u4, hcu4, hf⟩ := bnd_t hf
      refine x_calli hW (x_runV C hW hl (wk9 (k_125)) rfl rfl (c_X11_isAt hcu4) (cw_X11_129) ci_X11_isAt cs_X11_isAt (rm_ok (by decide) (by decide)) ⟨Nat.le_refl _, Nat.le_refl _⟩ (As := [.int (32 : Int32), .int (32 : Int32)]) rfl rfl (Nat.le_of_ble_eq_true rfl) dX11_blanks_24) (fun H locs hW => ?_)
      refine x_ifeq (tgt := 43) C hf dX11_blanks_27 (by decide) (fun hf => ?_) (fun hf => ?_)
      · exact j_X11_blanks_43 C hW (lv_sub hl [0] rfl) hf
      · exact j_X11_blanks_30 C (fun z0 => ih z0) hW (lv_sub hl [0] rfl) hf
set_option maxRecDepth 20000 in
set_option maxHeartbeats 1000000 in
theorem c_X11_blanks {l : Launch} {Z : ZT} {h : Hp} {g : Hp} {out : Hp} (hf : f_X11_blanks g = some out) : Met l yX11_blanks (wY yX11_blanks cX11_blanks 1 none) (rmD 1) (va_Pc [.ref (Z.1 125)] (Wd Z h g)) (va_Qv (fun (_ : Unit) => True) (fun _ => Wd Z h out) (FR Z)) 0 0 (FR Z) := by
  refine metX RX11 rfl (by decide +kernel) (Nat.le_of_ble_eq_true rfl) ?_
  intro p e s m args below meth c C hW ls hl
  have hl : lv_has ls 1 [(0, .ref (Z.1 125))] := hl
  unfold f_X11_blanks at hf
  refine lv_aload_n C.1 C.2.1 dX11_blanks_0 rfl (lv_at hl 0 rfl) ?_
  obtain ⟨u5, hcu5, hf⟩ := bnd_t hf
  refine x_calli hW (x_runV C hW hl (wk9 (k_125)) rfl rfl (c_X11_hasFailed hcu5) (cw_X11_125) ci_X11_hasFailed cs_X11_hasFailed (rm_ok (by decide) (by decide)) ⟨Nat.le_refl _, Nat.le_refl _⟩ (As := []) rfl rfl (Nat.le_of_ble_eq_true rfl) dX11_blanks_1) (fun H locs hW => ?_)
  refine x_ifeq (tgt := 8) C hf dX11_blanks_4 (by decide) (fun hf => ?_) (fun hf => ?_)
  · exact l_X11_blanks_8 C FU g ls _ _ hW (lv_sub hl [0] rfl) hf
  · obtain rfl := Option.some.inj hf
    exact x_vret C hW dX11_blanks_7 trivial
set_option maxRecDepth 20000 in
set_option maxHeartbeats 1000000 in
theorem c_X11_must {l : Launch} {Z : ZT} {h : Hp} {g : Hp} {p1 : Int32} {p2 : Int32} {out : Hp} (hf : f_X11_must g p1 p2 = some out) : Met l yX11_must (wY yX11_must cX11_must 3 none) (rmD 1) (va_Pc [.ref (Z.1 125), .int p1, .int p2] (Wd Z h g)) (va_Qv (fun (_ : Unit) => True) (fun _ => Wd Z h out) (FR Z)) 0 0 (FR Z) := by
  refine metX RX11 rfl (by decide +kernel) (Nat.le_of_ble_eq_true rfl) ?_
  intro p e s m args below meth c C hW ls hl
  have hl : lv_has ls 3 [(0, .ref (Z.1 125)), (1, .int p1), (2, .int p2)] := hl
  unfold f_X11_must at hf
  refine lv_iload_n C.1 C.2.1 dX11_must_0 rfl (lv_at hl 1 rfl) ?_
  refine x_ifne (tgt := 11) C hf dX11_must_1 (by decide) (fun hf => ?_) (fun hf => ?_)
  · obtain rfl := Option.some.inj hf
    exact x_vret C hW dX11_must_11 trivial
  · refine lv_aload_n C.1 C.2.1 dX11_must_4 rfl (lv_at hl 0 rfl) ?_
    obtain ⟨u1, hcu1, hf⟩ := bnd_t hf
    refine x_calli hW (x_runV C hW hl (wk9 (k_125)) rfl rfl (c_X11_hasFailed hcu1) (cw_X11_125) ci_X11_hasFailed cs_X11_hasFailed (rm_ok (by decide) (by decide)) ⟨Nat.le_refl _, Nat.le_refl _⟩ (As := []) rfl rfl (Nat.le_of_ble_eq_true rfl) dX11_must_5) (fun H locs hW => ?_)
    refine x_ifeq (tgt := 12) C hf dX11_must_8 (by decide) (fun hf => ?_) (fun hf => ?_)
    · refine lv_aload_n C.1 C.2.1 dX11_must_12 rfl (lv_at hl 0 rfl) ?_
      refine lv_aload_n C.1 C.2.1 dX11_must_13 rfl (lv_at hl 0 rfl) ?_
      refine xg_X11_133 C hW (k_125) dX11_must_14 ?_
      refine xp_X11_116 C hW (k_125) hf dX11_must_17 (fun g2 H locs hf hW => ?_)
      refine lv_aload_n C.1 C.2.1 dX11_must_20 rfl (lv_at hl 0 rfl) ?_
      refine lv_iload_n C.1 C.2.1 dX11_must_21 rfl (lv_at hl 2 rfl) ?_
      refine xp_X11_136 C hW (k_125) hf dX11_must_22 (fun g3 H locs hf hW => ?_)
      obtain rfl := Option.some.inj hf
      exact x_vret C hW dX11_must_25 trivial
    · obtain rfl := Option.some.inj hf
      exact x_vret C hW dX11_must_11 trivial
set_option maxRecDepth 20000 in
set_option maxHeartbeats 1000000 in
theorem l_X11_letters_9 {l : Launch} {Z : ZT} {h : Hp} {g : Hp} {p : Program} {e : Env} {s : State} {m : MethodId} {args : Array Value} {below : List Frame} {meth : Method} {c : Code} (C : CX p s m args meth c cX11_letters RX11 2 (some .int) Z) {out : Int32 × Hp} : ∀ (n : Nat) (x1 : Int32) (ls : Array Slot) (H : Heap) (locs : List Loc), XW Z h g s.heap H locs → lv_has ls 2 [(0, .ref (Z.1 125)), (1, .int x1)] → Lp (F_X11_letters_9 g) n x1 = some out → W p l e (rmD 2) s m args below meth c H locs 0 0 (MQ below (va_Qi (fun r (_ : Unit) => r = out.1) (fun _ => Wd Z h out.2) (FR Z)) args s 0 0 (FR Z)) (F0 m 9 ls []) := by
  intro n
  induction n with
  | zero => intro x1 ls H locs hW hl hf; cases hf
  | succ n ih =>
    intro x1 ls H locs hW hl hf
    rw [Lp_s] at hf
    refine lv_iload_n C.1 C.2.1 dX11_letters_9 rfl (lv_at hl 1 rfl) ?_
    refine lv_aload_n C.1 C.2.1 dX11_letters_10 rfl (lv_at hl 0 rfl) ?_
    refine xg_X11_122 C hW (k_125) dX11_letters_11 ?_
    refine x_cmpge (tgt := 45) C hf dX11_letters_14 (by decide) (fun hf => ?_) (fun hf => ?_)
    · refine lv_iload_n C.1 C.2.1 dX11_letters_45 rfl (lv_at hl 1 rfl) ?_
      refine lv_aload_n C.1 C.2.1 dX11_letters_46 rfl (lv_at hl 0 rfl) ?_
      refine xg_X11_119 C hW (k_125) dX11_letters_47 ?_
      refine lv_isub C.1 C.2.1 dX11_letters_50 ?_
      obtain rfl := Option.some.inj hf
      exact x_iret C hW dX11_letters_51 rfl
    · refine lv_aload_n C.1 C.2.1 dX11_letters_17 rfl (lv_at hl 0 rfl) ?_
      refine xg_X11_47 C hW (k_125) dX11_letters_18 ?_
      refine lv_iload_n C.1 C.2.1 dX11_letters_21 rfl (lv_at hl 1 rfl) ?_
      refine x_baldM C hW a_137 hf dX11_letters_22 (fun hf => ?_)
      refine lv_bipush (v := 97) C.1 C.2.1 dX11_letters_23 (by decide) ?_
      refine x_cmplt (tgt := 45) C hf dX11_letters_25 (by decide) (fun hf => ?_) (fun hf => ?_)
      · refine lv_iload_n C.1 C.2.1 dX11_letters_45 rfl (lv_at hl 1 rfl) ?_
        refine lv_aload_n C.1 C.2.1 dX11_letters_46 rfl (lv_at hl 0 rfl) ?_
        refine xg_X11_119 C hW (k_125) dX11_letters_47 ?_
        refine lv_isub C.1 C.2.1 dX11_letters_50 ?_
        obtain rfl := Option.some.inj hf
        exact x_iret C hW dX11_letters_51 rfl
      · refine lv_aload_n C.1 C.2.1 dX11_letters_28 rfl (lv_at hl 0 rfl) ?_
        refine xg_X11_47 C hW (k_125) dX11_letters_29 ?_
        refine lv_iload_n C.1 C.2.1 dX11_letters_32 rfl (lv_at hl 1 rfl) ?_
        refine x_baldM C hW a_137 hf dX11_letters_33 (fun hf => ?_)
        refine lv_bipush (v := 122) C.1 C.2.1 dX11_letters_34 (by decide) ?_
        refine x_cmpgt (tgt := 45) C hf dX11_letters_36 (by decide) (fun hf => ?_) (fun hf => ?_)
        · refine lv_iload_n C.1 C.2.1 dX11_letters_45 rfl (lv_at hl 1 rfl) ?_
          refine lv_aload_n C.1 C.2.1 dX11_letters_46 rfl (lv_at hl 0 rfl) ?_
          refine xg_X11_119 C hW (k_125) dX11_letters_47 ?_
          refine lv_isub C.1 C.2.1 dX11_letters_50 ?_
          obtain rfl := Option.some.inj hf
          exact x_iret C hW dX11_letters_51 rfl
        · refine x_iinc (w := 1) C hf dX11_letters_39 hl (k := 1) rfl (by decide) (by decide) (fun v1 => [(1, .int v1), (0, .ref (Z.1 125))]) (fun _ => rfl) (fun v1 ls hf hl => ?_)
          refine lv_goto (tgt := 9) C.1 C.2.1 dX11_letters_42 (by decide) ?_
          exact ih v1 ls _ _ hW (lv_sub hl [1, 0] rfl) hf
set_option maxRecDepth 20000 in
set_option maxHeartbeats 1000000 in
theorem c_X11_letters {l : Launch} {Z : ZT} {h : Hp} {g : Hp} {out : Int32 × Hp} (hf : f_X11_letters g = some out) : Met l yX11_letters (wY yX11_letters cX11_letters 2 (some .int)) (rmD 2) (va_Pc [.ref (Z.1 125)] (Wd Z h g)) (va_Qi (fun r (_ : Unit) => r = out.1) (fun _ => Wd Z h out.2) (FR Z)) 0 0 (FR Z) := by
  refine metX RX11 rfl (by decide +kernel) (Nat.le_of_ble_eq_true rfl) ?_
  intro p e s m args below meth c C hW ls hl
  have hl : lv_has ls 2 [(0, .ref (Z.1 125))] := hl
  unfold f_X11_letters at hf
  refine lv_aload_n C.1 C.2.1 dX11_letters_0 rfl (lv_at hl 0 rfl) ?_
  obtain ⟨u2, hcu2, hf⟩ := bnd_t hf
  refine x_callv hW (x_runV C hW hl (wk9 (k_125)) rfl rfl (c_X11_blanks hcu2) (cw_X11_139) ci_X11_blanks cs_X11_blanks (rm_ok (by decide) (by decide)) ⟨Nat.le_refl _, Nat.le_refl _⟩ (As := []) rfl rfl (Nat.le_of_ble_eq_true rfl) dX11_letters_1) (fun H locs hW => ?_)
  refine lv_aload_n C.1 C.2.1 dX11_letters_4 rfl (lv_at hl 0 rfl) ?_
  refine xg_X11_119 C hW (k_125) dX11_letters_5 ?_
  refine x_istn C hf dX11_letters_8 rfl hl (by decide) (fun v3 => [(1, .int v3), (0, .ref (Z.1 125))]) (fun _ => rfl) (fun v3 ls hf hl => ?_)
  exact l_X11_letters_9 C FU v3 ls _ _ hW (lv_sub hl [1, 0] rfl) hf
set_option maxRecDepth 20000 in
set_option maxHeartbeats 1000000 in
theorem j_X11_isWord_62 {l : Launch} {Z : ZT} {h : Hp} {p1 : Nat} {g : Hp} {r26 : Int32 × Int32 → Option (Int32 × Hp)} {x3 : Int32} {s0 : Int32} (hk_p1 : p1 < NS) {p : Program} {e : Env} {s : State} {m : MethodId} {args : Array Value} {below : List Frame} {meth : Method} {c : Code} (C : CX p s m args meth c cX11_isWord RX11 4 (some .boolean) Z) {out : Int32 × Hp} (hr26 : ∀ (x2 : Int32) (x3 : Int32) (ls : Array Slot) (H : Heap) (locs : List Loc), XW Z h g s.heap H locs → lv_has ls 4 [(0, .ref (Z.1 125)), (1, .ref (Z.2.2.2.2 (2 * p1))), (2, .int x2), (3, .int x3)] → r26 (x2, x3) = some out → W p l e (rmD 8) s m args below meth c H locs 0 0 (MQ below (va_Qi (fun r (_ : Unit) => r = out.1) (fun _ => Wd Z h out.2) (FR Z)) args s 0 0 (FR Z)) (F0 m 26 ls [])) {ls : Array Slot} {H : Heap} {locs : List Loc} (hW : XW Z h g s.heap H locs) (hl : lv_has ls 4 [(0, .ref (Z.1 125)), (1, .ref (Z.2.2.2.2 (2 * p1))), (3, .int x3)]) (hf : J_X11_isWord_62 p1 g r26 x3 s0 = some out) : W p l e (rmD 8) s m args below meth c H locs 0 0 (MQ below (va_Qi (fun r (_ : Unit) => r = out.1) (fun _ => Wd Z h out.2) (FR Z)) args s 0 0 (FR Z)) (F0 m 62 ls [.int s0]) := by
  rw [J_X11_isWord_62] at hf
  refine lv_istore_n (lv' := [(2, .int s0), (0, .ref (Z.1 125)), (1, .ref (Z.2.2.2.2 (2 * p1))), (3, .int x3)]) C.1 C.2.1 dX11_isWord_62 rfl hl (by decide) rfl (fun ls hl => ?_)
  refine x_iinc (w := 1) C hf dX11_isWord_63 hl (k := 3) rfl (by decide) (by decide) (fun v1 => [(3, .int v1), (2, .int s0), (0, .ref (Z.1 125)), (1, .ref (Z.2.2.2.2 (2 * p1)))]) (fun _ => rfl) (fun v1 ls hf hl => ?_)
  refine lv_goto (tgt := 26) C.1 C.2.1 dX11_isWord_66 (by decide) ?_
  exact hr26 s0 v1 ls _ _ hW (lv_sub hl [2, 3, 1, 0] rfl) hf
set_option maxRecDepth 20000 in
set_option maxHeartbeats 1000000 in
theorem l_X11_isWord_26 {l : Launch} {Z : ZT} {h : Hp} {p1 : Nat} {g : Hp} (hk_p1 : p1 < NS) {p : Program} {e : Env} {s : State} {m : MethodId} {args : Array Value} {below : List Frame} {meth : Method} {c : Code} (C : CX p s m args meth c cX11_isWord RX11 4 (some .boolean) Z) {out : Int32 × Hp} : ∀ (n : Nat) (x2 : Int32) (x3 : Int32) (ls : Array Slot) (H : Heap) (locs : List Loc), XW Z h g s.heap H locs → lv_has ls 4 [(0, .ref (Z.1 125)), (1, .ref (Z.2.2.2.2 (2 * p1))), (2, .int x2), (3, .int x3)] → Lp (F_X11_isWord_26 p1 g) n (x2, x3) = some out → W p l e (rmD 8) s m args below meth c H locs 0 0 (MQ below (va_Qi (fun r (_ : Unit) => r = out.1) (fun _ => Wd Z h out.2) (FR Z)) args s 0 0 (FR Z)) (F0 m 26 ls []) := by
  intro n
  induction n with
  | zero => intro x2 x3 ls H locs hW hl hf; cases hf
  | succ n ih =>
    intro x2 x3 ls H locs hW hl hf
    rw [Lp_s] at hf
    refine lv_iload_n C.1 C.2.1 dX11_isWord_26 rfl (lv_at hl 2 rfl) ?_
    refine x_ifeq (tgt := 69) C hf dX11_isWord_27 (by decide) (fun hf => ?_) (fun hf => ?_)
    · refine lv_iload_n C.1 C.2.1 dX11_isWord_69 rfl (lv_at hl 2 rfl) ?_
      obtain ⟨hz, hf⟩ := ck_t hf
      obtain rfl := Option.some.inj hf
      exact x_zret C hW hz dX11_isWord_70 rfl
    · refine lv_iload_n C.1 C.2.1 dX11_isWord_30 rfl (lv_at hl 3 rfl) ?_
      refine lv_aload_n C.1 C.2.1 dX11_isWord_31 rfl (lv_at hl 1 rfl) ?_
      refine x_calli hW (x_runT C hW hl hk_p1 rfl (c_length hk_p1) cw_X11_145 tin_length tse_length (rm_ok (by decide) (by decide)) ⟨Nat.le_refl _, Nat.le_refl _⟩ (As := []) rfl rfl (Nat.le_of_ble_eq_true rfl) dX11_isWord_32) (fun H locs hW => ?_)
      refine x_cmpge (tgt := 69) C hf dX11_isWord_35 (by decide) (fun hf => ?_) (fun hf => ?_)
      · refine lv_iload_n C.1 C.2.1 dX11_isWord_69 rfl (lv_at hl 2 rfl) ?_
        obtain ⟨hz, hf⟩ := ck_t hf
        obtain rfl := Option.some.inj hf
        exact x_zret C hW hz dX11_isWord_70 rfl
      · refine lv_aload_n C.1 C.2.1 dX11_isWord_38 rfl (lv_at hl 0 rfl) ?_
        refine xg_X11_47 C hW (k_125) dX11_isWord_39 ?_
        refine lv_aload_n C.1 C.2.1 dX11_isWord_42 rfl (lv_at hl 0 rfl) ?_
        refine xg_X11_119 C hW (k_125) dX11_isWord_43 ?_
        refine lv_iload_n C.1 C.2.1 dX11_isWord_46 rfl (lv_at hl 3 rfl) ?_
        refine lv_iadd C.1 C.2.1 dX11_isWord_47 ?_
        refine x_baldM C hW a_137 hf dX11_isWord_48 (fun hf => ?_)
        refine lv_aload_n C.1 C.2.1 dX11_isWord_49 rfl (lv_at hl 1 rfl) ?_
        refine lv_iload_n C.1 C.2.1 dX11_isWord_50 rfl (lv_at hl 3 rfl) ?_
        obtain ⟨hx, hf⟩ := ck_t hf
        refine x_calli hW (x_runT C hW hl hk_p1 rfl (c_charAtX hk_p1 hx) cw_X11_150 tin_charAt tse_charAt (rm_ok (by decide) (by decide)) ⟨Nat.le_refl _, Nat.le_refl _⟩ (As := [.int x3]) rfl rfl (Nat.le_of_ble_eq_true rfl) dX11_isWord_51) (fun H locs hW => ?_)
        refine x_cmpne (tgt := 61) C hf dX11_isWord_54 (by decide) (fun hf => ?_) (fun hf => ?_)
        · refine lv_iconst (v := 0) C.1 C.2.1 dX11_isWord_61 (by decide) ?_
          exact j_X11_isWord_62 hk_p1 C (fun z0 z1 => ih z0 z1) hW (lv_sub hl [0, 1, 3] rfl) hf
        · refine lv_iconst (v := 1) C.1 C.2.1 dX11_isWord_57 (by decide) ?_
          refine lv_goto (tgt := 62) C.1 C.2.1 dX11_isWord_58 (by decide) ?_
          exact j_X11_isWord_62 hk_p1 C (fun z0 z1 => ih z0 z1) hW (lv_sub hl [0, 1, 3] rfl) hf
set_option maxRecDepth 20000 in
set_option maxHeartbeats 1000000 in
theorem j_X11_isWord_23 {l : Launch} {Z : ZT} {h : Hp} {p1 : Nat} {g : Hp} {s0 : Int32} (hk_p1 : p1 < NS) {p : Program} {e : Env} {s : State} {m : MethodId} {args : Array Value} {below : List Frame} {meth : Method} {c : Code} (C : CX p s m args meth c cX11_isWord RX11 4 (some .boolean) Z) {out : Int32 × Hp} {ls : Array Slot} {H : Heap} {locs : List Loc} (hW : XW Z h g s.heap H locs) (hl : lv_has ls 4 [(0, .ref (Z.1 125)), (1, .ref (Z.2.2.2.2 (2 * p1)))]) (hf : J_X11_isWord_23 p1 g s0 = some out) : W p l e (rmD 8) s m args below meth c H locs 0 0 (MQ below (va_Qi (fun r (_ : Unit) => r = out.1) (fun _ => Wd Z h out.2) (FR Z)) args s 0 0 (FR Z)) (F0 m 23 ls [.int s0]) := by
  refine lv_istore_n (lv' := [(2, .int s0), (0, .ref (Z.1 125)), (1, .ref (Z.2.2.2.2 (2 * p1)))]) C.1 C.2.1 dX11_isWord_23 rfl hl (by decide) rfl (fun ls hl => ?_)
  refine lv_iconst (v := 0) C.1 C.2.1 dX11_isWord_24 (by decide) ?_
  refine lv_istore_n (lv' := [(3, .int (0 : Int32)), (2, .int s0), (0, .ref (Z.1 125)), (1, .ref (Z.2.2.2.2 (2 * p1)))]) C.1 C.2.1 dX11_isWord_25 rfl hl (by decide) rfl (fun ls hl => ?_)
  exact l_X11_isWord_26 hk_p1 C FU s0 (0 : Int32) ls _ _ hW (lv_sub hl [2, 3, 1, 0] rfl) hf
set_option maxRecDepth 20000 in
set_option maxHeartbeats 1000000 in
theorem j_X11_isWord_22 {l : Launch} {Z : ZT} {h : Hp} {p1 : Nat} {g : Hp} (hk_p1 : p1 < NS) {p : Program} {e : Env} {s : State} {m : MethodId} {args : Array Value} {below : List Frame} {meth : Method} {c : Code} (C : CX p s m args meth c cX11_isWord RX11 4 (some .boolean) Z) {out : Int32 × Hp} {ls : Array Slot} {H : Heap} {locs : List Loc} (hW : XW Z h g s.heap H locs) (hl : lv_has ls 4 [(0, .ref (Z.1 125)), (1, .ref (Z.2.2.2.2 (2 * p1)))]) (hf : J_X11_isWord_22 p1 g = some out) : W p l e (rmD 8) s m args below meth c H locs 0 0 (MQ below (va_Qi (fun r (_ : Unit) => r = out.1) (fun _ => Wd Z h out.2) (FR Z)) args s 0 0 (FR Z)) (F0 m 22 ls []) := by
  refine lv_iconst (v := 0) C.1 C.2.1 dX11_isWord_22 (by decide) ?_
  exact j_X11_isWord_23 hk_p1 C hW (lv_sub hl [0, 1] rfl) hf
set_option maxRecDepth 20000 in
set_option maxHeartbeats 1000000 in
theorem c_X11_isWord {l : Launch} {Z : ZT} {h : Hp} {g : Hp} {p1 : Nat} (hk_p1 : p1 < NS) {out : Int32 × Hp} (hf : f_X11_isWord g p1 = some out) : Met l yX11_isWord (wY yX11_isWord cX11_isWord 4 (some .boolean)) (rmD 8) (va_Pc [.ref (Z.1 125), .ref (Z.2.2.2.2 (2 * p1))] (Wd Z h g)) (va_Qi (fun r (_ : Unit) => r = out.1) (fun _ => Wd Z h out.2) (FR Z)) 0 0 (FR Z) := by
  refine metX RX11 rfl (by decide +kernel) (Nat.le_of_ble_eq_true rfl) ?_
  intro p e s m args below meth c C hW ls hl
  have hl : lv_has ls 4 [(0, .ref (Z.1 125)), (1, .ref (Z.2.2.2.2 (2 * p1)))] := hl
  unfold f_X11_isWord at hf
  refine lv_aload_n C.1 C.2.1 dX11_isWord_0 rfl (lv_at hl 0 rfl) ?_
  obtain ⟨u2, hcu2, hf⟩ := bnd_t hf
  refine x_calli hW (x_runV C hW hl (wk9 (k_125)) rfl rfl (c_X11_hasFailed hcu2) (cw_X11_125) ci_X11_hasFailed cs_X11_hasFailed (rm_ok (by decide) (by decide)) ⟨Nat.le_refl _, Nat.le_refl _⟩ (As := []) rfl rfl (Nat.le_of_ble_eq_true rfl) dX11_isWord_1) (fun H locs hW => ?_)
  refine x_ifne (tgt := 22) C hf dX11_isWord_4 (by decide) (fun hf => ?_) (fun hf => ?_)
  · exact j_X11_isWord_22 hk_p1 C hW (lv_sub hl [0, 1] rfl) hf
  · refine lv_aload_n C.1 C.2.1 dX11_isWord_7 rfl (lv_at hl 0 rfl) ?_
    obtain ⟨u3, hcu3, hf⟩ := bnd_t hf
    refine x_calli hW (x_runV C hW hl (wk9 (k_125)) rfl rfl (c_X11_letters hcu3) (cw_X11_142) ci_X11_letters cs_X11_letters (rm_ok (by decide) (by decide)) ⟨Nat.le_refl _, Nat.le_refl _⟩ (As := []) rfl rfl (Nat.le_of_ble_eq_true rfl) dX11_isWord_8) (fun H locs hW => ?_)
    refine lv_aload_n C.1 C.2.1 dX11_isWord_11 rfl (lv_at hl 1 rfl) ?_
    refine x_calli hW (x_runT C hW hl hk_p1 rfl (c_length hk_p1) cw_X11_145 tin_length tse_length (rm_ok (by decide) (by decide)) ⟨Nat.le_refl _, Nat.le_refl _⟩ (As := []) rfl rfl (Nat.le_of_ble_eq_true rfl) dX11_isWord_12) (fun H locs hW => ?_)
    refine x_cmpne (tgt := 22) C hf dX11_isWord_15 (by decide) (fun hf => ?_) (fun hf => ?_)
    · exact j_X11_isWord_22 hk_p1 C hW (lv_sub hl [0, 1] rfl) hf
    · refine lv_iconst (v := 1) C.1 C.2.1 dX11_isWord_18 (by decide) ?_
      refine lv_goto (tgt := 23) C.1 C.2.1 dX11_isWord_19 (by decide) ?_
      exact j_X11_isWord_23 hk_p1 C hW (lv_sub hl [0, 1] rfl) hf
set_option maxRecDepth 20000 in
set_option maxHeartbeats 1000000 in
theorem c_X11_takes {l : Launch} {Z : ZT} {h : Hp} {g : Hp} {p1 : Nat} (hk_p1 : p1 < NS) {out : Int32 × Hp} (hf : f_X11_takes g p1 = some out) : Met l yX11_takes (wY yX11_takes cX11_takes 3 (some .boolean)) (rmD 9) (va_Pc [.ref (Z.1 125), .ref (Z.2.2.2.2 (2 * p1))] (Wd Z h g)) (va_Qi (fun r (_ : Unit) => r = out.1) (fun _ => Wd Z h out.2) (FR Z)) 0 0 (FR Z) := by
  refine metX RX11 rfl (by decide +kernel) (Nat.le_of_ble_eq_true rfl) ?_
  intro p e s m args below meth c C hW ls hl
  have hl : lv_has ls 3 [(0, .ref (Z.1 125)), (1, .ref (Z.2.2.2.2 (2 * p1)))] := hl
  unfold f_X11_takes at hf
  refine lv_aload_n C.1 C.2.1 dX11_takes_0 rfl (lv_at hl 0 rfl) ?_
  refine lv_aload_n C.1 C.2.1 dX11_takes_1 rfl (lv_at hl 1 rfl) ?_
  obtain ⟨u1, hcu1, hf⟩ := bnd_t hf
  refine x_calli hW (x_runV C hW hl (wk9 (k_125)) rfl rfl (c_X11_isWord hk_p1 hcu1) (cw_X11_154) ci_X11_isWord cs_X11_isWord (rm_ok (by decide) (by decide)) ⟨Nat.le_refl _, Nat.le_refl _⟩ (As := [.ref (Z.2.2.2.2 (2 * p1))]) rfl rfl (Nat.le_of_ble_eq_true rfl) dX11_takes_2) (fun H locs hW => ?_)
  refine lv_istore_n (lv' := [(2, .int u1.1), (0, .ref (Z.1 125)), (1, .ref (Z.2.2.2.2 (2 * p1)))]) C.1 C.2.1 dX11_takes_5 rfl hl (by decide) rfl (fun ls hl => ?_)
  refine lv_iload_n C.1 C.2.1 dX11_takes_6 rfl (lv_at hl 0 rfl) ?_
  refine x_ifeq (tgt := 23) C hf dX11_takes_7 (by decide) (fun hf => ?_) (fun hf => ?_)
  · refine lv_iload_n C.1 C.2.1 dX11_takes_23 rfl (lv_at hl 0 rfl) ?_
    obtain ⟨hz, hf⟩ := ck_t hf
    obtain rfl := Option.some.inj hf
    exact x_zret C hW hz dX11_takes_24 rfl
  · refine lv_aload_n C.1 C.2.1 dX11_takes_10 rfl (lv_at hl 1 rfl) ?_
    refine lv_dup C.1 C.2.1 dX11_takes_11 rfl ?_
    refine xg_X11_119 C hW (k_125) dX11_takes_12 ?_
    refine lv_aload_n C.1 C.2.1 dX11_takes_15 rfl (lv_at hl 2 rfl) ?_
    refine x_calli hW (x_runT C hW hl hk_p1 rfl (c_length hk_p1) cw_X11_145 tin_length tse_length (rm_ok (by decide) (by decide)) ⟨Nat.le_refl _, Nat.le_refl _⟩ (As := []) rfl rfl (Nat.le_of_ble_eq_true rfl) dX11_takes_16) (fun H locs hW => ?_)
    refine lv_iadd C.1 C.2.1 dX11_takes_19 ?_
    refine xp_X11_119 C hW (k_125) hf dX11_takes_20 (fun g2 H locs hf hW => ?_)
    refine lv_iload_n C.1 C.2.1 dX11_takes_23 rfl (lv_at hl 0 rfl) ?_
    obtain ⟨hz, hf⟩ := ck_t hf
    obtain rfl := Option.some.inj hf
    exact x_zret C hW hz dX11_takes_24 rfl
set_option maxRecDepth 20000 in
set_option maxHeartbeats 1000000 in
theorem j_X11_takesSign_25 {l : Launch} {Z : ZT} {h : Hp} {p1 : Int32} {g : Hp} {s0 : Int32} {p : Program} {e : Env} {s : State} {m : MethodId} {args : Array Value} {below : List Frame} {meth : Method} {c : Code} (C : CX p s m args meth c cX11_takesSign RX11 3 (some .boolean) Z) {out : Int32 × Hp} {ls : Array Slot} {H : Heap} {locs : List Loc} (hW : XW Z h g s.heap H locs) (hl : lv_has ls 3 [(0, .ref (Z.1 125)), (1, .int p1)]) (hf : J_X11_takesSign_25 p1 g s0 = some out) : W p l e (rmD 2) s m args below meth c H locs 0 0 (MQ below (va_Qi (fun r (_ : Unit) => r = out.1) (fun _ => Wd Z h out.2) (FR Z)) args s 0 0 (FR Z)) (F0 m 25 ls [.int s0]) := by
  refine lv_istore_n (lv' := [(2, .int s0), (0, .ref (Z.1 125)), (1, .int p1)]) C.1 C.2.1 dX11_takesSign_25 rfl hl (by decide) rfl (fun ls hl => ?_)
  refine lv_iload_n C.1 C.2.1 dX11_takesSign_26 rfl (lv_at hl 0 rfl) ?_
  refine x_ifeq (tgt := 40) C hf dX11_takesSign_27 (by decide) (fun hf => ?_) (fun hf => ?_)
  · refine lv_iload_n C.1 C.2.1 dX11_takesSign_40 rfl (lv_at hl 0 rfl) ?_
    obtain ⟨hz, hf⟩ := ck_t hf
    obtain rfl := Option.some.inj hf
    exact x_zret C hW hz dX11_takesSign_41 rfl
  · refine lv_aload_n C.1 C.2.1 dX11_takesSign_30 rfl (lv_at hl 1 rfl) ?_
    refine lv_dup C.1 C.2.1 dX11_takesSign_31 rfl ?_
    refine xg_X11_119 C hW (k_125) dX11_takesSign_32 ?_
    refine lv_iconst (v := 1) C.1 C.2.1 dX11_takesSign_35 (by decide) ?_
    refine lv_iadd C.1 C.2.1 dX11_takesSign_36 ?_
    refine xp_X11_119 C hW (k_125) hf dX11_takesSign_37 (fun g1 H locs hf hW => ?_)
    refine lv_iload_n C.1 C.2.1 dX11_takesSign_40 rfl (lv_at hl 0 rfl) ?_
    obtain ⟨hz, hf⟩ := ck_t hf
    obtain rfl := Option.some.inj hf
    exact x_zret C hW hz dX11_takesSign_41 rfl
set_option maxRecDepth 20000 in
set_option maxHeartbeats 1000000 in
theorem j_X11_takesSign_24 {l : Launch} {Z : ZT} {h : Hp} {p1 : Int32} {g : Hp} {p : Program} {e : Env} {s : State} {m : MethodId} {args : Array Value} {below : List Frame} {meth : Method} {c : Code} (C : CX p s m args meth c cX11_takesSign RX11 3 (some .boolean) Z) {out : Int32 × Hp} {ls : Array Slot} {H : Heap} {locs : List Loc} (hW : XW Z h g s.heap H locs) (hl : lv_has ls 3 [(0, .ref (Z.1 125)), (1, .int p1)]) (hf : J_X11_takesSign_24 p1 g = some out) : W p l e (rmD 2) s m args below meth c H locs 0 0 (MQ below (va_Qi (fun r (_ : Unit) => r = out.1) (fun _ => Wd Z h out.2) (FR Z)) args s 0 0 (FR Z)) (F0 m 24 ls []) := by
  refine lv_iconst (v := 0) C.1 C.2.1 dX11_takesSign_24 (by decide) ?_
  exact j_X11_takesSign_25 C hW (lv_sub hl [0, 1] rfl) hf
set_option maxRecDepth 20000 in
set_option maxHeartbeats 1000000 in
theorem c_X11_takesSign {l : Launch} {Z : ZT} {h : Hp} {g : Hp} {p1 : Int32} {out : Int32 × Hp} (hf : f_X11_takesSign g p1 = some out) : Met l yX11_takesSign (wY yX11_takesSign cX11_takesSign 3 (some .boolean)) (rmD 2) (va_Pc [.ref (Z.1 125), .int p1] (Wd Z h g)) (va_Qi (fun r (_ : Unit) => r = out.1) (fun _ => Wd Z h out.2) (FR Z)) 0 0 (FR Z) := by
  refine metX RX11 rfl (by decide +kernel) (Nat.le_of_ble_eq_true rfl) ?_
  intro p e s m args below meth c C hW ls hl
  have hl : lv_has ls 3 [(0, .ref (Z.1 125)), (1, .int p1)] := hl
  unfold f_X11_takesSign at hf
  refine lv_aload_n C.1 C.2.1 dX11_takesSign_0 rfl (lv_at hl 0 rfl) ?_
  obtain ⟨u2, hcu2, hf⟩ := bnd_t hf
  refine x_callv hW (x_runV C hW hl (wk9 (k_125)) rfl rfl (c_X11_blanks hcu2) (cw_X11_139) ci_X11_blanks cs_X11_blanks (rm_ok (by decide) (by decide)) ⟨Nat.le_refl _, Nat.le_refl _⟩ (As := []) rfl rfl (Nat.le_of_ble_eq_true rfl) dX11_takesSign_1) (fun H locs hW => ?_)
  refine lv_aload_n C.1 C.2.1 dX11_takesSign_4 rfl (lv_at hl 0 rfl) ?_
  obtain ⟨u3, hcu3, hf⟩ := bnd_t hf
  refine x_calli hW (x_runV C hW hl (wk9 (k_125)) rfl rfl (c_X11_hasFailed hcu3) (cw_X11_125) ci_X11_hasFailed cs_X11_hasFailed (rm_ok (by decide) (by decide)) ⟨Nat.le_refl _, Nat.le_refl _⟩ (As := []) rfl rfl (Nat.le_of_ble_eq_true rfl) dX11_takesSign_5) (fun H locs hW => ?_)
  refine x_ifne (tgt := 24) C hf dX11_takesSign_8 (by decide) (fun hf => ?_) (fun hf => ?_)
  · exact j_X11_takesSign_24 C hW (lv_sub hl [0, 1] rfl) hf
  · refine lv_aload_n C.1 C.2.1 dX11_takesSign_11 rfl (lv_at hl 0 rfl) ?_
    refine lv_iload_n C.1 C.2.1 dX11_takesSign_12 rfl (lv_at hl 1 rfl) ?_
    refine lv_iload_n C.1 C.2.1 dX11_takesSign_13 rfl (lv_at hl 1 rfl) ?_
    obtain ⟨u4, hcu4, hf⟩ := bnd_t hf
    refine x_calli hW (x_runV C hW hl (wk9 (k_125)) rfl rfl (c_X11_isAt hcu4) (cw_X11_129) ci_X11_isAt cs_X11_isAt (rm_ok (by decide) (by decide)) ⟨Nat.le_refl _, Nat.le_refl _⟩ (As := [.int p1, .int p1]) rfl rfl (Nat.le_of_ble_eq_true rfl) dX11_takesSign_14) (fun H locs hW => ?_)
    refine x_ifeq (tgt := 24) C hf dX11_takesSign_17 (by decide) (fun hf => ?_) (fun hf => ?_)
    · exact j_X11_takesSign_24 C hW (lv_sub hl [0, 1] rfl) hf
    · refine lv_iconst (v := 1) C.1 C.2.1 dX11_takesSign_20 (by decide) ?_
      refine lv_goto (tgt := 25) C.1 C.2.1 dX11_takesSign_21 (by decide) ?_
      exact j_X11_takesSign_25 C hW (lv_sub hl [0, 1] rfl) hf
set_option maxRecDepth 20000 in
set_option maxHeartbeats 1000000 in
theorem c_X11_needs {l : Launch} {Z : ZT} {h : Hp} {g : Hp} {p1 : Int32} {out : Hp} (hf : f_X11_needs g p1 = some out) : Met l yX11_needs (wY yX11_needs cX11_needs 3 none) (rmD 3) (va_Pc [.ref (Z.1 125), .int p1] (Wd Z h g)) (va_Qv (fun (_ : Unit) => True) (fun _ => Wd Z h out) (FR Z)) 0 0 (FR Z) := by
  refine metX RX11 rfl (by decide +kernel) (Nat.le_of_ble_eq_true rfl) ?_
  intro p e s m args below meth c C hW ls hl
  have hl : lv_has ls 3 [(0, .ref (Z.1 125)), (1, .int p1)] := hl
  unfold f_X11_needs at hf
  refine lv_aload_n C.1 C.2.1 dX11_needs_0 rfl (lv_at hl 0 rfl) ?_
  refine lv_iload_n C.1 C.2.1 dX11_needs_1 rfl (lv_at hl 1 rfl) ?_
  obtain ⟨u1, hcu1, hf⟩ := bnd_t hf
  refine x_calli hW (x_runV C hW hl (wk9 (k_125)) rfl rfl (c_X11_takesSign hcu1) (cw_X11_158) ci_X11_takesSign cs_X11_takesSign (rm_ok (by decide) (by decide)) ⟨Nat.le_refl _, Nat.le_refl _⟩ (As := [.int p1]) rfl rfl (Nat.le_of_ble_eq_true rfl) dX11_needs_2) (fun H locs hW => ?_)
  refine lv_istore_n (lv' := [(2, .int u1.1), (0, .ref (Z.1 125)), (1, .int p1)]) C.1 C.2.1 dX11_needs_5 rfl hl (by decide) rfl (fun ls hl => ?_)
  refine lv_aload_n C.1 C.2.1 dX11_needs_6 rfl (lv_at hl 1 rfl) ?_
  refine lv_iload_n C.1 C.2.1 dX11_needs_7 rfl (lv_at hl 0 rfl) ?_
  refine lv_iconst (v := 1) C.1 C.2.1 dX11_needs_8 (by decide) ?_
  obtain ⟨u2, hcu2, hf⟩ := bnd_t hf
  refine x_callv hW (x_runV C hW hl (wk9 (k_125)) rfl rfl (c_X11_must hcu2) (cw_X11_162) ci_X11_must cs_X11_must (rm_ok (by decide) (by decide)) ⟨Nat.le_refl _, Nat.le_refl _⟩ (As := [.int u1.1, .int (1 : Int32)]) rfl rfl (Nat.le_of_ble_eq_true rfl) dX11_needs_9) (fun H locs hW => ?_)
  obtain rfl := Option.some.inj hf
  exact x_vret C hW dX11_needs_12 trivial
set_option maxRecDepth 20000 in
set_option maxHeartbeats 1000000 in
theorem j_X11_number_111 {l : Launch} {Z : ZT} {h : Hp} {p1 : Int32} {p2 : Int32} {g : Hp} {x3 : Int32} {s1 : Int32} {p : Program} {e : Env} {s : State} {m : MethodId} {args : Array Value} {below : List Frame} {meth : Method} {c : Code} (C : CX p s m args meth c cX11_number RX11 4 (some .int) Z) {out : Int32 × Hp} {ls : Array Slot} {H : Heap} {locs : List Loc} (hW : XW Z h g s.heap H locs) (hl : lv_has ls 4 [(0, .ref (Z.1 125)), (1, .int p1), (2, .int p2), (3, .int x3)]) (hf : J_X11_number_111 p1 p2 g x3 s1 = some out) : W p l e (rmD 2) s m args below meth c H locs 0 0 (MQ below (va_Qi (fun r (_ : Unit) => r = out.1) (fun _ => Wd Z h out.2) (FR Z)) args s 0 0 (FR Z)) (F0 m 111 ls [.int s1, .ref (Z.1 125)]) := by
  rw [J_X11_number_111] at hf
  refine lv_iconst (v := 2) C.1 C.2.1 dX11_number_111 (by decide) ?_
  obtain ⟨u1, hcu1, hf⟩ := bnd_t hf
  refine x_callv hW (x_runV C hW hl (wk9 (k_125)) rfl rfl (c_X11_must hcu1) (cw_X11_162) ci_X11_must cs_X11_must (rm_ok (by decide) (by decide)) ⟨Nat.le_refl _, Nat.le_refl _⟩ (As := [.int s1, .int (2 : Int32)]) rfl rfl (Nat.le_of_ble_eq_true rfl) dX11_number_112) (fun H locs hW => ?_)
  refine lv_aload_n C.1 C.2.1 dX11_number_115 rfl (lv_at hl 0 rfl) ?_
  obtain ⟨u2, hcu2, hf⟩ := bnd_t hf
  refine x_calli hW (x_runV C hW hl (wk9 (k_125)) rfl rfl (c_X11_hasFailed hcu2) (cw_X11_125) ci_X11_hasFailed cs_X11_hasFailed (rm_ok (by decide) (by decide)) ⟨Nat.le_refl _, Nat.le_refl _⟩ (As := []) rfl rfl (Nat.le_of_ble_eq_true rfl) dX11_number_116) (fun H locs hW => ?_)
  refine x_ifeq (tgt := 126) C hf dX11_number_119 (by decide) (fun hf => ?_) (fun hf => ?_)
  · refine lv_iload_n C.1 C.2.1 dX11_number_126 rfl (lv_at hl 3 rfl) ?_
    obtain rfl := Option.some.inj hf
    exact x_iret C hW dX11_number_127 rfl
  · refine lv_iload_n C.1 C.2.1 dX11_number_122 rfl (lv_at hl 1 rfl) ?_
    refine lv_goto (tgt := 127) C.1 C.2.1 dX11_number_123 (by decide) ?_
    obtain rfl := Option.some.inj hf
    exact x_iret C hW dX11_number_127 rfl
set_option maxRecDepth 20000 in
set_option maxHeartbeats 1000000 in
theorem j_X11_number_110 {l : Launch} {Z : ZT} {h : Hp} {p1 : Int32} {p2 : Int32} {g : Hp} {x3 : Int32} {p : Program} {e : Env} {s : State} {m : MethodId} {args : Array Value} {below : List Frame} {meth : Method} {c : Code} (C : CX p s m args meth c cX11_number RX11 4 (some .int) Z) {out : Int32 × Hp} {ls : Array Slot} {H : Heap} {locs : List Loc} (hW : XW Z h g s.heap H locs) (hl : lv_has ls 4 [(0, .ref (Z.1 125)), (1, .int p1), (2, .int p2), (3, .int x3)]) (hf : J_X11_number_110 p1 p2 g x3 = some out) : W p l e (rmD 2) s m args below meth c H locs 0 0 (MQ below (va_Qi (fun r (_ : Unit) => r = out.1) (fun _ => Wd Z h out.2) (FR Z)) args s 0 0 (FR Z)) (F0 m 110 ls [.ref (Z.1 125)]) := by
  refine lv_iconst (v := 0) C.1 C.2.1 dX11_number_110 (by decide) ?_
  exact j_X11_number_111 C hW (lv_sub hl [0, 1, 2, 3] rfl) hf
set_option maxRecDepth 20000 in
set_option maxHeartbeats 1000000 in
theorem j_X11_number_83 {l : Launch} {Z : ZT} {h : Hp} {p1 : Int32} {p2 : Int32} {g : Hp} {x3 : Int32} {p : Program} {e : Env} {s : State} {m : MethodId} {args : Array Value} {below : List Frame} {meth : Method} {c : Code} (C : CX p s m args meth c cX11_number RX11 4 (some .int) Z) {out : Int32 × Hp} {ls : Array Slot} {H : Heap} {locs : List Loc} (hW : XW Z h g s.heap H locs) (hl : lv_has ls 4 [(0, .ref (Z.1 125)), (1, .int p1), (2, .int p2), (3, .int x3)]) (hf : J_X11_number_83 p1 p2 g x3 = some out) : W p l e (rmD 2) s m args below meth c H locs 0 0 (MQ below (va_Qi (fun r (_ : Unit) => r = out.1) (fun _ => Wd Z h out.2) (FR Z)) args s 0 0 (FR Z)) (F0 m 83 ls []) := by
  refine lv_aload_n C.1 C.2.1 dX11_number_83 rfl (lv_at hl 0 rfl) ?_
  refine lv_aload_n C.1 C.2.1 dX11_number_84 rfl (lv_at hl 0 rfl) ?_
  refine xg_X11_119 C hW (k_125) dX11_number_85 ?_
  refine lv_aload_n C.1 C.2.1 dX11_number_88 rfl (lv_at hl 0 rfl) ?_
  refine xg_X11_133 C hW (k_125) dX11_number_89 ?_
  refine lv_isub C.1 C.2.1 dX11_number_92 ?_
  refine lv_iconst (v := 5) C.1 C.2.1 dX11_number_93 (by decide) ?_
  refine x_cmpgt (tgt := 110) C hf dX11_number_94 (by decide) (fun hf => ?_) (fun hf => ?_)
  · exact j_X11_number_110 C hW (lv_sub hl [0, 1, 2, 3] rfl) hf
  · refine lv_iload_n C.1 C.2.1 dX11_number_97 rfl (lv_at hl 3 rfl) ?_
    refine lv_iload_n C.1 C.2.1 dX11_number_98 rfl (lv_at hl 1 rfl) ?_
    refine lv_iload_n C.1 C.2.1 dX11_number_99 rfl (lv_at hl 2 rfl) ?_
    obtain ⟨u3, hcu3, hf⟩ := bnd_t hf
    refine x_calli hW (x_runS C hW hl (c_X11_in hcu3) (cw_X11_166) ct_X11_in (rm_ok (by decide) (by decide)) ⟨Nat.le_refl _, Nat.le_refl _⟩ (As := [.int x3, .int p1, .int p2]) rfl rfl (Nat.le_of_ble_eq_true rfl) dX11_number_100) (fun H locs hW => ?_)
    refine x_ifeq (tgt := 110) C hf dX11_number_103 (by decide) (fun hf => ?_) (fun hf => ?_)
    · exact j_X11_number_110 C hW (lv_sub hl [0, 1, 2, 3] rfl) hf
    · refine lv_iconst (v := 1) C.1 C.2.1 dX11_number_106 (by decide) ?_
      refine lv_goto (tgt := 111) C.1 C.2.1 dX11_number_107 (by decide) ?_
      exact j_X11_number_111 C hW (lv_sub hl [0, 1, 2, 3] rfl) hf
set_option maxRecDepth 20000 in
set_option maxHeartbeats 1000000 in
theorem j_X11_number_70 {l : Launch} {Z : ZT} {h : Hp} {p1 : Int32} {p2 : Int32} {g : Hp} {r28 : Int32 × Hp → Option (Int32 × Hp)} {x3 : Int32} {p : Program} {e : Env} {s : State} {m : MethodId} {args : Array Value} {below : List Frame} {meth : Method} {c : Code} (C : CX p s m args meth c cX11_number RX11 4 (some .int) Z) {out : Int32 × Hp} (hr28 : ∀ (x3 : Int32) (g : Hp) (ls : Array Slot) (H : Heap) (locs : List Loc), XW Z h g s.heap H locs → lv_has ls 4 [(0, .ref (Z.1 125)), (1, .int p1), (2, .int p2), (3, .int x3)] → r28 (x3, g) = some out → W p l e (rmD 2) s m args below meth c H locs 0 0 (MQ below (va_Qi (fun r (_ : Unit) => r = out.1) (fun _ => Wd Z h out.2) (FR Z)) args s 0 0 (FR Z)) (F0 m 28 ls [])) {ls : Array Slot} {H : Heap} {locs : List Loc} (hW : XW Z h g s.heap H locs) (hl : lv_has ls 4 [(0, .ref (Z.1 125)), (1, .int p1), (2, .int p2), (3, .int x3)]) (hf : J_X11_number_70 p1 p2 g r28 x3 = some out) : W p l e (rmD 2) s m args below meth c H locs 0 0 (MQ below (va_Qi (fun r (_ : Unit) => r = out.1) (fun _ => Wd Z h out.2) (FR Z)) args s 0 0 (FR Z)) (F0 m 70 ls []) := by
  rw [J_X11_number_70] at hf
  refine lv_aload_n C.1 C.2.1 dX11_number_70 rfl (lv_at hl 0 rfl) ?_
  refine lv_dup C.1 C.2.1 dX11_number_71 rfl ?_
  refine xg_X11_119 C hW (k_125) dX11_number_72 ?_
  refine lv_iconst (v := 1) C.1 C.2.1 dX11_number_75 (by decide) ?_
  refine lv_iadd C.1 C.2.1 dX11_number_76 ?_
  refine xp_X11_119 C hW (k_125) hf dX11_number_77 (fun g4 H locs hf hW => ?_)
  refine lv_goto (tgt := 28) C.1 C.2.1 dX11_number_80 (by decide) ?_
  exact hr28 x3 g4 ls _ _ hW (lv_sub hl [0, 1, 2, 3] rfl) hf
set_option maxRecDepth 20000 in
set_option maxHeartbeats 1000000 in
theorem l_X11_number_28 {l : Launch} {Z : ZT} {h : Hp} {p1 : Int32} {p2 : Int32} {p : Program} {e : Env} {s : State} {m : MethodId} {args : Array Value} {below : List Frame} {meth : Method} {c : Code} (C : CX p s m args meth c cX11_number RX11 4 (some .int) Z) {out : Int32 × Hp} : ∀ (n : Nat) (x3 : Int32) (g : Hp) (ls : Array Slot) (H : Heap) (locs : List Loc), XW Z h g s.heap H locs → lv_has ls 4 [(0, .ref (Z.1 125)), (1, .int p1), (2, .int p2), (3, .int x3)] → Lp (F_X11_number_28 p1 p2) n (x3, g) = some out → W p l e (rmD 2) s m args below meth c H locs 0 0 (MQ below (va_Qi (fun r (_ : Unit) => r = out.1) (fun _ => Wd Z h out.2) (FR Z)) args s 0 0 (FR Z)) (F0 m 28 ls []) := by
  intro n
  induction n with
  | zero => intro x3 g ls H locs hW hl hf; cases hf
  | succ n ih =>
    intro x3 g ls H locs hW hl hf
    rw [Lp_s] at hf
    rw [F_X11_number_28] at hf
    try dsimp only at hf
    refine lv_aload_n C.1 C.2.1 dX11_number_28 rfl (lv_at hl 0 rfl) ?_
    refine lv_bipush (v := 48) C.1 C.2.1 dX11_number_29 (by decide) ?_
    refine lv_bipush (v := 57) C.1 C.2.1 dX11_number_31 (by decide) ?_
    obtain ⟨u5, hcu5, hf⟩ := bnd_t hf
    refine x_calli hW (x_runV C hW hl (wk9 (k_125)) rfl rfl (c_X11_isAt hcu5) (cw_X11_129) ci_X11_isAt cs_X11_isAt (rm_ok (by decide) (by decide)) ⟨Nat.le_refl _, Nat.le_refl _⟩ (As := [.int (48 : Int32), .int (57 : Int32)]) rfl rfl (Nat.le_of_ble_eq_true rfl) dX11_number_33) (fun H locs hW => ?_)
    refine x_ifeq (tgt := 83) C hf dX11_number_36 (by decide) (fun hf => ?_) (fun hf => ?_)
    · exact j_X11_number_83 C hW (lv_sub hl [0, 1, 2, 3] rfl) hf
    · refine lv_aload_n C.1 C.2.1 dX11_number_39 rfl (lv_at hl 0 rfl) ?_
      refine xg_X11_119 C hW (k_125) dX11_number_40 ?_
      refine lv_aload_n C.1 C.2.1 dX11_number_43 rfl (lv_at hl 0 rfl) ?_
      refine xg_X11_133 C hW (k_125) dX11_number_44 ?_
      refine lv_isub C.1 C.2.1 dX11_number_47 ?_
      refine lv_iconst (v := 5) C.1 C.2.1 dX11_number_48 (by decide) ?_
      refine x_cmpge (tgt := 70) C hf dX11_number_49 (by decide) (fun hf => ?_) (fun hf => ?_)
      · exact j_X11_number_70 C (fun z0 z1 => ih z0 z1) hW (lv_sub hl [0, 1, 2, 3] rfl) hf
      · refine lv_bipush (v := 10) C.1 C.2.1 dX11_number_52 (by decide) ?_
        refine lv_iload_n C.1 C.2.1 dX11_number_54 rfl (lv_at hl 3 rfl) ?_
        refine lv_imul C.1 C.2.1 dX11_number_55 ?_
        refine lv_aload_n C.1 C.2.1 dX11_number_56 rfl (lv_at hl 0 rfl) ?_
        refine xg_X11_47 C hW (k_125) dX11_number_57 ?_
        refine lv_aload_n C.1 C.2.1 dX11_number_60 rfl (lv_at hl 0 rfl) ?_
        refine xg_X11_119 C hW (k_125) dX11_number_61 ?_
        refine x_baldM C hW a_137 hf dX11_number_64 (fun hf => ?_)
        refine lv_iadd C.1 C.2.1 dX11_number_65 ?_
        refine lv_bipush (v := 48) C.1 C.2.1 dX11_number_66 (by decide) ?_
        refine lv_isub C.1 C.2.1 dX11_number_68 ?_
        refine x_istn C hf dX11_number_69 rfl hl (by decide) (fun v6 => [(3, .int v6), (0, .ref (Z.1 125)), (1, .int p1), (2, .int p2)]) (fun _ => rfl) (fun v6 ls hf hl => ?_)
        exact j_X11_number_70 C (fun z0 z1 => ih z0 z1) hW (lv_sub hl [1, 2, 3, 0] rfl) hf
set_option maxRecDepth 20000 in
set_option maxHeartbeats 1000000 in
theorem c_X11_number {l : Launch} {Z : ZT} {h : Hp} {g : Hp} {p1 : Int32} {p2 : Int32} {out : Int32 × Hp} (hf : f_X11_number g p1 p2 = some out) : Met l yX11_number (wY yX11_number cX11_number 4 (some .int)) (rmD 2) (va_Pc [.ref (Z.1 125), .int p1, .int p2] (Wd Z h g)) (va_Qi (fun r (_ : Unit) => r = out.1) (fun _ => Wd Z h out.2) (FR Z)) 0 0 (FR Z) := by
  refine metX RX11 rfl (by decide +kernel) (Nat.le_of_ble_eq_true rfl) ?_
  intro p e s m args below meth c C hW ls hl
  have hl : lv_has ls 4 [(0, .ref (Z.1 125)), (1, .int p1), (2, .int p2)] := hl
  unfold f_X11_number at hf
  refine lv_aload_n C.1 C.2.1 dX11_number_0 rfl (lv_at hl 0 rfl) ?_
  obtain ⟨u7, hcu7, hf⟩ := bnd_t hf
  refine x_callv hW (x_runV C hW hl (wk9 (k_125)) rfl rfl (c_X11_blanks hcu7) (cw_X11_139) ci_X11_blanks cs_X11_blanks (rm_ok (by decide) (by decide)) ⟨Nat.le_refl _, Nat.le_refl _⟩ (As := []) rfl rfl (Nat.le_of_ble_eq_true rfl) dX11_number_1) (fun H locs hW => ?_)
  refine lv_aload_n C.1 C.2.1 dX11_number_4 rfl (lv_at hl 0 rfl) ?_
  refine lv_aload_n C.1 C.2.1 dX11_number_5 rfl (lv_at hl 0 rfl) ?_
  refine lv_bipush (v := 48) C.1 C.2.1 dX11_number_6 (by decide) ?_
  refine lv_bipush (v := 57) C.1 C.2.1 dX11_number_8 (by decide) ?_
  obtain ⟨u8, hcu8, hf⟩ := bnd_t hf
  refine x_calli hW (x_runV C hW hl (wk9 (k_125)) rfl rfl (c_X11_isAt hcu8) (cw_X11_129) ci_X11_isAt cs_X11_isAt (rm_ok (by decide) (by decide)) ⟨Nat.le_refl _, Nat.le_refl _⟩ (As := [.int (48 : Int32), .int (57 : Int32)]) rfl rfl (Nat.le_of_ble_eq_true rfl) dX11_number_10) (fun H locs hW => ?_)
  refine lv_iconst (v := 1) C.1 C.2.1 dX11_number_13 (by decide) ?_
  obtain ⟨u9, hcu9, hf⟩ := bnd_t hf
  refine x_callv hW (x_runV C hW hl (wk9 (k_125)) rfl rfl (c_X11_must hcu9) (cw_X11_162) ci_X11_must cs_X11_must (rm_ok (by decide) (by decide)) ⟨Nat.le_refl _, Nat.le_refl _⟩ (As := [.int u8, .int (1 : Int32)]) rfl rfl (Nat.le_of_ble_eq_true rfl) dX11_number_14) (fun H locs hW => ?_)
  refine lv_aload_n C.1 C.2.1 dX11_number_17 rfl (lv_at hl 0 rfl) ?_
  obtain ⟨u10, hcu10, hf⟩ := bnd_t hf
  refine x_calli hW (x_runV C hW hl (wk9 (k_125)) rfl rfl (c_X11_hasFailed hcu10) (cw_X11_125) ci_X11_hasFailed cs_X11_hasFailed (rm_ok (by decide) (by decide)) ⟨Nat.le_refl _, Nat.le_refl _⟩ (As := []) rfl rfl (Nat.le_of_ble_eq_true rfl) dX11_number_18) (fun H locs hW => ?_)
  refine x_ifeq (tgt := 26) C hf dX11_number_21 (by decide) (fun hf => ?_) (fun hf => ?_)
  · refine lv_iconst (v := 0) C.1 C.2.1 dX11_number_26 (by decide) ?_
    refine lv_istore_n (lv' := [(3, .int (0 : Int32)), (0, .ref (Z.1 125)), (1, .int p1), (2, .int p2)]) C.1 C.2.1 dX11_number_27 rfl hl (by decide) rfl (fun ls hl => ?_)
    exact l_X11_number_28 C FU (0 : Int32) u9 ls _ _ hW (lv_sub hl [1, 2, 3, 0] rfl) hf
  · refine lv_iload_n C.1 C.2.1 dX11_number_24 rfl (lv_at hl 1 rfl) ?_
    obtain rfl := Option.some.inj hf
    exact x_iret C hW dX11_number_25 rfl
