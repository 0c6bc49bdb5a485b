abbrev cX11_cutsPlaces : ByteArray := prog_13_method_102_code
def yX11_cutsPlaces : MethodName := ⟨RX11, "cutsPlaces", "(II)V"⟩
theorem dX11_cutsPlaces_0 : decode cX11_cutsPlaces 0 = .ok (.aload_n 0, 1) := by decide +kernel
theorem dX11_cutsPlaces_1 : decode cX11_cutsPlaces 1 = .ok (.invokevirtual 359, 3) := by decide +kernel
theorem dX11_cutsPlaces_4 : decode cX11_cutsPlaces 4 = .ok (.iload_n 1, 1) := by decide +kernel
theorem dX11_cutsPlaces_5 : decode cX11_cutsPlaces 5 = .ok (.istore_n 3, 1) := by decide +kernel
theorem dX11_cutsPlaces_6 : decode cX11_cutsPlaces 6 = .ok (.iload_n 3, 1) := by decide +kernel
theorem dX11_cutsPlaces_7 : decode cX11_cutsPlaces 7 = .ok (.iload_n 2, 1) := by decide +kernel
theorem dX11_cutsPlaces_8 : decode cX11_cutsPlaces 8 = .ok (.if_icmp .gt 19, 3) := by decide +kernel
theorem dX11_cutsPlaces_11 : decode cX11_cutsPlaces 11 = .ok (.aload_n 0, 1) := by decide +kernel
theorem dX11_cutsPlaces_12 : decode cX11_cutsPlaces 12 = .ok (.aload_n 0, 1) := by decide +kernel
theorem dX11_cutsPlaces_13 : decode cX11_cutsPlaces 13 = .ok (.getfield 63, 3) := by decide +kernel
theorem dX11_cutsPlaces_16 : decode cX11_cutsPlaces 16 = .ok (.iload_n 3, 1) := by decide +kernel
theorem dX11_cutsPlaces_17 : decode cX11_cutsPlaces 17 = .ok (.iaload, 1) := by decide +kernel
theorem dX11_cutsPlaces_18 : decode cX11_cutsPlaces 18 = .ok (.invokevirtual 365, 3) := by decide +kernel
theorem dX11_cutsPlaces_21 : decode cX11_cutsPlaces 21 = .ok (.iinc 3 1, 3) := by decide +kernel
theorem dX11_cutsPlaces_24 : decode cX11_cutsPlaces 24 = .ok (.goto (-18), 3) := by decide +kernel
theorem dX11_cutsPlaces_27 : decode cX11_cutsPlaces 27 = .ok (.return_, 1) := by decide +kernel
theorem ci_X11_cutsPlaces : Cond.instanceMethod yX11_cutsPlaces ∈ TW := TW_of 1903 (by decide +kernel) (by decide +kernel)
theorem cs_X11_cutsPlaces : Cond.selects yX11_cutsPlaces.cls yX11_cutsPlaces yX11_cutsPlaces ∈ TW := TW_of 82 (by decide +kernel) (by decide +kernel)
abbrev cX11_restoresWord : ByteArray := prog_13_method_103_code
def yX11_restoresWord : MethodName := ⟨RX11, "restoresWord", "(I)V"⟩
theorem dX11_restoresWord_0 : decode cX11_restoresWord 0 = .ok (.aload_n 0, 1) := by decide +kernel
theorem dX11_restoresWord_1 : decode cX11_restoresWord 1 = .ok (.getfield 38, 3) := by decide +kernel
theorem dX11_restoresWord_4 : decode cX11_restoresWord 4 = .ok (.iconst 0, 1) := by decide +kernel
theorem dX11_restoresWord_5 : decode cX11_restoresWord 5 = .ok (.iload_n 1, 1) := by decide +kernel
theorem dX11_restoresWord_6 : decode cX11_restoresWord 6 = .ok (.iadd, 1) := by decide +kernel
theorem dX11_restoresWord_7 : decode cX11_restoresWord 7 = .ok (.iconst 0, 1) := by decide +kernel
theorem dX11_restoresWord_8 : decode cX11_restoresWord 8 = .ok (.iastore, 1) := by decide +kernel
theorem dX11_restoresWord_9 : decode cX11_restoresWord 9 = .ok (.aload_n 0, 1) := by decide +kernel
theorem dX11_restoresWord_10 : decode cX11_restoresWord 10 = .ok (.getfield 20, 3) := by decide +kernel
theorem dX11_restoresWord_13 : decode cX11_restoresWord 13 = .ok (.iload_n 1, 1) := by decide +kernel
theorem dX11_restoresWord_14 : decode cX11_restoresWord 14 = .ok (.iaload, 1) := by decide +kernel
theorem dX11_restoresWord_15 : decode cX11_restoresWord 15 = .ok (.istore_n 2, 1) := by decide +kernel
theorem dX11_restoresWord_16 : decode cX11_restoresWord 16 = .ok (.aload_n 0, 1) := by decide +kernel
theorem dX11_restoresWord_17 : decode cX11_restoresWord 17 = .ok (.iload_n 2, 1) := by decide +kernel
theorem dX11_restoresWord_18 : decode cX11_restoresWord 18 = .ok (.invokevirtual 278, 3) := by decide +kernel
theorem dX11_restoresWord_21 : decode cX11_restoresWord 21 = .ok (.iconst (-1), 1) := by decide +kernel
theorem dX11_restoresWord_22 : decode cX11_restoresWord 22 = .ok (.if_icmp .eq 4, 3) := by decide +kernel
theorem dX11_restoresWord_25 : decode cX11_restoresWord 25 = .ok (.return_, 1) := by decide +kernel
theorem dX11_restoresWord_26 : decode cX11_restoresWord 26 = .ok (.iconst (-1), 1) := by decide +kernel
theorem dX11_restoresWord_27 : decode cX11_restoresWord 27 = .ok (.istore_n 3, 1) := by decide +kernel
theorem dX11_restoresWord_28 : decode cX11_restoresWord 28 = .ok (.iconst 0, 1) := by decide +kernel
theorem dX11_restoresWord_29 : decode cX11_restoresWord 29 = .ok (.istore 4, 2) := by decide +kernel
theorem dX11_restoresWord_31 : decode cX11_restoresWord 31 = .ok (.iload 4, 2) := by decide +kernel
theorem dX11_restoresWord_33 : decode cX11_restoresWord 33 = .ok (.aload_n 0, 1) := by decide +kernel
theorem dX11_restoresWord_34 : decode cX11_restoresWord 34 = .ok (.getfield 38, 3) := by decide +kernel
theorem dX11_restoresWord_37 : decode cX11_restoresWord 37 = .ok (.bipush 40, 2) := by decide +kernel
theorem dX11_restoresWord_39 : decode cX11_restoresWord 39 = .ok (.iaload, 1) := by decide +kernel
theorem dX11_restoresWord_40 : decode cX11_restoresWord 40 = .ok (.if_icmp .ge 41, 3) := by decide +kernel
theorem dX11_restoresWord_43 : decode cX11_restoresWord 43 = .ok (.aload_n 0, 1) := by decide +kernel
theorem dX11_restoresWord_44 : decode cX11_restoresWord 44 = .ok (.iload 4, 2) := by decide +kernel
theorem dX11_restoresWord_46 : decode cX11_restoresWord 46 = .ok (.invokevirtual 311, 3) := by decide +kernel
theorem dX11_restoresWord_49 : decode cX11_restoresWord 49 = .ok (.istore 5, 2) := by decide +kernel
theorem dX11_restoresWord_51 : decode cX11_restoresWord 51 = .ok (.iload 5, 2) := by decide +kernel
theorem dX11_restoresWord_53 : decode cX11_restoresWord 53 = .ok (.iload_n 2, 1) := by decide +kernel
theorem dX11_restoresWord_54 : decode cX11_restoresWord 54 = .ok (.if_icmp .ge 21, 3) := by decide +kernel
theorem dX11_restoresWord_57 : decode cX11_restoresWord 57 = .ok (.iload_n 3, 1) := by decide +kernel
theorem dX11_restoresWord_58 : decode cX11_restoresWord 58 = .ok (.iconst (-1), 1) := by decide +kernel
theorem dX11_restoresWord_59 : decode cX11_restoresWord 59 = .ok (.if_icmp .eq 13, 3) := by decide +kernel
theorem dX11_restoresWord_62 : decode cX11_restoresWord 62 = .ok (.iload 5, 2) := by decide +kernel
theorem dX11_restoresWord_64 : decode cX11_restoresWord 64 = .ok (.aload_n 0, 1) := by decide +kernel
theorem dX11_restoresWord_65 : decode cX11_restoresWord 65 = .ok (.iload_n 3, 1) := by decide +kernel
theorem dX11_restoresWord_66 : decode cX11_restoresWord 66 = .ok (.invokevirtual 311, 3) := by decide +kernel
theorem dX11_restoresWord_69 : decode cX11_restoresWord 69 = .ok (.if_icmp .le 6, 3) := by decide +kernel
theorem dX11_restoresWord_72 : decode cX11_restoresWord 72 = .ok (.iload 4, 2) := by decide +kernel
theorem dX11_restoresWord_74 : decode cX11_restoresWord 74 = .ok (.istore_n 3, 1) := by decide +kernel
theorem dX11_restoresWord_75 : decode cX11_restoresWord 75 = .ok (.iinc 4 1, 3) := by decide +kernel
theorem dX11_restoresWord_78 : decode cX11_restoresWord 78 = .ok (.goto (-47), 3) := by decide +kernel
theorem dX11_restoresWord_81 : decode cX11_restoresWord 81 = .ok (.aload_n 0, 1) := by decide +kernel
theorem dX11_restoresWord_82 : decode cX11_restoresWord 82 = .ok (.iload_n 3, 1) := by decide +kernel
theorem dX11_restoresWord_83 : decode cX11_restoresWord 83 = .ok (.iconst 1, 1) := by decide +kernel
theorem dX11_restoresWord_84 : decode cX11_restoresWord 84 = .ok (.iadd, 1) := by decide +kernel
theorem dX11_restoresWord_85 : decode cX11_restoresWord 85 = .ok (.iload_n 2, 1) := by decide +kernel
theorem dX11_restoresWord_86 : decode cX11_restoresWord 86 = .ok (.invokevirtual 368, 3) := by decide +kernel
theorem dX11_restoresWord_89 : decode cX11_restoresWord 89 = .ok (.aload_n 0, 1) := by decide +kernel
theorem dX11_restoresWord_90 : decode cX11_restoresWord 90 = .ok (.getfield 38, 3) := by decide +kernel
theorem dX11_restoresWord_93 : decode cX11_restoresWord 93 = .ok (.bipush 81, 2) := by decide +kernel
theorem dX11_restoresWord_95 : decode cX11_restoresWord 95 = .ok (.iload_n 2, 1) := by decide +kernel
theorem dX11_restoresWord_96 : decode cX11_restoresWord 96 = .ok (.iadd, 1) := by decide +kernel
theorem dX11_restoresWord_97 : decode cX11_restoresWord 97 = .ok (.iconst 0, 1) := by decide +kernel
theorem dX11_restoresWord_98 : decode cX11_restoresWord 98 = .ok (.iastore, 1) := by decide +kernel
theorem dX11_restoresWord_99 : decode cX11_restoresWord 99 = .ok (.aload_n 0, 1) := by decide +kernel
theorem dX11_restoresWord_100 : decode cX11_restoresWord 100 = .ok (.getfield 38, 3) := by decide +kernel
theorem dX11_restoresWord_103 : decode cX11_restoresWord 103 = .ok (.bipush 121, 2) := by decide +kernel
theorem dX11_restoresWord_105 : decode cX11_restoresWord 105 = .ok (.iload_n 2, 1) := by decide +kernel
theorem dX11_restoresWord_106 : decode cX11_restoresWord 106 = .ok (.iadd, 1) := by decide +kernel
theorem dX11_restoresWord_107 : decode cX11_restoresWord 107 = .ok (.iconst 0, 1) := by decide +kernel
theorem dX11_restoresWord_108 : decode cX11_restoresWord 108 = .ok (.iastore, 1) := by decide +kernel
theorem dX11_restoresWord_109 : decode cX11_restoresWord 109 = .ok (.return_, 1) := by decide +kernel
theorem ci_X11_restoresWord : Cond.instanceMethod yX11_restoresWord ∈ TW := TW_of 1927 (by decide +kernel) (by decide +kernel)
theorem cs_X11_restoresWord : Cond.selects yX11_restoresWord.cls yX11_restoresWord yX11_restoresWord ∈ TW := TW_of 87 (by decide +kernel) (by decide +kernel)
abbrev cX11_restoresAll : ByteArray := prog_13_method_104_code
def yX11_restoresAll : MethodName := ⟨RX11, "restoresAll", "(II)I"⟩
theorem dX11_restoresAll_0 : decode cX11_restoresAll 0 = .ok (.iconst 0, 1) := by decide +kernel
theorem dX11_restoresAll_1 : decode cX11_restoresAll 1 = .ok (.istore_n 3, 1) := by decide +kernel
theorem dX11_restoresAll_2 : decode cX11_restoresAll 2 = .ok (.iload_n 1, 1) := by decide +kernel
theorem dX11_restoresAll_3 : decode cX11_restoresAll 3 = .ok (.istore 4, 2) := by decide +kernel
theorem dX11_restoresAll_5 : decode cX11_restoresAll 5 = .ok (.iload 4, 2) := by decide +kernel
theorem dX11_restoresAll_7 : decode cX11_restoresAll 7 = .ok (.iload_n 2, 1) := by decide +kernel
theorem dX11_restoresAll_8 : decode cX11_restoresAll 8 = .ok (.if_icmp .gt 30, 3) := by decide +kernel
theorem dX11_restoresAll_11 : decode cX11_restoresAll 11 = .ok (.aload_n 0, 1) := by decide +kernel
theorem dX11_restoresAll_12 : decode cX11_restoresAll 12 = .ok (.iload 4, 2) := by decide +kernel
theorem dX11_restoresAll_14 : decode cX11_restoresAll 14 = .ok (.invokevirtual 275, 3) := by decide +kernel
theorem dX11_restoresAll_17 : decode cX11_restoresAll 17 = .ok (.ifCond .eq 6, 3) := by decide +kernel
theorem dX11_restoresAll_20 : decode cX11_restoresAll 20 = .ok (.goto 12, 3) := by decide +kernel
theorem dX11_restoresAll_23 : decode cX11_restoresAll 23 = .ok (.aload_n 0, 1) := by decide +kernel
theorem dX11_restoresAll_24 : decode cX11_restoresAll 24 = .ok (.iload 4, 2) := by decide +kernel
theorem dX11_restoresAll_26 : decode cX11_restoresAll 26 = .ok (.invokevirtual 372, 3) := by decide +kernel
theorem dX11_restoresAll_29 : decode cX11_restoresAll 29 = .ok (.iinc 3 1, 3) := by decide +kernel
theorem dX11_restoresAll_32 : decode cX11_restoresAll 32 = .ok (.iinc 4 1, 3) := by decide +kernel
theorem dX11_restoresAll_35 : decode cX11_restoresAll 35 = .ok (.goto (-30), 3) := by decide +kernel
theorem dX11_restoresAll_38 : decode cX11_restoresAll 38 = .ok (.iload_n 3, 1) := by decide +kernel
theorem dX11_restoresAll_39 : decode cX11_restoresAll 39 = .ok (.ireturn, 1) := by decide +kernel
theorem ci_X11_restoresAll : Cond.instanceMethod yX11_restoresAll ∈ TW := TW_of 1923 (by decide +kernel) (by decide +kernel)
theorem cs_X11_restoresAll : Cond.selects yX11_restoresAll.cls yX11_restoresAll yX11_restoresAll ∈ TW := TW_of 86 (by decide +kernel) (by decide +kernel)
abbrev cX11_movesAll : ByteArray := prog_13_method_105_code
def yX11_movesAll : MethodName := ⟨RX11, "movesAll", "(III)I"⟩
theorem dX11_movesAll_0 : decode cX11_movesAll 0 = .ok (.iload_n 2, 1) := by decide +kernel
theorem dX11_movesAll_1 : decode cX11_movesAll 1 = .ok (.iload_n 1, 1) := by decide +kernel
theorem dX11_movesAll_2 : decode cX11_movesAll 2 = .ok (.isub, 1) := by decide +kernel
theorem dX11_movesAll_3 : decode cX11_movesAll 3 = .ok (.iconst 1, 1) := by decide +kernel
theorem dX11_movesAll_4 : decode cX11_movesAll 4 = .ok (.iadd, 1) := by decide +kernel
theorem dX11_movesAll_5 : decode cX11_movesAll 5 = .ok (.istore 4, 2) := by decide +kernel
theorem dX11_movesAll_7 : decode cX11_movesAll 7 = .ok (.iconst 0, 1) := by decide +kernel
theorem dX11_movesAll_8 : decode cX11_movesAll 8 = .ok (.istore 5, 2) := by decide +kernel
theorem dX11_movesAll_10 : decode cX11_movesAll 10 = .ok (.iload 5, 2) := by decide +kernel
theorem dX11_movesAll_12 : decode cX11_movesAll 12 = .ok (.iload 4, 2) := by decide +kernel
theorem dX11_movesAll_14 : decode cX11_movesAll 14 = .ok (.if_icmp .ge 24, 3) := by decide +kernel
theorem dX11_movesAll_17 : decode cX11_movesAll 17 = .ok (.aload_n 0, 1) := by decide +kernel
theorem dX11_movesAll_18 : decode cX11_movesAll 18 = .ok (.getfield 69, 3) := by decide +kernel
theorem dX11_movesAll_21 : decode cX11_movesAll 21 = .ok (.iload 5, 2) := by decide +kernel
theorem dX11_movesAll_23 : decode cX11_movesAll 23 = .ok (.aload_n 0, 1) := by decide +kernel
theorem dX11_movesAll_24 : decode cX11_movesAll 24 = .ok (.iload_n 1, 1) := by decide +kernel
theorem dX11_movesAll_25 : decode cX11_movesAll 25 = .ok (.iload 5, 2) := by decide +kernel
theorem dX11_movesAll_27 : decode cX11_movesAll 27 = .ok (.iadd, 1) := by decide +kernel
theorem dX11_movesAll_28 : decode cX11_movesAll 28 = .ok (.invokevirtual 311, 3) := by decide +kernel
theorem dX11_movesAll_31 : decode cX11_movesAll 31 = .ok (.iastore, 1) := by decide +kernel
theorem dX11_movesAll_32 : decode cX11_movesAll 32 = .ok (.iinc 5 1, 3) := by decide +kernel
theorem dX11_movesAll_35 : decode cX11_movesAll 35 = .ok (.goto (-25), 3) := by decide +kernel
theorem dX11_movesAll_38 : decode cX11_movesAll 38 = .ok (.iconst 0, 1) := by decide +kernel
theorem dX11_movesAll_39 : decode cX11_movesAll 39 = .ok (.istore 5, 2) := by decide +kernel
theorem dX11_movesAll_41 : decode cX11_movesAll 41 = .ok (.iload 5, 2) := by decide +kernel
theorem dX11_movesAll_43 : decode cX11_movesAll 43 = .ok (.iload 4, 2) := by decide +kernel
theorem dX11_movesAll_45 : decode cX11_movesAll 45 = .ok (.if_icmp .ge 14, 3) := by decide +kernel
theorem dX11_movesAll_48 : decode cX11_movesAll 48 = .ok (.aload_n 0, 1) := by decide +kernel
theorem dX11_movesAll_49 : decode cX11_movesAll 49 = .ok (.iload_n 1, 1) := by decide +kernel
theorem dX11_movesAll_50 : decode cX11_movesAll 50 = .ok (.invokevirtual 362, 3) := by decide +kernel
theorem dX11_movesAll_53 : decode cX11_movesAll 53 = .ok (.iinc 5 1, 3) := by decide +kernel
theorem dX11_movesAll_56 : decode cX11_movesAll 56 = .ok (.goto (-15), 3) := by decide +kernel
theorem dX11_movesAll_59 : decode cX11_movesAll 59 = .ok (.iload_n 3, 1) := by decide +kernel
theorem dX11_movesAll_60 : decode cX11_movesAll 60 = .ok (.iload_n 1, 1) := by decide +kernel
theorem dX11_movesAll_61 : decode cX11_movesAll 61 = .ok (.if_icmp .ge 9, 3) := by decide +kernel
theorem dX11_movesAll_64 : decode cX11_movesAll 64 = .ok (.iload_n 3, 1) := by decide +kernel
theorem dX11_movesAll_65 : decode cX11_movesAll 65 = .ok (.iconst 1, 1) := by decide +kernel
theorem dX11_movesAll_66 : decode cX11_movesAll 66 = .ok (.iadd, 1) := by decide +kernel
theorem dX11_movesAll_67 : decode cX11_movesAll 67 = .ok (.goto 9, 3) := by decide +kernel
theorem dX11_movesAll_70 : decode cX11_movesAll 70 = .ok (.iload_n 3, 1) := by decide +kernel
theorem dX11_movesAll_71 : decode cX11_movesAll 71 = .ok (.iconst 1, 1) := by decide +kernel
theorem dX11_movesAll_72 : decode cX11_movesAll 72 = .ok (.iadd, 1) := by decide +kernel
theorem dX11_movesAll_73 : decode cX11_movesAll 73 = .ok (.iload 4, 2) := by decide +kernel
theorem dX11_movesAll_75 : decode cX11_movesAll 75 = .ok (.isub, 1) := by decide +kernel
theorem dX11_movesAll_76 : decode cX11_movesAll 76 = .ok (.istore 5, 2) := by decide +kernel
theorem dX11_movesAll_78 : decode cX11_movesAll 78 = .ok (.iconst 0, 1) := by decide +kernel
theorem dX11_movesAll_79 : decode cX11_movesAll 79 = .ok (.istore 6, 2) := by decide +kernel
theorem dX11_movesAll_81 : decode cX11_movesAll 81 = .ok (.iload 6, 2) := by decide +kernel
theorem dX11_movesAll_83 : decode cX11_movesAll 83 = .ok (.iload 4, 2) := by decide +kernel
theorem dX11_movesAll_85 : decode cX11_movesAll 85 = .ok (.if_icmp .ge 25, 3) := by decide +kernel
theorem dX11_movesAll_88 : decode cX11_movesAll 88 = .ok (.aload_n 0, 1) := by decide +kernel
theorem dX11_movesAll_89 : decode cX11_movesAll 89 = .ok (.iload 5, 2) := by decide +kernel
theorem dX11_movesAll_91 : decode cX11_movesAll 91 = .ok (.iload 6, 2) := by decide +kernel
theorem dX11_movesAll_93 : decode cX11_movesAll 93 = .ok (.iadd, 1) := by decide +kernel
theorem dX11_movesAll_94 : decode cX11_movesAll 94 = .ok (.aload_n 0, 1) := by decide +kernel
theorem dX11_movesAll_95 : decode cX11_movesAll 95 = .ok (.getfield 69, 3) := by decide +kernel
theorem dX11_movesAll_98 : decode cX11_movesAll 98 = .ok (.iload 6, 2) := by decide +kernel
theorem dX11_movesAll_100 : decode cX11_movesAll 100 = .ok (.iaload, 1) := by decide +kernel
theorem dX11_movesAll_101 : decode cX11_movesAll 101 = .ok (.invokevirtual 368, 3) := by decide +kernel
theorem dX11_movesAll_104 : decode cX11_movesAll 104 = .ok (.iinc 6 1, 3) := by decide +kernel
theorem dX11_movesAll_107 : decode cX11_movesAll 107 = .ok (.goto (-26), 3) := by decide +kernel
theorem dX11_movesAll_110 : decode cX11_movesAll 110 = .ok (.aload_n 0, 1) := by decide +kernel
theorem dX11_movesAll_111 : decode cX11_movesAll 111 = .ok (.getfield 38, 3) := by decide +kernel
theorem dX11_movesAll_114 : decode cX11_movesAll 114 = .ok (.bipush 81, 2) := by decide +kernel
theorem dX11_movesAll_116 : decode cX11_movesAll 116 = .ok (.aload_n 0, 1) := by decide +kernel
theorem dX11_movesAll_117 : decode cX11_movesAll 117 = .ok (.getfield 69, 3) := by decide +kernel
theorem dX11_movesAll_120 : decode cX11_movesAll 120 = .ok (.iconst 0, 1) := by decide +kernel
theorem dX11_movesAll_121 : decode cX11_movesAll 121 = .ok (.iaload, 1) := by decide +kernel
theorem dX11_movesAll_122 : decode cX11_movesAll 122 = .ok (.iadd, 1) := by decide +kernel
theorem dX11_movesAll_123 : decode cX11_movesAll 123 = .ok (.aload_n 0, 1) := by decide +kernel
theorem dX11_movesAll_124 : decode cX11_movesAll 124 = .ok (.getfield 13, 3) := by decide +kernel
theorem dX11_movesAll_127 : decode cX11_movesAll 127 = .ok (.iconst 1, 1) := by decide +kernel
theorem dX11_movesAll_128 : decode cX11_movesAll 128 = .ok (.iaload, 1) := by decide +kernel
theorem dX11_movesAll_129 : decode cX11_movesAll 129 = .ok (.iastore, 1) := by decide +kernel
theorem dX11_movesAll_130 : decode cX11_movesAll 130 = .ok (.aload_n 0, 1) := by decide +kernel
theorem dX11_movesAll_131 : decode cX11_movesAll 131 = .ok (.getfield 38, 3) := by decide +kernel
theorem dX11_movesAll_134 : decode cX11_movesAll 134 = .ok (.bipush 121, 2) := by decide +kernel
theorem dX11_movesAll_136 : decode cX11_movesAll 136 = .ok (.aload_n 0, 1) := by decide +kernel
theorem dX11_movesAll_137 : decode cX11_movesAll 137 = .ok (.getfield 69, 3) := by decide +kernel
theorem dX11_movesAll_140 : decode cX11_movesAll 140 = .ok (.iload 4, 2) := by decide +kernel
theorem dX11_movesAll_142 : decode cX11_movesAll 142 = .ok (.iconst 1, 1) := by decide +kernel
theorem dX11_movesAll_143 : decode cX11_movesAll 143 = .ok (.isub, 1) := by decide +kernel
theorem dX11_movesAll_144 : decode cX11_movesAll 144 = .ok (.iaload, 1) := by decide +kernel
theorem dX11_movesAll_145 : decode cX11_movesAll 145 = .ok (.iadd, 1) := by decide +kernel
theorem dX11_movesAll_146 : decode cX11_movesAll 146 = .ok (.aload_n 0, 1) := by decide +kernel
theorem dX11_movesAll_147 : decode cX11_movesAll 147 = .ok (.getfield 13, 3) := by decide +kernel
theorem dX11_movesAll_150 : decode cX11_movesAll 150 = .ok (.iconst 1, 1) := by decide +kernel
theorem dX11_movesAll_151 : decode cX11_movesAll 151 = .ok (.iaload, 1) := by decide +kernel
theorem dX11_movesAll_152 : decode cX11_movesAll 152 = .ok (.iastore, 1) := by decide +kernel
theorem dX11_movesAll_153 : decode cX11_movesAll 153 = .ok (.iload 5, 2) := by decide +kernel
theorem dX11_movesAll_155 : decode cX11_movesAll 155 = .ok (.ireturn, 1) := by decide +kernel
theorem ci_X11_movesAll : Cond.instanceMethod yX11_movesAll ∈ TW := TW_of 1959 (by decide +kernel) (by decide +kernel)
theorem cs_X11_movesAll : Cond.selects yX11_movesAll.cls yX11_movesAll yX11_movesAll ∈ TW := TW_of 90 (by decide +kernel) (by decide +kernel)
abbrev cX11_noPlaces : ByteArray := prog_13_method_106_code
def yX11_noPlaces : MethodName := ⟨RX11, "noPlaces", "(II)Z"⟩
theorem dX11_noPlaces_0 : decode cX11_noPlaces 0 = .ok (.aload_n 0, 1) := by decide +kernel
theorem dX11_noPlaces_1 : decode cX11_noPlaces 1 = .ok (.invokevirtual 359, 3) := by decide +kernel
theorem dX11_noPlaces_4 : decode cX11_noPlaces 4 = .ok (.aload_n 0, 1) := by decide +kernel
theorem dX11_noPlaces_5 : decode cX11_noPlaces 5 = .ok (.iload_n 1, 1) := by decide +kernel
theorem dX11_noPlaces_6 : decode cX11_noPlaces 6 = .ok (.iconst 0, 1) := by decide +kernel
theorem dX11_noPlaces_7 : decode cX11_noPlaces 7 = .ok (.aload_n 0, 1) := by decide +kernel
theorem dX11_noPlaces_8 : decode cX11_noPlaces 8 = .ok (.getfield 356, 3) := by decide +kernel
theorem dX11_noPlaces_11 : decode cX11_noPlaces 11 = .ok (.iconst 1, 1) := by decide +kernel
theorem dX11_noPlaces_12 : decode cX11_noPlaces 12 = .ok (.isub, 1) := by decide +kernel
theorem dX11_noPlaces_13 : decode cX11_noPlaces 13 = .ok (.invokestatic 166, 3) := by decide +kernel
theorem dX11_noPlaces_16 : decode cX11_noPlaces 16 = .ok (.ifCond .eq 17, 3) := by decide +kernel
theorem dX11_noPlaces_19 : decode cX11_noPlaces 19 = .ok (.iload_n 2, 1) := by decide +kernel
theorem dX11_noPlaces_20 : decode cX11_noPlaces 20 = .ok (.iload_n 1, 1) := by decide +kernel
theorem dX11_noPlaces_21 : decode cX11_noPlaces 21 = .ok (.aload_n 0, 1) := by decide +kernel
theorem dX11_noPlaces_22 : decode cX11_noPlaces 22 = .ok (.getfield 356, 3) := by decide +kernel
theorem dX11_noPlaces_25 : decode cX11_noPlaces 25 = .ok (.iconst 1, 1) := by decide +kernel
theorem dX11_noPlaces_26 : decode cX11_noPlaces 26 = .ok (.isub, 1) := by decide +kernel
theorem dX11_noPlaces_27 : decode cX11_noPlaces 27 = .ok (.invokestatic 166, 3) := by decide +kernel
theorem dX11_noPlaces_30 : decode cX11_noPlaces 30 = .ok (.ifCond .ne 7, 3) := by decide +kernel
theorem dX11_noPlaces_33 : decode cX11_noPlaces 33 = .ok (.iconst 1, 1) := by decide +kernel
theorem dX11_noPlaces_34 : decode cX11_noPlaces 34 = .ok (.goto 4, 3) := by decide +kernel
theorem dX11_noPlaces_37 : decode cX11_noPlaces 37 = .ok (.iconst 0, 1) := by decide +kernel
theorem dX11_noPlaces_38 : decode cX11_noPlaces 38 = .ok (.iconst 1, 1) := by decide +kernel
theorem dX11_noPlaces_39 : decode cX11_noPlaces 39 = .ok (.invokevirtual 216, 3) := by decide +kernel
theorem dX11_noPlaces_42 : decode cX11_noPlaces 42 = .ok (.ireturn, 1) := by decide +kernel
theorem ci_X11_noPlaces : Cond.instanceMethod yX11_noPlaces ∈ TW := TW_of 1895 (by decide +kernel) (by decide +kernel)
theorem cs_X11_noPlaces : Cond.selects yX11_noPlaces.cls yX11_noPlaces yX11_noPlaces ∈ TW := TW_of 80 (by decide +kernel) (by decide +kernel)
abbrev cX11_lengthIfCut : ByteArray := prog_13_method_107_code
def yX11_lengthIfCut : MethodName := ⟨RX11, "lengthIfCut", "(II)I"⟩
theorem dX11_lengthIfCut_0 : decode cX11_lengthIfCut 0 = .ok (.aload_n 0, 1) := by decide +kernel
theorem dX11_lengthIfCut_1 : decode cX11_lengthIfCut 1 = .ok (.iconst 0, 1) := by decide +kernel
theorem dX11_lengthIfCut_2 : decode cX11_lengthIfCut 2 = .ok (.putfield 3, 3) := by decide +kernel
theorem dX11_lengthIfCut_5 : decode cX11_lengthIfCut 5 = .ok (.aload_n 0, 1) := by decide +kernel
theorem dX11_lengthIfCut_6 : decode cX11_lengthIfCut 6 = .ok (.iload_n 1, 1) := by decide +kernel
theorem dX11_lengthIfCut_7 : decode cX11_lengthIfCut 7 = .ok (.iload_n 2, 1) := by decide +kernel
theorem dX11_lengthIfCut_8 : decode cX11_lengthIfCut 8 = .ok (.invokevirtual 375, 3) := by decide +kernel
theorem dX11_lengthIfCut_11 : decode cX11_lengthIfCut 11 = .ok (.ifCond .eq 5, 3) := by decide +kernel
theorem dX11_lengthIfCut_14 : decode cX11_lengthIfCut 14 = .ok (.iconst 0, 1) := by decide +kernel
theorem dX11_lengthIfCut_15 : decode cX11_lengthIfCut 15 = .ok (.ireturn, 1) := by decide +kernel
theorem dX11_lengthIfCut_16 : decode cX11_lengthIfCut 16 = .ok (.aload_n 0, 1) := by decide +kernel
theorem dX11_lengthIfCut_17 : decode cX11_lengthIfCut 17 = .ok (.invokevirtual 378, 3) := by decide +kernel
theorem dX11_lengthIfCut_20 : decode cX11_lengthIfCut 20 = .ok (.aload_n 0, 1) := by decide +kernel
theorem dX11_lengthIfCut_21 : decode cX11_lengthIfCut 21 = .ok (.iload_n 1, 1) := by decide +kernel
theorem dX11_lengthIfCut_22 : decode cX11_lengthIfCut 22 = .ok (.iload_n 2, 1) := by decide +kernel
theorem dX11_lengthIfCut_23 : decode cX11_lengthIfCut 23 = .ok (.invokevirtual 381, 3) := by decide +kernel
theorem dX11_lengthIfCut_26 : decode cX11_lengthIfCut 26 = .ok (.aload_n 0, 1) := by decide +kernel
theorem dX11_lengthIfCut_27 : decode cX11_lengthIfCut 27 = .ok (.invokevirtual 323, 3) := by decide +kernel
theorem dX11_lengthIfCut_30 : decode cX11_lengthIfCut 30 = .ok (.istore_n 3, 1) := by decide +kernel
theorem dX11_lengthIfCut_31 : decode cX11_lengthIfCut 31 = .ok (.aload_n 0, 1) := by decide +kernel
theorem dX11_lengthIfCut_32 : decode cX11_lengthIfCut 32 = .ok (.invokevirtual 384, 3) := by decide +kernel
theorem dX11_lengthIfCut_35 : decode cX11_lengthIfCut 35 = .ok (.iload_n 3, 1) := by decide +kernel
theorem dX11_lengthIfCut_36 : decode cX11_lengthIfCut 36 = .ok (.ireturn, 1) := by decide +kernel
theorem ci_X11_lengthIfCut : Cond.instanceMethod yX11_lengthIfCut ∈ TW := TW_of 1890 (by decide +kernel) (by decide +kernel)
theorem cs_X11_lengthIfCut : Cond.selects yX11_lengthIfCut.cls yX11_lengthIfCut yX11_lengthIfCut ∈ TW := TW_of 1891 (by decide +kernel) (by decide +kernel)
abbrev cX11_lengthIfRestored : ByteArray := prog_13_method_108_code
def yX11_lengthIfRestored : MethodName := ⟨RX11, "lengthIfRestored", "(I)I"⟩
theorem dX11_lengthIfRestored_0 : decode cX11_lengthIfRestored 0 = .ok (.aload_n 0, 1) := by decide +kernel
theorem dX11_lengthIfRestored_1 : decode cX11_lengthIfRestored 1 = .ok (.iconst 0, 1) := by decide +kernel
theorem dX11_lengthIfRestored_2 : decode cX11_lengthIfRestored 2 = .ok (.putfield 3, 3) := by decide +kernel
theorem dX11_lengthIfRestored_5 : decode cX11_lengthIfRestored 5 = .ok (.aload_n 0, 1) := by decide +kernel
theorem dX11_lengthIfRestored_6 : decode cX11_lengthIfRestored 6 = .ok (.iload_n 1, 1) := by decide +kernel
theorem dX11_lengthIfRestored_7 : decode cX11_lengthIfRestored 7 = .ok (.invokevirtual 284, 3) := by decide +kernel
theorem dX11_lengthIfRestored_10 : decode cX11_lengthIfRestored 10 = .ok (.ifCond .eq 5, 3) := by decide +kernel
theorem dX11_lengthIfRestored_13 : decode cX11_lengthIfRestored 13 = .ok (.iconst 0, 1) := by decide +kernel
theorem dX11_lengthIfRestored_14 : decode cX11_lengthIfRestored 14 = .ok (.ireturn, 1) := by decide +kernel
theorem dX11_lengthIfRestored_15 : decode cX11_lengthIfRestored 15 = .ok (.aload_n 0, 1) := by decide +kernel
theorem dX11_lengthIfRestored_16 : decode cX11_lengthIfRestored 16 = .ok (.invokevirtual 378, 3) := by decide +kernel
theorem dX11_lengthIfRestored_19 : decode cX11_lengthIfRestored 19 = .ok (.aload_n 0, 1) := by decide +kernel
theorem dX11_lengthIfRestored_20 : decode cX11_lengthIfRestored 20 = .ok (.iload_n 1, 1) := by decide +kernel
theorem dX11_lengthIfRestored_21 : decode cX11_lengthIfRestored 21 = .ok (.iload_n 1, 1) := by decide +kernel
theorem dX11_lengthIfRestored_22 : decode cX11_lengthIfRestored 22 = .ok (.invokevirtual 387, 3) := by decide +kernel
theorem dX11_lengthIfRestored_25 : decode cX11_lengthIfRestored 25 = .ok (.istore_n 2, 1) := by decide +kernel
theorem dX11_lengthIfRestored_26 : decode cX11_lengthIfRestored 26 = .ok (.aload_n 0, 1) := by decide +kernel
theorem dX11_lengthIfRestored_27 : decode cX11_lengthIfRestored 27 = .ok (.invokevirtual 323, 3) := by decide +kernel
theorem dX11_lengthIfRestored_30 : decode cX11_lengthIfRestored 30 = .ok (.istore_n 3, 1) := by decide +kernel
theorem dX11_lengthIfRestored_31 : decode cX11_lengthIfRestored 31 = .ok (.aload_n 0, 1) := by decide +kernel
theorem dX11_lengthIfRestored_32 : decode cX11_lengthIfRestored 32 = .ok (.invokevirtual 384, 3) := by decide +kernel
theorem dX11_lengthIfRestored_35 : decode cX11_lengthIfRestored 35 = .ok (.iload_n 3, 1) := by decide +kernel
theorem dX11_lengthIfRestored_36 : decode cX11_lengthIfRestored 36 = .ok (.ireturn, 1) := by decide +kernel
theorem ci_X11_lengthIfRestored : Cond.instanceMethod yX11_lengthIfRestored ∈ TW := TW_of 1918 (by decide +kernel) (by decide +kernel)
theorem cs_X11_lengthIfRestored : Cond.selects yX11_lengthIfRestored.cls yX11_lengthIfRestored yX11_lengthIfRestored ∈ TW := TW_of 1919 (by decide +kernel) (by decide +kernel)
abbrev cX11_shotsToCut : ByteArray := prog_13_method_109_code
def yX11_shotsToCut : MethodName := ⟨RX11, "shotsToCut", "(I)I"⟩
theorem dX11_shotsToCut_0 : decode cX11_shotsToCut 0 = .ok (.aload_n 0, 1) := by decide +kernel
theorem dX11_shotsToCut_1 : decode cX11_shotsToCut 1 = .ok (.iconst 0, 1) := by decide +kernel
theorem dX11_shotsToCut_2 : decode cX11_shotsToCut 2 = .ok (.putfield 3, 3) := by decide +kernel
theorem dX11_shotsToCut_5 : decode cX11_shotsToCut 5 = .ok (.iload_n 1, 1) := by decide +kernel
theorem dX11_shotsToCut_6 : decode cX11_shotsToCut 6 = .ok (.ifCond .ge 5, 3) := by decide +kernel
theorem dX11_shotsToCut_9 : decode cX11_shotsToCut 9 = .ok (.iconst (-1), 1) := by decide +kernel
theorem dX11_shotsToCut_10 : decode cX11_shotsToCut 10 = .ok (.ireturn, 1) := by decide +kernel
theorem dX11_shotsToCut_11 : decode cX11_shotsToCut 11 = .ok (.aload_n 0, 1) := by decide +kernel
theorem dX11_shotsToCut_12 : decode cX11_shotsToCut 12 = .ok (.invokevirtual 378, 3) := by decide +kernel
theorem dX11_shotsToCut_15 : decode cX11_shotsToCut 15 = .ok (.iconst 0, 1) := by decide +kernel
theorem dX11_shotsToCut_16 : decode cX11_shotsToCut 16 = .ok (.istore_n 2, 1) := by decide +kernel
theorem dX11_shotsToCut_17 : decode cX11_shotsToCut 17 = .ok (.aload_n 0, 1) := by decide +kernel
theorem dX11_shotsToCut_18 : decode cX11_shotsToCut 18 = .ok (.invokevirtual 323, 3) := by decide +kernel
theorem dX11_shotsToCut_21 : decode cX11_shotsToCut 21 = .ok (.iload_n 1, 1) := by decide +kernel
theorem dX11_shotsToCut_22 : decode cX11_shotsToCut 22 = .ok (.if_icmp .le 62, 3) := by decide +kernel
theorem dX11_shotsToCut_25 : decode cX11_shotsToCut 25 = .ok (.iconst 0, 1) := by decide +kernel
theorem dX11_shotsToCut_26 : decode cX11_shotsToCut 26 = .ok (.istore_n 3, 1) := by decide +kernel
theorem dX11_shotsToCut_27 : decode cX11_shotsToCut 27 = .ok (.iconst 1, 1) := by decide +kernel
theorem dX11_shotsToCut_28 : decode cX11_shotsToCut 28 = .ok (.istore 4, 2) := by decide +kernel
theorem dX11_shotsToCut_30 : decode cX11_shotsToCut 30 = .ok (.iload 4, 2) := by decide +kernel
theorem dX11_shotsToCut_32 : decode cX11_shotsToCut 32 = .ok (.aload_n 0, 1) := by decide +kernel
theorem dX11_shotsToCut_33 : decode cX11_shotsToCut 33 = .ok (.getfield 38, 3) := by decide +kernel
theorem dX11_shotsToCut_36 : decode cX11_shotsToCut 36 = .ok (.bipush 40, 2) := by decide +kernel
theorem dX11_shotsToCut_38 : decode cX11_shotsToCut 38 = .ok (.iaload, 1) := by decide +kernel
theorem dX11_shotsToCut_39 : decode cX11_shotsToCut 39 = .ok (.if_icmp .ge 34, 3) := by decide +kernel
theorem dX11_shotsToCut_42 : decode cX11_shotsToCut 42 = .ok (.aload_n 0, 1) := by decide +kernel
theorem dX11_shotsToCut_43 : decode cX11_shotsToCut 43 = .ok (.aload_n 0, 1) := by decide +kernel
theorem dX11_shotsToCut_44 : decode cX11_shotsToCut 44 = .ok (.iload 4, 2) := by decide +kernel
theorem dX11_shotsToCut_46 : decode cX11_shotsToCut 46 = .ok (.invokevirtual 311, 3) := by decide +kernel
theorem dX11_shotsToCut_49 : decode cX11_shotsToCut 49 = .ok (.invokevirtual 314, 3) := by decide +kernel
theorem dX11_shotsToCut_52 : decode cX11_shotsToCut 52 = .ok (.aload_n 0, 1) := by decide +kernel
theorem dX11_shotsToCut_53 : decode cX11_shotsToCut 53 = .ok (.aload_n 0, 1) := by decide +kernel
theorem dX11_shotsToCut_54 : decode cX11_shotsToCut 54 = .ok (.iload_n 3, 1) := by decide +kernel
theorem dX11_shotsToCut_55 : decode cX11_shotsToCut 55 = .ok (.invokevirtual 311, 3) := by decide +kernel
theorem dX11_shotsToCut_58 : decode cX11_shotsToCut 58 = .ok (.invokevirtual 314, 3) := by decide +kernel
theorem dX11_shotsToCut_61 : decode cX11_shotsToCut 61 = .ok (.if_icmp .le 6, 3) := by decide +kernel
theorem dX11_shotsToCut_64 : decode cX11_shotsToCut 64 = .ok (.iload 4, 2) := by decide +kernel
theorem dX11_shotsToCut_66 : decode cX11_shotsToCut 66 = .ok (.istore_n 3, 1) := by decide +kernel
theorem dX11_shotsToCut_67 : decode cX11_shotsToCut 67 = .ok (.iinc 4 1, 3) := by decide +kernel
theorem dX11_shotsToCut_70 : decode cX11_shotsToCut 70 = .ok (.goto (-40), 3) := by decide +kernel
theorem dX11_shotsToCut_73 : decode cX11_shotsToCut 73 = .ok (.aload_n 0, 1) := by decide +kernel
theorem dX11_shotsToCut_74 : decode cX11_shotsToCut 74 = .ok (.iload_n 3, 1) := by decide +kernel
theorem dX11_shotsToCut_75 : decode cX11_shotsToCut 75 = .ok (.invokevirtual 362, 3) := by decide +kernel
theorem dX11_shotsToCut_78 : decode cX11_shotsToCut 78 = .ok (.iinc 2 1, 3) := by decide +kernel
theorem dX11_shotsToCut_81 : decode cX11_shotsToCut 81 = .ok (.goto (-64), 3) := by decide +kernel
theorem dX11_shotsToCut_84 : decode cX11_shotsToCut 84 = .ok (.aload_n 0, 1) := by decide +kernel
theorem dX11_shotsToCut_85 : decode cX11_shotsToCut 85 = .ok (.invokevirtual 384, 3) := by decide +kernel
theorem dX11_shotsToCut_88 : decode cX11_shotsToCut 88 = .ok (.iload_n 2, 1) := by decide +kernel
theorem dX11_shotsToCut_89 : decode cX11_shotsToCut 89 = .ok (.ireturn, 1) := by decide +kernel
theorem ci_X11_shotsToCut : Cond.instanceMethod yX11_shotsToCut ∈ TW := TW_of 1934 (by decide +kernel) (by decide +kernel)
theorem cs_X11_shotsToCut : Cond.selects yX11_shotsToCut.cls yX11_shotsToCut yX11_shotsToCut ∈ TW := TW_of 1935 (by decide +kernel) (by decide +kernel)
abbrev cX11_cut : ByteArray := prog_13_method_110_code
def yX11_cut : MethodName := ⟨RX11, "cut", "(II)I"⟩
theorem dX11_cut_0 : decode cX11_cut 0 = .ok (.aload_n 0, 1) := by decide +kernel
theorem dX11_cut_1 : decode cX11_cut 1 = .ok (.iconst 0, 1) := by decide +kernel
theorem dX11_cut_2 : decode cX11_cut 2 = .ok (.putfield 3, 3) := by decide +kernel
theorem dX11_cut_5 : decode cX11_cut 5 = .ok (.aload_n 0, 1) := by decide +kernel
theorem dX11_cut_6 : decode cX11_cut 6 = .ok (.iload_n 1, 1) := by decide +kernel
theorem dX11_cut_7 : decode cX11_cut 7 = .ok (.iload_n 2, 1) := by decide +kernel
theorem dX11_cut_8 : decode cX11_cut 8 = .ok (.invokevirtual 375, 3) := by decide +kernel
theorem dX11_cut_11 : decode cX11_cut 11 = .ok (.ifCond .eq 5, 3) := by decide +kernel
theorem dX11_cut_14 : decode cX11_cut 14 = .ok (.iconst 0, 1) := by decide +kernel
theorem dX11_cut_15 : decode cX11_cut 15 = .ok (.ireturn, 1) := by decide +kernel
theorem dX11_cut_16 : decode cX11_cut 16 = .ok (.aload_n 0, 1) := by decide +kernel
theorem dX11_cut_17 : decode cX11_cut 17 = .ok (.invokevirtual 390, 3) := by decide +kernel
theorem dX11_cut_20 : decode cX11_cut 20 = .ok (.aload_n 0, 1) := by decide +kernel
theorem dX11_cut_21 : decode cX11_cut 21 = .ok (.invokevirtual 323, 3) := by decide +kernel
theorem dX11_cut_24 : decode cX11_cut 24 = .ok (.istore_n 3, 1) := by decide +kernel
theorem dX11_cut_25 : decode cX11_cut 25 = .ok (.aload_n 0, 1) := by decide +kernel
theorem dX11_cut_26 : decode cX11_cut 26 = .ok (.iload_n 1, 1) := by decide +kernel
theorem dX11_cut_27 : decode cX11_cut 27 = .ok (.iload_n 2, 1) := by decide +kernel
theorem dX11_cut_28 : decode cX11_cut 28 = .ok (.invokevirtual 381, 3) := by decide +kernel
theorem dX11_cut_31 : decode cX11_cut 31 = .ok (.iload_n 3, 1) := by decide +kernel
theorem dX11_cut_32 : decode cX11_cut 32 = .ok (.aload_n 0, 1) := by decide +kernel
theorem dX11_cut_33 : decode cX11_cut 33 = .ok (.invokevirtual 323, 3) := by decide +kernel
theorem dX11_cut_36 : decode cX11_cut 36 = .ok (.isub, 1) := by decide +kernel
theorem dX11_cut_37 : decode cX11_cut 37 = .ok (.ireturn, 1) := by decide +kernel
theorem ci_X11_cut : Cond.instanceMethod yX11_cut ∈ TW := TW_of 1938 (by decide +kernel) (by decide +kernel)
theorem cs_X11_cut : Cond.selects yX11_cut.cls yX11_cut yX11_cut ∈ TW := TW_of 1939 (by decide +kernel) (by decide +kernel)
abbrev cX11_cutWord : ByteArray := prog_13_method_111_code
def yX11_cutWord : MethodName := ⟨RX11, "cutWord", "(I)I"⟩
theorem dX11_cutWord_0 : decode cX11_cutWord 0 = .ok (.aload_n 0, 1) := by decide +kernel
theorem dX11_cutWord_1 : decode cX11_cutWord 1 = .ok (.iconst 0, 1) := by decide +kernel
theorem dX11_cutWord_2 : decode cX11_cutWord 2 = .ok (.putfield 3, 3) := by decide +kernel
theorem dX11_cutWord_5 : decode cX11_cutWord 5 = .ok (.aload_n 0, 1) := by decide +kernel
theorem dX11_cutWord_6 : decode cX11_cutWord 6 = .ok (.iload_n 1, 1) := by decide +kernel
theorem dX11_cutWord_7 : decode cX11_cutWord 7 = .ok (.invokevirtual 284, 3) := by decide +kernel
theorem dX11_cutWord_10 : decode cX11_cutWord 10 = .ok (.ifCond .ne 24, 3) := by decide +kernel
theorem dX11_cutWord_13 : decode cX11_cutWord 13 = .ok (.aload_n 0, 1) := by decide +kernel
theorem dX11_cutWord_14 : decode cX11_cutWord 14 = .ok (.aload_n 0, 1) := by decide +kernel
theorem dX11_cutWord_15 : decode cX11_cutWord 15 = .ok (.iload_n 1, 1) := by decide +kernel
theorem dX11_cutWord_16 : decode cX11_cutWord 16 = .ok (.invokevirtual 275, 3) := by decide +kernel
theorem dX11_cutWord_19 : decode cX11_cutWord 19 = .ok (.ifCond .ne 7, 3) := by decide +kernel
theorem dX11_cutWord_22 : decode cX11_cutWord 22 = .ok (.iconst 1, 1) := by decide +kernel
theorem dX11_cutWord_23 : decode cX11_cutWord 23 = .ok (.goto 4, 3) := by decide +kernel
theorem dX11_cutWord_26 : decode cX11_cutWord 26 = .ok (.iconst 0, 1) := by decide +kernel
theorem dX11_cutWord_27 : decode cX11_cutWord 27 = .ok (.iconst 2, 1) := by decide +kernel
theorem dX11_cutWord_28 : decode cX11_cutWord 28 = .ok (.invokevirtual 216, 3) := by decide +kernel
theorem dX11_cutWord_31 : decode cX11_cutWord 31 = .ok (.ifCond .eq 5, 3) := by decide +kernel
theorem dX11_cutWord_34 : decode cX11_cutWord 34 = .ok (.iconst 0, 1) := by decide +kernel
theorem dX11_cutWord_35 : decode cX11_cutWord 35 = .ok (.ireturn, 1) := by decide +kernel
theorem dX11_cutWord_36 : decode cX11_cutWord 36 = .ok (.aload_n 0, 1) := by decide +kernel
theorem dX11_cutWord_37 : decode cX11_cutWord 37 = .ok (.invokevirtual 390, 3) := by decide +kernel
theorem dX11_cutWord_40 : decode cX11_cutWord 40 = .ok (.aload_n 0, 1) := by decide +kernel
theorem dX11_cutWord_41 : decode cX11_cutWord 41 = .ok (.iload_n 1, 1) := by decide +kernel
theorem dX11_cutWord_42 : decode cX11_cutWord 42 = .ok (.invokevirtual 365, 3) := by decide +kernel
theorem dX11_cutWord_45 : decode cX11_cutWord 45 = .ok (.aload_n 0, 1) := by decide +kernel
theorem dX11_cutWord_46 : decode cX11_cutWord 46 = .ok (.iload_n 1, 1) := by decide +kernel
theorem dX11_cutWord_47 : decode cX11_cutWord 47 = .ok (.invokevirtual 287, 3) := by decide +kernel
theorem dX11_cutWord_50 : decode cX11_cutWord 50 = .ok (.ireturn, 1) := by decide +kernel
theorem ci_X11_cutWord : Cond.instanceMethod yX11_cutWord ∈ TW := TW_of 1946 (by decide +kernel) (by decide +kernel)
theorem cs_X11_cutWord : Cond.selects yX11_cutWord.cls yX11_cutWord yX11_cutWord ∈ TW := TW_of 1947 (by decide +kernel) (by decide +kernel)
abbrev cX11_restore : ByteArray := prog_13_method_112_code
def yX11_restore : MethodName := ⟨RX11, "restore", "(II)I"⟩
theorem dX11_restore_0 : decode cX11_restore 0 = .ok (.aload_n 0, 1) := by decide +kernel
theorem dX11_restore_1 : decode cX11_restore 1 = .ok (.iconst 0, 1) := by decide +kernel
theorem dX11_restore_2 : decode cX11_restore 2 = .ok (.putfield 3, 3) := by decide +kernel
theorem dX11_restore_5 : decode cX11_restore 5 = .ok (.aload_n 0, 1) := by decide +kernel
theorem dX11_restore_6 : decode cX11_restore 6 = .ok (.iload_n 1, 1) := by decide +kernel
theorem dX11_restore_7 : decode cX11_restore 7 = .ok (.invokevirtual 284, 3) := by decide +kernel
theorem dX11_restore_10 : decode cX11_restore 10 = .ok (.ifCond .ne 29, 3) := by decide +kernel
theorem dX11_restore_13 : decode cX11_restore 13 = .ok (.aload_n 0, 1) := by decide +kernel
theorem dX11_restore_14 : decode cX11_restore 14 = .ok (.iload_n 2, 1) := by decide +kernel
theorem dX11_restore_15 : decode cX11_restore 15 = .ok (.invokevirtual 284, 3) := by decide +kernel
theorem dX11_restore_18 : decode cX11_restore 18 = .ok (.ifCond .ne 21, 3) := by decide +kernel
theorem dX11_restore_21 : decode cX11_restore 21 = .ok (.aload_n 0, 1) := by decide +kernel
theorem dX11_restore_22 : decode cX11_restore 22 = .ok (.iload_n 2, 1) := by decide +kernel
theorem dX11_restore_23 : decode cX11_restore 23 = .ok (.iload_n 1, 1) := by decide +kernel
theorem dX11_restore_24 : decode cX11_restore 24 = .ok (.if_icmp .ge 7, 3) := by decide +kernel
theorem dX11_restore_27 : decode cX11_restore 27 = .ok (.iconst 1, 1) := by decide +kernel
theorem dX11_restore_28 : decode cX11_restore 28 = .ok (.goto 4, 3) := by decide +kernel
theorem dX11_restore_31 : decode cX11_restore 31 = .ok (.iconst 0, 1) := by decide +kernel
theorem dX11_restore_32 : decode cX11_restore 32 = .ok (.iconst 2, 1) := by decide +kernel
theorem dX11_restore_33 : decode cX11_restore 33 = .ok (.invokevirtual 216, 3) := by decide +kernel
theorem dX11_restore_36 : decode cX11_restore 36 = .ok (.ifCond .eq 5, 3) := by decide +kernel
theorem dX11_restore_39 : decode cX11_restore 39 = .ok (.iconst 0, 1) := by decide +kernel
theorem dX11_restore_40 : decode cX11_restore 40 = .ok (.ireturn, 1) := by decide +kernel
theorem dX11_restore_41 : decode cX11_restore 41 = .ok (.aload_n 0, 1) := by decide +kernel
theorem dX11_restore_42 : decode cX11_restore 42 = .ok (.invokevirtual 390, 3) := by decide +kernel
theorem dX11_restore_45 : decode cX11_restore 45 = .ok (.aload_n 0, 1) := by decide +kernel
theorem dX11_restore_46 : decode cX11_restore 46 = .ok (.iload_n 1, 1) := by decide +kernel
theorem dX11_restore_47 : decode cX11_restore 47 = .ok (.iload_n 2, 1) := by decide +kernel
theorem dX11_restore_48 : decode cX11_restore 48 = .ok (.invokevirtual 387, 3) := by decide +kernel
theorem dX11_restore_51 : decode cX11_restore 51 = .ok (.ireturn, 1) := by decide +kernel
theorem ci_X11_restore : Cond.instanceMethod yX11_restore ∈ TW := TW_of 1950 (by decide +kernel) (by decide +kernel)
theorem cs_X11_restore : Cond.selects yX11_restore.cls yX11_restore yX11_restore ∈ TW := TW_of 1951 (by decide +kernel) (by decide +kernel)
abbrev cX11_move : ByteArray := prog_13_method_113_code
def yX11_move : MethodName := ⟨RX11, "move", "(III)I"⟩
theorem dX11_move_0 : decode cX11_move 0 = .ok (.aload_n 0, 1) := by decide +kernel
theorem dX11_move_1 : decode cX11_move 1 = .ok (.iconst 0, 1) := by decide +kernel
theorem dX11_move_2 : decode cX11_move 2 = .ok (.putfield 3, 3) := by decide +kernel
theorem dX11_move_5 : decode cX11_move 5 = .ok (.aload_n 0, 1) := by decide +kernel
theorem dX11_move_6 : decode cX11_move 6 = .ok (.iload_n 1, 1) := by decide +kernel
theorem dX11_move_7 : decode cX11_move 7 = .ok (.invokevirtual 320, 3) := by decide +kernel
theorem dX11_move_10 : decode cX11_move 10 = .ok (.ifCond .ne 55, 3) := by decide +kernel
theorem dX11_move_13 : decode cX11_move 13 = .ok (.aload_n 0, 1) := by decide +kernel
theorem dX11_move_14 : decode cX11_move 14 = .ok (.iload_n 2, 1) := by decide +kernel
theorem dX11_move_15 : decode cX11_move 15 = .ok (.invokevirtual 320, 3) := by decide +kernel
theorem dX11_move_18 : decode cX11_move 18 = .ok (.ifCond .ne 47, 3) := by decide +kernel
theorem dX11_move_21 : decode cX11_move 21 = .ok (.aload_n 0, 1) := by decide +kernel
theorem dX11_move_22 : decode cX11_move 22 = .ok (.iload_n 2, 1) := by decide +kernel
theorem dX11_move_23 : decode cX11_move 23 = .ok (.iload_n 1, 1) := by decide +kernel
theorem dX11_move_24 : decode cX11_move 24 = .ok (.if_icmp .lt 29, 3) := by decide +kernel
theorem dX11_move_27 : decode cX11_move 27 = .ok (.iload_n 3, 1) := by decide +kernel
theorem dX11_move_28 : decode cX11_move 28 = .ok (.iconst (-1), 1) := by decide +kernel
theorem dX11_move_29 : decode cX11_move 29 = .ok (.aload_n 0, 1) := by decide +kernel
theorem dX11_move_30 : decode cX11_move 30 = .ok (.getfield 38, 3) := by decide +kernel
theorem dX11_move_33 : decode cX11_move 33 = .ok (.bipush 40, 2) := by decide +kernel
theorem dX11_move_35 : decode cX11_move 35 = .ok (.iaload, 1) := by decide +kernel
theorem dX11_move_36 : decode cX11_move 36 = .ok (.iconst 1, 1) := by decide +kernel
theorem dX11_move_37 : decode cX11_move 37 = .ok (.isub, 1) := by decide +kernel
theorem dX11_move_38 : decode cX11_move 38 = .ok (.invokestatic 166, 3) := by decide +kernel
theorem dX11_move_41 : decode cX11_move 41 = .ok (.ifCond .eq 12, 3) := by decide +kernel
theorem dX11_move_44 : decode cX11_move 44 = .ok (.iload_n 3, 1) := by decide +kernel
theorem dX11_move_45 : decode cX11_move 45 = .ok (.iload_n 1, 1) := by decide +kernel
theorem dX11_move_46 : decode cX11_move 46 = .ok (.iload_n 2, 1) := by decide +kernel
theorem dX11_move_47 : decode cX11_move 47 = .ok (.invokestatic 166, 3) := by decide +kernel
theorem dX11_move_50 : decode cX11_move 50 = .ok (.ifCond .eq 7, 3) := by decide +kernel
theorem dX11_move_53 : decode cX11_move 53 = .ok (.iconst 1, 1) := by decide +kernel
theorem dX11_move_54 : decode cX11_move 54 = .ok (.goto 4, 3) := by decide +kernel
theorem dX11_move_57 : decode cX11_move 57 = .ok (.iconst 0, 1) := by decide +kernel
theorem dX11_move_58 : decode cX11_move 58 = .ok (.iconst 2, 1) := by decide +kernel
theorem dX11_move_59 : decode cX11_move 59 = .ok (.invokevirtual 216, 3) := by decide +kernel
theorem dX11_move_62 : decode cX11_move 62 = .ok (.ifCond .eq 5, 3) := by decide +kernel
theorem dX11_move_65 : decode cX11_move 65 = .ok (.iconst 0, 1) := by decide +kernel
theorem dX11_move_66 : decode cX11_move 66 = .ok (.ireturn, 1) := by decide +kernel
theorem dX11_move_67 : decode cX11_move 67 = .ok (.aload_n 0, 1) := by decide +kernel
theorem dX11_move_68 : decode cX11_move 68 = .ok (.invokevirtual 390, 3) := by decide +kernel
theorem dX11_move_71 : decode cX11_move 71 = .ok (.aload_n 0, 1) := by decide +kernel
theorem dX11_move_72 : decode cX11_move 72 = .ok (.iload_n 1, 1) := by decide +kernel
theorem dX11_move_73 : decode cX11_move 73 = .ok (.iload_n 2, 1) := by decide +kernel
theorem dX11_move_74 : decode cX11_move 74 = .ok (.iload_n 3, 1) := by decide +kernel
theorem dX11_move_75 : decode cX11_move 75 = .ok (.invokevirtual 393, 3) := by decide +kernel
theorem dX11_move_78 : decode cX11_move 78 = .ok (.ireturn, 1) := by decide +kernel
theorem ci_X11_move : Cond.instanceMethod yX11_move ∈ TW := TW_of 1954 (by decide +kernel) (by decide +kernel)
theorem cs_X11_move : Cond.selects yX11_move.cls yX11_move yX11_move ∈ TW := TW_of 1955 (by decide +kernel) (by decide +kernel)
abbrev cX11_setHandles : ByteArray := prog_13_method_114_code
def yX11_setHandles : MethodName := ⟨RX11, "setHandles", "(III)I"⟩
theorem dX11_setHandles_0 : decode cX11_setHandles 0 = .ok (.aload_n 0, 1) := by decide +kernel
theorem dX11_setHandles_1 : decode cX11_setHandles 1 = .ok (.iconst 0, 1) := by decide +kernel
theorem dX11_setHandles_2 : decode cX11_setHandles 2 = .ok (.putfield 3, 3) := by decide +kernel
theorem dX11_setHandles_5 : decode cX11_setHandles 5 = .ok (.aload_n 0, 1) := by decide +kernel
theorem dX11_setHandles_6 : decode cX11_setHandles 6 = .ok (.iload_n 1, 1) := by decide +kernel
theorem dX11_setHandles_7 : decode cX11_setHandles 7 = .ok (.invokevirtual 293, 3) := by decide +kernel
theorem dX11_setHandles_10 : decode cX11_setHandles 10 = .ok (.ifCond .ne 38, 3) := by decide +kernel
theorem dX11_setHandles_13 : decode cX11_setHandles 13 = .ok (.aload_n 0, 1) := by decide +kernel
theorem dX11_setHandles_14 : decode cX11_setHandles 14 = .ok (.iload_n 2, 1) := by decide +kernel
theorem dX11_setHandles_15 : decode cX11_setHandles 15 = .ok (.iconst 0, 1) := by decide +kernel
theorem dX11_setHandles_16 : decode cX11_setHandles 16 = .ok (.sipush 999, 3) := by decide +kernel
theorem dX11_setHandles_19 : decode cX11_setHandles 19 = .ok (.invokestatic 166, 3) := by decide +kernel
theorem dX11_setHandles_22 : decode cX11_setHandles 22 = .ok (.ifCond .eq 14, 3) := by decide +kernel
theorem dX11_setHandles_25 : decode cX11_setHandles 25 = .ok (.iload_n 3, 1) := by decide +kernel
theorem dX11_setHandles_26 : decode cX11_setHandles 26 = .ok (.iconst 0, 1) := by decide +kernel
theorem dX11_setHandles_27 : decode cX11_setHandles 27 = .ok (.sipush 999, 3) := by decide +kernel
theorem dX11_setHandles_30 : decode cX11_setHandles 30 = .ok (.invokestatic 166, 3) := by decide +kernel
theorem dX11_setHandles_33 : decode cX11_setHandles 33 = .ok (.ifCond .ne 7, 3) := by decide +kernel
theorem dX11_setHandles_36 : decode cX11_setHandles 36 = .ok (.iconst 1, 1) := by decide +kernel
theorem dX11_setHandles_37 : decode cX11_setHandles 37 = .ok (.goto 4, 3) := by decide +kernel
theorem dX11_setHandles_40 : decode cX11_setHandles 40 = .ok (.iconst 0, 1) := by decide +kernel
theorem dX11_setHandles_41 : decode cX11_setHandles 41 = .ok (.iconst 2, 1) := by decide +kernel
theorem dX11_setHandles_42 : decode cX11_setHandles 42 = .ok (.invokevirtual 216, 3) := by decide +kernel
theorem dX11_setHandles_45 : decode cX11_setHandles 45 = .ok (.ifCond .eq 5, 3) := by decide +kernel
theorem dX11_setHandles_48 : decode cX11_setHandles 48 = .ok (.iconst 0, 1) := by decide +kernel
theorem dX11_setHandles_49 : decode cX11_setHandles 49 = .ok (.ireturn, 1) := by decide +kernel
theorem dX11_setHandles_50 : decode cX11_setHandles 50 = .ok (.aload_n 0, 1) := by decide +kernel
theorem dX11_setHandles_51 : decode cX11_setHandles 51 = .ok (.invokevirtual 390, 3) := by decide +kernel
theorem dX11_setHandles_54 : decode cX11_setHandles 54 = .ok (.aload_n 0, 1) := by decide +kernel
theorem dX11_setHandles_55 : decode cX11_setHandles 55 = .ok (.getfield 38, 3) := by decide +kernel
theorem dX11_setHandles_58 : decode cX11_setHandles 58 = .ok (.bipush 81, 2) := by decide +kernel
theorem dX11_setHandles_60 : decode cX11_setHandles 60 = .ok (.iload_n 1, 1) := by decide +kernel
theorem dX11_setHandles_61 : decode cX11_setHandles 61 = .ok (.iadd, 1) := by decide +kernel
theorem dX11_setHandles_62 : decode cX11_setHandles 62 = .ok (.iload_n 2, 1) := by decide +kernel
theorem dX11_setHandles_63 : decode cX11_setHandles 63 = .ok (.iastore, 1) := by decide +kernel
theorem dX11_setHandles_64 : decode cX11_setHandles 64 = .ok (.aload_n 0, 1) := by decide +kernel
theorem dX11_setHandles_65 : decode cX11_setHandles 65 = .ok (.getfield 38, 3) := by decide +kernel
theorem dX11_setHandles_68 : decode cX11_setHandles 68 = .ok (.bipush 121, 2) := by decide +kernel
theorem dX11_setHandles_70 : decode cX11_setHandles 70 = .ok (.iload_n 1, 1) := by decide +kernel
theorem dX11_setHandles_71 : decode cX11_setHandles 71 = .ok (.iadd, 1) := by decide +kernel
theorem dX11_setHandles_72 : decode cX11_setHandles 72 = .ok (.iload_n 3, 1) := by decide +kernel
theorem dX11_setHandles_73 : decode cX11_setHandles 73 = .ok (.iastore, 1) := by decide +kernel
theorem dX11_setHandles_74 : decode cX11_setHandles 74 = .ok (.aload_n 0, 1) := by decide +kernel
theorem dX11_setHandles_75 : decode cX11_setHandles 75 = .ok (.iload_n 1, 1) := by decide +kernel
theorem dX11_setHandles_76 : decode cX11_setHandles 76 = .ok (.invokevirtual 278, 3) := by decide +kernel
theorem dX11_setHandles_79 : decode cX11_setHandles 79 = .ok (.iconst (-1), 1) := by decide +kernel
theorem dX11_setHandles_80 : decode cX11_setHandles 80 = .ok (.if_icmp .ne 7, 3) := by decide +kernel
theorem dX11_setHandles_83 : decode cX11_setHandles 83 = .ok (.iconst 0, 1) := by decide +kernel
theorem dX11_setHandles_84 : decode cX11_setHandles 84 = .ok (.goto 8, 3) := by decide +kernel
theorem dX11_setHandles_87 : decode cX11_setHandles 87 = .ok (.aload_n 0, 1) := by decide +kernel
theorem dX11_setHandles_88 : decode cX11_setHandles 88 = .ok (.iload_n 1, 1) := by decide +kernel
theorem dX11_setHandles_89 : decode cX11_setHandles 89 = .ok (.invokevirtual 314, 3) := by decide +kernel
theorem dX11_setHandles_92 : decode cX11_setHandles 92 = .ok (.ireturn, 1) := by decide +kernel
theorem ci_X11_setHandles : Cond.instanceMethod yX11_setHandles ∈ TW := TW_of 1962 (by decide +kernel) (by decide +kernel)
theorem cs_X11_setHandles : Cond.selects yX11_setHandles.cls yX11_setHandles yX11_setHandles ∈ TW := TW_of 1963 (by decide +kernel) (by decide +kernel)
abbrev cX11_phraseEnd : ByteArray := prog_13_method_115_code
def yX11_phraseEnd : MethodName := ⟨RX11, "phraseEnd", "(I)I"⟩
theorem dX11_phraseEnd_0 : decode cX11_phraseEnd 0 = .ok (.iload_n 1, 1) := by decide +kernel
theorem dX11_phraseEnd_1 : decode cX11_phraseEnd 1 = .ok (.iconst 1, 1) := by decide +kernel
theorem dX11_phraseEnd_2 : decode cX11_phraseEnd 2 = .ok (.iadd, 1) := by decide +kernel
theorem dX11_phraseEnd_3 : decode cX11_phraseEnd 3 = .ok (.aload_n 0, 1) := by decide +kernel
theorem dX11_phraseEnd_4 : decode cX11_phraseEnd 4 = .ok (.getfield 57, 3) := by decide +kernel
theorem dX11_phraseEnd_7 : decode cX11_phraseEnd 7 = .ok (.iload_n 1, 1) := by decide +kernel
theorem dX11_phraseEnd_8 : decode cX11_phraseEnd 8 = .ok (.iaload, 1) := by decide +kernel
theorem dX11_phraseEnd_9 : decode cX11_phraseEnd 9 = .ok (.iadd, 1) := by decide +kernel
theorem dX11_phraseEnd_10 : decode cX11_phraseEnd 10 = .ok (.ireturn, 1) := by decide +kernel
theorem ci_X11_phraseEnd : Cond.instanceMethod yX11_phraseEnd ∈ TW := TW_of 1979 (by decide +kernel) (by decide +kernel)
theorem cs_X11_phraseEnd : Cond.selects yX11_phraseEnd.cls yX11_phraseEnd yX11_phraseEnd ∈ TW := TW_of 93 (by decide +kernel) (by decide +kernel)
abbrev cX11_find : ByteArray := prog_13_method_116_code
def yX11_find : MethodName := ⟨RX11, "find", "(I)I"⟩
theorem dX11_find_0 : decode cX11_find 0 = .ok (.aload_n 0, 1) := by decide +kernel
theorem dX11_find_1 : decode cX11_find 1 = .ok (.invokevirtual 359, 3) := by decide +kernel
theorem dX11_find_4 : decode cX11_find 4 = .ok (.aload_n 0, 1) := by decide +kernel
theorem dX11_find_5 : decode cX11_find 5 = .ok (.getfield 57, 3) := by decide +kernel
theorem dX11_find_8 : decode cX11_find 8 = .ok (.iload_n 1, 1) := by decide +kernel
theorem dX11_find_9 : decode cX11_find 9 = .ok (.iaload, 1) := by decide +kernel
theorem dX11_find_10 : decode cX11_find 10 = .ok (.istore_n 2, 1) := by decide +kernel
theorem dX11_find_11 : decode cX11_find 11 = .ok (.iconst 0, 1) := by decide +kernel
theorem dX11_find_12 : decode cX11_find 12 = .ok (.istore_n 3, 1) := by decide +kernel
theorem dX11_find_13 : decode cX11_find 13 = .ok (.iload_n 3, 1) := by decide +kernel
theorem dX11_find_14 : decode cX11_find 14 = .ok (.iload_n 2, 1) := by decide +kernel
theorem dX11_find_15 : decode cX11_find 15 = .ok (.iadd, 1) := by decide +kernel
theorem dX11_find_16 : decode cX11_find 16 = .ok (.aload_n 0, 1) := by decide +kernel
theorem dX11_find_17 : decode cX11_find 17 = .ok (.getfield 356, 3) := by decide +kernel
theorem dX11_find_20 : decode cX11_find 20 = .ok (.if_icmp .gt 74, 3) := by decide +kernel
theorem dX11_find_23 : decode cX11_find 23 = .ok (.iconst 1, 1) := by decide +kernel
theorem dX11_find_24 : decode cX11_find 24 = .ok (.istore 4, 2) := by decide +kernel
theorem dX11_find_26 : decode cX11_find 26 = .ok (.iconst 0, 1) := by decide +kernel
theorem dX11_find_27 : decode cX11_find 27 = .ok (.istore 5, 2) := by decide +kernel
theorem dX11_find_29 : decode cX11_find 29 = .ok (.iload 5, 2) := by decide +kernel
theorem dX11_find_31 : decode cX11_find 31 = .ok (.iload_n 2, 1) := by decide +kernel
theorem dX11_find_32 : decode cX11_find 32 = .ok (.if_icmp .ge 49, 3) := by decide +kernel
theorem dX11_find_35 : decode cX11_find 35 = .ok (.iload 4, 2) := by decide +kernel
theorem dX11_find_37 : decode cX11_find 37 = .ok (.ifCond .eq 35, 3) := by decide +kernel
theorem dX11_find_40 : decode cX11_find 40 = .ok (.aload_n 0, 1) := by decide +kernel
theorem dX11_find_41 : decode cX11_find 41 = .ok (.aload_n 0, 1) := by decide +kernel
theorem dX11_find_42 : decode cX11_find 42 = .ok (.getfield 63, 3) := by decide +kernel
theorem dX11_find_45 : decode cX11_find 45 = .ok (.iload_n 3, 1) := by decide +kernel
theorem dX11_find_46 : decode cX11_find 46 = .ok (.iload 5, 2) := by decide +kernel
theorem dX11_find_48 : decode cX11_find 48 = .ok (.iadd, 1) := by decide +kernel
theorem dX11_find_49 : decode cX11_find 49 = .ok (.iaload, 1) := by decide +kernel
theorem dX11_find_50 : decode cX11_find 50 = .ok (.iconst 1, 1) := by decide +kernel
theorem dX11_find_51 : decode cX11_find 51 = .ok (.invokevirtual 94, 3) := by decide +kernel
theorem dX11_find_54 : decode cX11_find 54 = .ok (.aload_n 0, 1) := by decide +kernel
theorem dX11_find_55 : decode cX11_find 55 = .ok (.getfield 57, 3) := by decide +kernel
theorem dX11_find_58 : decode cX11_find 58 = .ok (.iload_n 1, 1) := by decide +kernel
theorem dX11_find_59 : decode cX11_find 59 = .ok (.iconst 1, 1) := by decide +kernel
theorem dX11_find_60 : decode cX11_find 60 = .ok (.iadd, 1) := by decide +kernel
theorem dX11_find_61 : decode cX11_find 61 = .ok (.iload 5, 2) := by decide +kernel
theorem dX11_find_63 : decode cX11_find 63 = .ok (.iadd, 1) := by decide +kernel
theorem dX11_find_64 : decode cX11_find 64 = .ok (.iaload, 1) := by decide +kernel
theorem dX11_find_65 : decode cX11_find 65 = .ok (.if_icmp .ne 7, 3) := by decide +kernel
theorem dX11_find_68 : decode cX11_find 68 = .ok (.iconst 1, 1) := by decide +kernel
theorem dX11_find_69 : decode cX11_find 69 = .ok (.goto 4, 3) := by decide +kernel
theorem dX11_find_72 : decode cX11_find 72 = .ok (.iconst 0, 1) := by decide +kernel
theorem dX11_find_73 : decode cX11_find 73 = .ok (.istore 4, 2) := by decide +kernel
theorem dX11_find_75 : decode cX11_find 75 = .ok (.iinc 5 1, 3) := by decide +kernel
theorem dX11_find_78 : decode cX11_find 78 = .ok (.goto (-49), 3) := by decide +kernel
theorem dX11_find_81 : decode cX11_find 81 = .ok (.iload 4, 2) := by decide +kernel
theorem dX11_find_83 : decode cX11_find 83 = .ok (.ifCond .eq 5, 3) := by decide +kernel
theorem dX11_find_86 : decode cX11_find 86 = .ok (.iload_n 3, 1) := by decide +kernel
theorem dX11_find_87 : decode cX11_find 87 = .ok (.ireturn, 1) := by decide +kernel
theorem dX11_find_88 : decode cX11_find 88 = .ok (.iinc 3 1, 3) := by decide +kernel
theorem dX11_find_91 : decode cX11_find 91 = .ok (.goto (-78), 3) := by decide +kernel
theorem dX11_find_94 : decode cX11_find 94 = .ok (.iconst (-1), 1) := by decide +kernel
theorem dX11_find_95 : decode cX11_find 95 = .ok (.ireturn, 1) := by decide +kernel
theorem ci_X11_find : Cond.instanceMethod yX11_find ∈ TW := TW_of 1983 (by decide +kernel) (by decide +kernel)
theorem cs_X11_find : Cond.selects yX11_find.cls yX11_find yX11_find ∈ TW := TW_of 94 (by decide +kernel) (by decide +kernel)
abbrev cX11_cutsPhrase : ByteArray := prog_13_method_117_code
def yX11_cutsPhrase : MethodName := ⟨RX11, "cutsPhrase", "(I)Z"⟩
theorem dX11_cutsPhrase_0 : decode cX11_cutsPhrase 0 = .ok (.aload_n 0, 1) := by decide +kernel
theorem dX11_cutsPhrase_1 : decode cX11_cutsPhrase 1 = .ok (.iload_n 1, 1) := by decide +kernel
theorem dX11_cutsPhrase_2 : decode cX11_cutsPhrase 2 = .ok (.invokevirtual 397, 3) := by decide +kernel
theorem dX11_cutsPhrase_5 : decode cX11_cutsPhrase 5 = .ok (.istore_n 2, 1) := by decide +kernel
theorem dX11_cutsPhrase_6 : decode cX11_cutsPhrase 6 = .ok (.iload_n 2, 1) := by decide +kernel
theorem dX11_cutsPhrase_7 : decode cX11_cutsPhrase 7 = .ok (.iconst (-1), 1) := by decide +kernel
theorem dX11_cutsPhrase_8 : decode cX11_cutsPhrase 8 = .ok (.if_icmp .eq 18, 3) := by decide +kernel
theorem dX11_cutsPhrase_11 : decode cX11_cutsPhrase 11 = .ok (.aload_n 0, 1) := by decide +kernel
theorem dX11_cutsPhrase_12 : decode cX11_cutsPhrase 12 = .ok (.iload_n 2, 1) := by decide +kernel
theorem dX11_cutsPhrase_13 : decode cX11_cutsPhrase 13 = .ok (.iload_n 2, 1) := by decide +kernel
theorem dX11_cutsPhrase_14 : decode cX11_cutsPhrase 14 = .ok (.aload_n 0, 1) := by decide +kernel
theorem dX11_cutsPhrase_15 : decode cX11_cutsPhrase 15 = .ok (.getfield 57, 3) := by decide +kernel
theorem dX11_cutsPhrase_18 : decode cX11_cutsPhrase 18 = .ok (.iload_n 1, 1) := by decide +kernel
theorem dX11_cutsPhrase_19 : decode cX11_cutsPhrase 19 = .ok (.iaload, 1) := by decide +kernel
theorem dX11_cutsPhrase_20 : decode cX11_cutsPhrase 20 = .ok (.iadd, 1) := by decide +kernel
theorem dX11_cutsPhrase_21 : decode cX11_cutsPhrase 21 = .ok (.iconst 1, 1) := by decide +kernel
theorem dX11_cutsPhrase_22 : decode cX11_cutsPhrase 22 = .ok (.isub, 1) := by decide +kernel
theorem dX11_cutsPhrase_23 : decode cX11_cutsPhrase 23 = .ok (.invokevirtual 381, 3) := by decide +kernel
theorem dX11_cutsPhrase_26 : decode cX11_cutsPhrase 26 = .ok (.iload_n 2, 1) := by decide +kernel
theorem dX11_cutsPhrase_27 : decode cX11_cutsPhrase 27 = .ok (.iconst (-1), 1) := by decide +kernel
theorem dX11_cutsPhrase_28 : decode cX11_cutsPhrase 28 = .ok (.if_icmp .eq 7, 3) := by decide +kernel
theorem dX11_cutsPhrase_31 : decode cX11_cutsPhrase 31 = .ok (.iconst 1, 1) := by decide +kernel
theorem dX11_cutsPhrase_32 : decode cX11_cutsPhrase 32 = .ok (.goto 4, 3) := by decide +kernel
theorem dX11_cutsPhrase_35 : decode cX11_cutsPhrase 35 = .ok (.iconst 0, 1) := by decide +kernel
theorem dX11_cutsPhrase_36 : decode cX11_cutsPhrase 36 = .ok (.ireturn, 1) := by decide +kernel
theorem ci_X11_cutsPhrase : Cond.instanceMethod yX11_cutsPhrase ∈ TW := TW_of 1991 (by decide +kernel) (by decide +kernel)
theorem cs_X11_cutsPhrase : Cond.selects yX11_cutsPhrase.cls yX11_cutsPhrase yX11_cutsPhrase ∈ TW := TW_of 96 (by decide +kernel) (by decide +kernel)
abbrev cX11_cleans : ByteArray := prog_13_method_118_code
def yX11_cleans : MethodName := ⟨RX11, "cleans", "(I)Z"⟩
theorem dX11_cleans_0 : decode cX11_cleans 0 = .ok (.iconst 0, 1) := by decide +kernel
theorem dX11_cleans_1 : decode cX11_cleans 1 = .ok (.istore_n 2, 1) := by decide +kernel
theorem dX11_cleans_2 : decode cX11_cleans 2 = .ok (.aload_n 0, 1) := by decide +kernel
theorem dX11_cleans_3 : decode cX11_cleans 3 = .ok (.iload_n 1, 1) := by decide +kernel
theorem dX11_cleans_4 : decode cX11_cleans 4 = .ok (.invokevirtual 400, 3) := by decide +kernel
theorem dX11_cleans_7 : decode cX11_cleans 7 = .ok (.ifCond .eq 8, 3) := by decide +kernel
theorem dX11_cleans_10 : decode cX11_cleans 10 = .ok (.iconst 1, 1) := by decide +kernel
theorem dX11_cleans_11 : decode cX11_cleans 11 = .ok (.istore_n 2, 1) := by decide +kernel
theorem dX11_cleans_12 : decode cX11_cleans 12 = .ok (.goto (-10), 3) := by decide +kernel
theorem dX11_cleans_15 : decode cX11_cleans 15 = .ok (.iload_n 2, 1) := by decide +kernel
theorem dX11_cleans_16 : decode cX11_cleans 16 = .ok (.ireturn, 1) := by decide +kernel
theorem ci_X11_cleans : Cond.instanceMethod yX11_cleans ∈ TW := TW_of 1995 (by decide +kernel) (by decide +kernel)
theorem cs_X11_cleans : Cond.selects yX11_cleans.cls yX11_cleans yX11_cleans ∈ TW := TW_of 97 (by decide +kernel) (by decide +kernel)
abbrev cX11_restoresPhrase : ByteArray := prog_13_method_119_code
def yX11_restoresPhrase : MethodName := ⟨RX11, "restoresPhrase", "(I)Z"⟩
theorem dX11_restoresPhrase_0 : decode cX11_restoresPhrase 0 = .ok (.aload_n 0, 1) := by decide +kernel
theorem dX11_restoresPhrase_1 : decode cX11_restoresPhrase 1 = .ok (.getfield 57, 3) := by decide +kernel
theorem dX11_restoresPhrase_4 : decode cX11_restoresPhrase 4 = .ok (.iload_n 1, 1) := by decide +kernel
theorem dX11_restoresPhrase_5 : decode cX11_restoresPhrase 5 = .ok (.iaload, 1) := by decide +kernel
theorem dX11_restoresPhrase_6 : decode cX11_restoresPhrase 6 = .ok (.istore_n 2, 1) := by decide +kernel
theorem dX11_restoresPhrase_7 : decode cX11_restoresPhrase 7 = .ok (.iconst 0, 1) := by decide +kernel
theorem dX11_restoresPhrase_8 : decode cX11_restoresPhrase 8 = .ok (.istore_n 3, 1) := by decide +kernel
theorem dX11_restoresPhrase_9 : decode cX11_restoresPhrase 9 = .ok (.iload_n 3, 1) := by decide +kernel
theorem dX11_restoresPhrase_10 : decode cX11_restoresPhrase 10 = .ok (.iload_n 2, 1) := by decide +kernel
theorem dX11_restoresPhrase_11 : decode cX11_restoresPhrase 11 = .ok (.iadd, 1) := by decide +kernel
theorem dX11_restoresPhrase_12 : decode cX11_restoresPhrase 12 = .ok (.aload_n 0, 1) := by decide +kernel
theorem dX11_restoresPhrase_13 : decode cX11_restoresPhrase 13 = .ok (.invokevirtual 90, 3) := by decide +kernel
theorem dX11_restoresPhrase_16 : decode cX11_restoresPhrase 16 = .ok (.if_icmp .gt 117, 3) := by decide +kernel
theorem dX11_restoresPhrase_19 : decode cX11_restoresPhrase 19 = .ok (.iconst 1, 1) := by decide +kernel
theorem dX11_restoresPhrase_20 : decode cX11_restoresPhrase 20 = .ok (.istore 4, 2) := by decide +kernel
theorem dX11_restoresPhrase_22 : decode cX11_restoresPhrase 22 = .ok (.iconst 0, 1) := by decide +kernel
theorem dX11_restoresPhrase_23 : decode cX11_restoresPhrase 23 = .ok (.istore 5, 2) := by decide +kernel
theorem dX11_restoresPhrase_25 : decode cX11_restoresPhrase 25 = .ok (.iconst 0, 1) := by decide +kernel
theorem dX11_restoresPhrase_26 : decode cX11_restoresPhrase 26 = .ok (.istore 6, 2) := by decide +kernel
theorem dX11_restoresPhrase_28 : decode cX11_restoresPhrase 28 = .ok (.iload 6, 2) := by decide +kernel
theorem dX11_restoresPhrase_30 : decode cX11_restoresPhrase 30 = .ok (.iload_n 2, 1) := by decide +kernel
theorem dX11_restoresPhrase_31 : decode cX11_restoresPhrase 31 = .ok (.if_icmp .ge 67, 3) := by decide +kernel
theorem dX11_restoresPhrase_34 : decode cX11_restoresPhrase 34 = .ok (.iload 4, 2) := by decide +kernel
theorem dX11_restoresPhrase_36 : decode cX11_restoresPhrase 36 = .ok (.ifCond .eq 30, 3) := by decide +kernel
theorem dX11_restoresPhrase_39 : decode cX11_restoresPhrase 39 = .ok (.aload_n 0, 1) := by decide +kernel
theorem dX11_restoresPhrase_40 : decode cX11_restoresPhrase 40 = .ok (.iload_n 3, 1) := by decide +kernel
theorem dX11_restoresPhrase_41 : decode cX11_restoresPhrase 41 = .ok (.iload 6, 2) := by decide +kernel
theorem dX11_restoresPhrase_43 : decode cX11_restoresPhrase 43 = .ok (.iadd, 1) := by decide +kernel
theorem dX11_restoresPhrase_44 : decode cX11_restoresPhrase 44 = .ok (.iconst 1, 1) := by decide +kernel
theorem dX11_restoresPhrase_45 : decode cX11_restoresPhrase 45 = .ok (.invokevirtual 94, 3) := by decide +kernel
theorem dX11_restoresPhrase_48 : decode cX11_restoresPhrase 48 = .ok (.aload_n 0, 1) := by decide +kernel
theorem dX11_restoresPhrase_49 : decode cX11_restoresPhrase 49 = .ok (.getfield 57, 3) := by decide +kernel
theorem dX11_restoresPhrase_52 : decode cX11_restoresPhrase 52 = .ok (.iload_n 1, 1) := by decide +kernel
theorem dX11_restoresPhrase_53 : decode cX11_restoresPhrase 53 = .ok (.iconst 1, 1) := by decide +kernel
theorem dX11_restoresPhrase_54 : decode cX11_restoresPhrase 54 = .ok (.iadd, 1) := by decide +kernel
theorem dX11_restoresPhrase_55 : decode cX11_restoresPhrase 55 = .ok (.iload 6, 2) := by decide +kernel
theorem dX11_restoresPhrase_57 : decode cX11_restoresPhrase 57 = .ok (.iadd, 1) := by decide +kernel
theorem dX11_restoresPhrase_58 : decode cX11_restoresPhrase 58 = .ok (.iaload, 1) := by decide +kernel
theorem dX11_restoresPhrase_59 : decode cX11_restoresPhrase 59 = .ok (.if_icmp .ne 7, 3) := by decide +kernel
theorem dX11_restoresPhrase_62 : decode cX11_restoresPhrase 62 = .ok (.iconst 1, 1) := by decide +kernel
theorem dX11_restoresPhrase_63 : decode cX11_restoresPhrase 63 = .ok (.goto 4, 3) := by decide +kernel
theorem dX11_restoresPhrase_66 : decode cX11_restoresPhrase 66 = .ok (.iconst 0, 1) := by decide +kernel
theorem dX11_restoresPhrase_67 : decode cX11_restoresPhrase 67 = .ok (.istore 4, 2) := by decide +kernel
theorem dX11_restoresPhrase_69 : decode cX11_restoresPhrase 69 = .ok (.iload 5, 2) := by decide +kernel
theorem dX11_restoresPhrase_71 : decode cX11_restoresPhrase 71 = .ok (.ifCond .ne 14, 3) := by decide +kernel
theorem dX11_restoresPhrase_74 : decode cX11_restoresPhrase 74 = .ok (.aload_n 0, 1) := by decide +kernel
theorem dX11_restoresPhrase_75 : decode cX11_restoresPhrase 75 = .ok (.iload_n 3, 1) := by decide +kernel
theorem dX11_restoresPhrase_76 : decode cX11_restoresPhrase 76 = .ok (.iload 6, 2) := by decide +kernel
theorem dX11_restoresPhrase_78 : decode cX11_restoresPhrase 78 = .ok (.iadd, 1) := by decide +kernel
theorem dX11_restoresPhrase_79 : decode cX11_restoresPhrase 79 = .ok (.invokevirtual 275, 3) := by decide +kernel
theorem dX11_restoresPhrase_82 : decode cX11_restoresPhrase 82 = .ok (.ifCond .ne 7, 3) := by decide +kernel
theorem dX11_restoresPhrase_85 : decode cX11_restoresPhrase 85 = .ok (.iconst 1, 1) := by decide +kernel
theorem dX11_restoresPhrase_86 : decode cX11_restoresPhrase 86 = .ok (.goto 4, 3) := by decide +kernel
theorem dX11_restoresPhrase_89 : decode cX11_restoresPhrase 89 = .ok (.iconst 0, 1) := by decide +kernel
theorem dX11_restoresPhrase_90 : decode cX11_restoresPhrase 90 = .ok (.istore 5, 2) := by decide +kernel
theorem dX11_restoresPhrase_92 : decode cX11_restoresPhrase 92 = .ok (.iinc 6 1, 3) := by decide +kernel
theorem dX11_restoresPhrase_95 : decode cX11_restoresPhrase 95 = .ok (.goto (-67), 3) := by decide +kernel
theorem dX11_restoresPhrase_98 : decode cX11_restoresPhrase 98 = .ok (.iload 4, 2) := by decide +kernel
theorem dX11_restoresPhrase_100 : decode cX11_restoresPhrase 100 = .ok (.ifCond .eq 27, 3) := by decide +kernel
theorem dX11_restoresPhrase_103 : decode cX11_restoresPhrase 103 = .ok (.iload 5, 2) := by decide +kernel
theorem dX11_restoresPhrase_105 : decode cX11_restoresPhrase 105 = .ok (.ifCond .eq 22, 3) := by decide +kernel
theorem dX11_restoresPhrase_108 : decode cX11_restoresPhrase 108 = .ok (.aload_n 0, 1) := by decide +kernel
theorem dX11_restoresPhrase_109 : decode cX11_restoresPhrase 109 = .ok (.iload_n 3, 1) := by decide +kernel
theorem dX11_restoresPhrase_110 : decode cX11_restoresPhrase 110 = .ok (.iload_n 3, 1) := by decide +kernel
theorem dX11_restoresPhrase_111 : decode cX11_restoresPhrase 111 = .ok (.iload_n 2, 1) := by decide +kernel
theorem dX11_restoresPhrase_112 : decode cX11_restoresPhrase 112 = .ok (.iadd, 1) := by decide +kernel
theorem dX11_restoresPhrase_113 : decode cX11_restoresPhrase 113 = .ok (.iconst 1, 1) := by decide +kernel
theorem dX11_restoresPhrase_114 : decode cX11_restoresPhrase 114 = .ok (.isub, 1) := by decide +kernel
theorem dX11_restoresPhrase_115 : decode cX11_restoresPhrase 115 = .ok (.invokevirtual 387, 3) := by decide +kernel
theorem dX11_restoresPhrase_118 : decode cX11_restoresPhrase 118 = .ok (.ifCond .le 7, 3) := by decide +kernel
theorem dX11_restoresPhrase_121 : decode cX11_restoresPhrase 121 = .ok (.iconst 1, 1) := by decide +kernel
theorem dX11_restoresPhrase_122 : decode cX11_restoresPhrase 122 = .ok (.goto 4, 3) := by decide +kernel
theorem dX11_restoresPhrase_125 : decode cX11_restoresPhrase 125 = .ok (.iconst 0, 1) := by decide +kernel
theorem dX11_restoresPhrase_126 : decode cX11_restoresPhrase 126 = .ok (.ireturn, 1) := by decide +kernel
theorem dX11_restoresPhrase_127 : decode cX11_restoresPhrase 127 = .ok (.iinc 3 1, 3) := by decide +kernel
theorem dX11_restoresPhrase_130 : decode cX11_restoresPhrase 130 = .ok (.goto (-121), 3) := by decide +kernel
theorem dX11_restoresPhrase_133 : decode cX11_restoresPhrase 133 = .ok (.iconst 0, 1) := by decide +kernel
theorem dX11_restoresPhrase_134 : decode cX11_restoresPhrase 134 = .ok (.ireturn, 1) := by decide +kernel
theorem ci_X11_restoresPhrase : Cond.instanceMethod yX11_restoresPhrase ∈ TW := TW_of 1999 (by decide +kernel) (by decide +kernel)
theorem cs_X11_restoresPhrase : Cond.selects yX11_restoresPhrase.cls yX11_restoresPhrase yX11_restoresPhrase ∈ TW := TW_of 98 (by decide +kernel) (by decide +kernel)
theorem cw_X11_365 : CWd RX11 365 yX11_cutsWord cX11_cutsWord 3 none 1 := ⟨TW_of 1905 (by decide +kernel) (by decide +kernel), TW_of 1908 (by decide +kernel) (by decide +kernel), TW_of 112 (by decide +kernel) (by decide +kernel), by decide +kernel⟩
theorem cw_X11_368 : CWd RX11 368 yX11_putsIn cX11_putsIn 4 none 2 := ⟨TW_of 1929 (by decide +kernel) (by decide +kernel), TW_of 1932 (by decide +kernel) (by decide +kernel), TW_of 112 (by decide +kernel) (by decide +kernel), by decide +kernel⟩
theorem cw_X11_372 : CWd RX11 372 yX11_restoresWord cX11_restoresWord 6 none 1 := ⟨TW_of 1925 (by decide +kernel) (by decide +kernel), TW_of 1928 (by decide +kernel) (by decide +kernel), TW_of 112 (by decide +kernel) (by decide +kernel), by decide +kernel⟩
theorem cw_X11_375 : CWd RX11 375 yX11_noPlaces cX11_noPlaces 3 (some .boolean) 2 := ⟨TW_of 1893 (by decide +kernel) (by decide +kernel), TW_of 1896 (by decide +kernel) (by decide +kernel), TW_of 112 (by decide +kernel) (by decide +kernel), by decide +kernel⟩
theorem cw_X11_378 : CWd RX11 378 yX11_putsAside cX11_putsAside 2 none 0 := ⟨TW_of 1897 (by decide +kernel) (by decide +kernel), TW_of 1900 (by decide +kernel) (by decide +kernel), TW_of 112 (by decide +kernel) (by decide +kernel), by decide +kernel⟩
theorem cw_X11_381 : CWd RX11 381 yX11_cutsPlaces cX11_cutsPlaces 4 none 2 := ⟨TW_of 1901 (by decide +kernel) (by decide +kernel), TW_of 1904 (by decide +kernel) (by decide +kernel), TW_of 112 (by decide +kernel) (by decide +kernel), by decide +kernel⟩
theorem cw_X11_384 : CWd RX11 384 yX11_takesBack cX11_takesBack 2 none 0 := ⟨TW_of 1913 (by decide +kernel) (by decide +kernel), TW_of 1916 (by decide +kernel) (by decide +kernel), TW_of 112 (by decide +kernel) (by decide +kernel), by decide +kernel⟩
theorem cw_X11_387 : CWd RX11 387 yX11_restoresAll cX11_restoresAll 5 (some .int) 2 := ⟨TW_of 1921 (by decide +kernel) (by decide +kernel), TW_of 1924 (by decide +kernel) (by decide +kernel), TW_of 112 (by decide +kernel) (by decide +kernel), by decide +kernel⟩
theorem cw_X11_390 : CWd RX11 390 yX11_keeps cX11_keeps 2 none 0 := ⟨TW_of 1941 (by decide +kernel) (by decide +kernel), TW_of 1944 (by decide +kernel) (by decide +kernel), TW_of 112 (by decide +kernel) (by decide +kernel), by decide +kernel⟩
theorem cw_X11_393 : CWd RX11 393 yX11_movesAll cX11_movesAll 7 (some .int) 3 := ⟨TW_of 1957 (by decide +kernel) (by decide +kernel), TW_of 1960 (by decide +kernel) (by decide +kernel), TW_of 112 (by decide +kernel) (by decide +kernel), by decide +kernel⟩
theorem cw_X11_397 : CWd RX11 397 yX11_find cX11_find 6 (some .int) 1 := ⟨TW_of 1981 (by decide +kernel) (by decide +kernel), TW_of 1984 (by decide +kernel) (by decide +kernel), TW_of 112 (by decide +kernel) (by decide +kernel), by decide +kernel⟩
theorem cw_X11_400 : CWd RX11 400 yX11_cutsPhrase cX11_cutsPhrase 3 (some .boolean) 1 := ⟨TW_of 1989 (by decide +kernel) (by decide +kernel), TW_of 1992 (by decide +kernel) (by decide +kernel), TW_of 112 (by decide +kernel) (by decide +kernel), by decide +kernel⟩
set_option maxRecDepth 20000 in
set_option maxHeartbeats 1000000 in
theorem l_X11_cutsPlaces_6 {l : Launch} {Z : ZT} {h : Hp} {p1 : Int32} {p2 : Int32} {p : Program} {e : Env} {s : State} {m : MethodId} {args : Array Value} {below : List Frame} {meth : Method} {c : Code} (C : CX p s m args meth c cX11_cutsPlaces RX11 4 none Z) {out : Hp} : ∀ (n : Nat) (x3 : Int32) (g : Hp) (ls : Array Slot) (H : Heap) (locs : List Loc), XW Z h g s.heap H locs → lv_has ls 4 [(0, .ref (Z.1 125)), (1, .int p1), (2, .int p2), (3, .int x3)] → Lp (F_X11_cutsPlaces_6 p1 p2) n (x3, g) = some out → W p l e (rmD 3) s m args below meth c H locs 0 0 (MQ below (va_Qv (fun (_ : Unit) => True) (fun _ => Wd Z h out) (FR Z)) args s 0 0 (FR Z)) (F0 m 6 ls []) := by
  intro n
  induction n with
  | zero => intro x3 g ls H locs hW hl hf; cases hf
  | succ n ih =>
    intro x3 g ls H locs hW hl hf
    rw [Lp_s] at hf
    refine lv_iload_n C.1 C.2.1 dX11_cutsPlaces_6 rfl (lv_at hl 3 rfl) ?_
    refine lv_iload_n C.1 C.2.1 dX11_cutsPlaces_7 rfl (lv_at hl 2 rfl) ?_
    refine x_cmpgt (tgt := 27) C hf dX11_cutsPlaces_8 (by decide) (fun hf => ?_) (fun hf => ?_)
    · obtain rfl := Option.some.inj hf
      exact x_vret C hW dX11_cutsPlaces_27 trivial
    · refine lv_aload_n C.1 C.2.1 dX11_cutsPlaces_11 rfl (lv_at hl 0 rfl) ?_
      refine lv_aload_n C.1 C.2.1 dX11_cutsPlaces_12 rfl (lv_at hl 0 rfl) ?_
      refine xg_X11_63 C hW (k_125) dX11_cutsPlaces_13 ?_
      refine lv_iload_n C.1 C.2.1 dX11_cutsPlaces_16 rfl (lv_at hl 3 rfl) ?_
      refine x_ialdM C hW a_141 hf dX11_cutsPlaces_17 (fun hf => ?_)
      obtain ⟨u1, hcu1, hf⟩ := bnd_t hf
      refine x_callv hW (x_runV C hW hl (wk9 (k_125)) rfl rfl (c_X11_cutsWord hcu1) (cw_X11_365) ci_X11_cutsWord cs_X11_cutsWord (rm_ok (by decide) (by decide)) ⟨Nat.le_refl _, Nat.le_refl _⟩ (As := [.int (g 141 (ix x3))]) rfl rfl (Nat.le_of_ble_eq_true rfl) dX11_cutsPlaces_18) (fun H locs hW => ?_)
      refine x_iinc (w := 1) C hf dX11_cutsPlaces_21 hl (k := 3) rfl (by decide) (by decide) (fun v2 => [(3, .int v2), (0, .ref (Z.1 125)), (1, .int p1), (2, .int p2)]) (fun _ => rfl) (fun v2 ls hf hl => ?_)
      refine lv_goto (tgt := 6) C.1 C.2.1 dX11_cutsPlaces_24 (by decide) ?_
      exact ih v2 u1 ls _ _ hW (lv_sub hl [1, 2, 3, 0] rfl) hf
set_option maxRecDepth 20000 in
set_option maxHeartbeats 1000000 in
theorem c_X11_cutsPlaces {l : Launch} {Z : ZT} {h : Hp} {g : Hp} {p1 : Int32} {p2 : Int32} {out : Hp} (hf : f_X11_cutsPlaces g p1 p2 = some out) : Met l yX11_cutsPlaces (wY yX11_cutsPlaces cX11_cutsPlaces 4 none) (rmD 3) (va_Pc [.ref (Z.1 125), .int p1, .int p2] (Wd Z h g)) (va_Qv (fun (_ : Unit) => True) (fun _ => Wd Z h out) (FR Z)) 0 0 (FR Z) := by
  refine metX RX11 rfl (by decide +kernel) (Nat.le_of_ble_eq_true rfl) ?_
  intro p e s m args below meth c C hW ls hl
  have hl : lv_has ls 4 [(0, .ref (Z.1 125)), (1, .int p1), (2, .int p2)] := hl
  unfold f_X11_cutsPlaces at hf
  refine lv_aload_n C.1 C.2.1 dX11_cutsPlaces_0 rfl (lv_at hl 0 rfl) ?_
  obtain ⟨u3, hcu3, hf⟩ := bnd_t hf
  refine x_callv hW (x_runV C hW hl (wk9 (k_125)) rfl rfl (c_X11_laysRow hcu3) (cw_X11_359) ci_X11_laysRow cs_X11_laysRow (rm_ok (by decide) (by decide)) ⟨Nat.le_refl _, Nat.le_refl _⟩ (As := []) rfl rfl (Nat.le_of_ble_eq_true rfl) dX11_cutsPlaces_1) (fun H locs hW => ?_)
  refine lv_iload_n C.1 C.2.1 dX11_cutsPlaces_4 rfl (lv_at hl 1 rfl) ?_
  refine lv_istore_n (lv' := [(3, .int p1), (0, .ref (Z.1 125)), (1, .int p1), (2, .int p2)]) C.1 C.2.1 dX11_cutsPlaces_5 rfl hl (by decide) rfl (fun ls hl => ?_)
  exact l_X11_cutsPlaces_6 C FU p1 u3 ls _ _ hW (lv_sub hl [1, 2, 3, 0] rfl) hf
set_option maxRecDepth 20000 in
set_option maxHeartbeats 1000000 in
theorem j_X11_restoresWord_81 {l : Launch} {Z : ZT} {h : Hp} {p1 : Int32} {g : Hp} {x2 : Int32} {x3 : Int32} {p : Program} {e : Env} {s : State} {m : MethodId} {args : Array Value} {below : List Frame} {meth : Method} {c : Code} (C : CX p s m args meth c cX11_restoresWord RX11 6 none Z) {out : Hp} {ls : Array Slot} {H : Heap} {locs : List Loc} (hW : XW Z h g s.heap H locs) (hl : lv_has ls 6 [(0, .ref (Z.1 125)), (1, .int p1), (2, .int x2), (3, .int x3)]) (hf : J_X11_restoresWord_81 p1 g x2 x3 = some out) : W p l e (rmD 1) s m args below meth c H locs 0 0 (MQ below (va_Qv (fun (_ : Unit) => True) (fun _ => Wd Z h out) (FR Z)) args s 0 0 (FR Z)) (F0 m 81 ls []) := by
  rw [J_X11_restoresWord_81] at hf
  refine lv_aload_n C.1 C.2.1 dX11_restoresWord_81 rfl (lv_at hl 0 rfl) ?_
  refine lv_iload_n C.1 C.2.1 dX11_restoresWord_82 rfl (lv_at hl 3 rfl) ?_
  refine lv_iconst (v := 1) C.1 C.2.1 dX11_restoresWord_83 (by decide) ?_
  refine lv_iadd C.1 C.2.1 dX11_restoresWord_84 ?_
  refine lv_iload_n C.1 C.2.1 dX11_restoresWord_85 rfl (lv_at hl 2 rfl) ?_
  obtain ⟨u1, hcu1, hf⟩ := bnd_t hf
  refine x_callv hW (x_runV C hW hl (wk9 (k_125)) rfl rfl (c_X11_putsIn hcu1) (cw_X11_368) ci_X11_putsIn cs_X11_putsIn (rm_ok (by decide) (by decide)) ⟨Nat.le_refl _, Nat.le_refl _⟩ (As := [.int (x3 + (1 : Int32)), .int x2]) rfl rfl (Nat.le_of_ble_eq_true rfl) dX11_restoresWord_86) (fun H locs hW => ?_)
  refine lv_aload_n C.1 C.2.1 dX11_restoresWord_89 rfl (lv_at hl 0 rfl) ?_
  refine xg_X11_38 C hW (k_125) dX11_restoresWord_90 ?_
  refine lv_bipush (v := 81) C.1 C.2.1 dX11_restoresWord_93 (by decide) ?_
  refine lv_iload_n C.1 C.2.1 dX11_restoresWord_95 rfl (lv_at hl 2 rfl) ?_
  refine lv_iadd C.1 C.2.1 dX11_restoresWord_96 ?_
  refine lv_iconst (v := 0) C.1 C.2.1 dX11_restoresWord_97 (by decide) ?_
  refine x_iastM C hW a_134 hf dX11_restoresWord_98 (fun g2 H locs hf hW => ?_)
  refine lv_aload_n C.1 C.2.1 dX11_restoresWord_99 rfl (lv_at hl 0 rfl) ?_
  refine xg_X11_38 C hW (k_125) dX11_restoresWord_100 ?_
  refine lv_bipush (v := 121) C.1 C.2.1 dX11_restoresWord_103 (by decide) ?_
  refine lv_iload_n C.1 C.2.1 dX11_restoresWord_105 rfl (lv_at hl 2 rfl) ?_
  refine lv_iadd C.1 C.2.1 dX11_restoresWord_106 ?_
  refine lv_iconst (v := 0) C.1 C.2.1 dX11_restoresWord_107 (by decide) ?_
  refine x_iastM C hW a_134 hf dX11_restoresWord_108 (fun g3 H locs hf hW => ?_)
  obtain rfl := Option.some.inj hf
  exact x_vret C hW dX11_restoresWord_109 trivial
set_option maxRecDepth 20000 in
set_option maxHeartbeats 1000000 in
theorem j_X11_restoresWord_75 {l : Launch} {Z : ZT} {h : Hp} {p1 : Int32} {g : Hp} {r31 : Int32 × Int32 → Option (Hp)} {x2 : Int32} {x3 : Int32} {x4 : Int32} {p : Program} {e : Env} {s : State} {m : MethodId} {args : Array Value} {below : List Frame} {meth : Method} {c : Code} (C : CX p s m args meth c cX11_restoresWord RX11 6 none Z) {out : Hp} (hr31 : ∀ (x3 : Int32) (x4 : Int32) (ls : Array Slot) (H : Heap) (locs : List Loc), XW Z h g s.heap H locs → lv_has ls 6 [(0, .ref (Z.1 125)), (1, .int p1), (2, .int x2), (3, .int x3), (4, .int x4)] → r31 (x3, x4) = some out → W p l e (rmD 1) s m args below meth c H locs 0 0 (MQ below (va_Qv (fun (_ : Unit) => True) (fun _ => Wd Z h out) (FR Z)) args s 0 0 (FR Z)) (F0 m 31 ls [])) {ls : Array Slot} {H : Heap} {locs : List Loc} (hW : XW Z h g s.heap H locs) (hl : lv_has ls 6 [(0, .ref (Z.1 125)), (1, .int p1), (2, .int x2), (3, .int x3), (4, .int x4)]) (hf : J_X11_restoresWord_75 p1 g r31 x2 x3 x4 = some out) : W p l e (rmD 1) s m args below meth c H locs 0 0 (MQ below (va_Qv (fun (_ : Unit) => True) (fun _ => Wd Z h out) (FR Z)) args s 0 0 (FR Z)) (F0 m 75 ls []) := by
  rw [J_X11_restoresWord_75] at hf
  refine x_iinc (w := 1) C hf dX11_restoresWord_75 hl (k := 4) rfl (by decide) (by decide) (fun v4 => [(4, .int v4), (0, .ref (Z.1 125)), (1, .int p1), (2, .int x2), (3, .int x3)]) (fun _ => rfl) (fun v4 ls hf hl => ?_)
  refine lv_goto (tgt := 31) C.1 C.2.1 dX11_restoresWord_78 (by decide) ?_
  exact hr31 x3 v4 ls _ _ hW (lv_sub hl [1, 2, 3, 4, 0] rfl) hf
set_option maxRecDepth 20000 in
set_option maxHeartbeats 1000000 in
theorem j_X11_restoresWord_72 {l : Launch} {Z : ZT} {h : Hp} {p1 : Int32} {g : Hp} {r31 : Int32 × Int32 → Option (Hp)} {x2 : Int32} {x4 : Int32} {p : Program} {e : Env} {s : State} {m : MethodId} {args : Array Value} {below : List Frame} {meth : Method} {c : Code} (C : CX p s m args meth c cX11_restoresWord RX11 6 none Z) {out : Hp} (hr31 : ∀ (x3 : Int32) (x4 : Int32) (ls : Array Slot) (H : Heap) (locs : List Loc), XW Z h g s.heap H locs → lv_has ls 6 [(0, .ref (Z.1 125)), (1, .int p1), (2, .int x2), (3, .int x3), (4, .int x4)] → r31 (x3, x4) = some out → W p l e (rmD 1) s m args below meth c H locs 0 0 (MQ below (va_Qv (fun (_ : Unit) => True) (fun _ => Wd Z h out) (FR Z)) args s 0 0 (FR Z)) (F0 m 31 ls [])) {ls : Array Slot} {H : Heap} {locs : List Loc} (hW : XW Z h g s.heap H locs) (hl : lv_has ls 6 [(0, .ref (Z.1 125)), (1, .int p1), (2, .int x2), (4, .int x4)]) (hf : J_X11_restoresWord_72 p1 g r31 x2 x4 = some out) : W p l e (rmD 1) s m args below meth c H locs 0 0 (MQ below (va_Qv (fun (_ : Unit) => True) (fun _ => Wd Z h out) (FR Z)) args s 0 0 (FR Z)) (F0 m 72 ls []) := by
  refine lv_iload C.1 C.2.1 dX11_restoresWord_72 (lv_at hl 3 rfl) ?_
  refine lv_istore_n (lv' := [(3, .int x4), (0, .ref (Z.1 125)), (1, .int p1), (2, .int x2), (4, .int x4)]) C.1 C.2.1 dX11_restoresWord_74 rfl hl (by decide) rfl (fun ls hl => ?_)
  exact j_X11_restoresWord_75 C hr31 hW (lv_sub hl [1, 2, 3, 0, 4] rfl) hf
set_option maxRecDepth 20000 in
set_option maxHeartbeats 1000000 in
theorem l_X11_restoresWord_31 {l : Launch} {Z : ZT} {h : Hp} {p1 : Int32} {g : Hp} {x2 : Int32} {p : Program} {e : Env} {s : State} {m : MethodId} {args : Array Value} {below : List Frame} {meth : Method} {c : Code} (C : CX p s m args meth c cX11_restoresWord RX11 6 none Z) {out : Hp} : ∀ (n : Nat) (x3 : Int32) (x4 : Int32) (ls : Array Slot) (H : Heap) (locs : List Loc), XW Z h g s.heap H locs → lv_has ls 6 [(0, .ref (Z.1 125)), (1, .int p1), (2, .int x2), (3, .int x3), (4, .int x4)] → Lp (F_X11_restoresWord_31 p1 g x2) n (x3, x4) = some out → W p l e (rmD 1) s m args below meth c H locs 0 0 (MQ below (va_Qv (fun (_ : Unit) => True) (fun _ => Wd Z h out) (FR Z)) args s 0 0 (FR Z)) (F0 m 31 ls []) := by
  intro n
  induction n with
  | zero => intro x3 x4 ls H locs hW hl hf; cases hf
  | succ n ih =>
    intro x3 x4 ls H locs hW hl hf
    rw [Lp_s] at hf
    refine lv_iload C.1 C.2.1 dX11_restoresWord_31 (lv_at hl 4 rfl) ?_
    refine lv_aload_n C.1 C.2.1 dX11_restoresWord_33 rfl (lv_at hl 0 rfl) ?_
    refine xg_X11_38 C hW (k_125) dX11_restoresWord_34 ?_
    refine lv_bipush (v := 40) C.1 C.2.1 dX11_restoresWord_37 (by decide) ?_
    refine x_ialdM C hW a_134 hf dX11_restoresWord_39 (fun hf => ?_)
    refine x_cmpge (tgt := 81) C hf dX11_restoresWord_40 (by decide) (fun hf => ?_) (fun hf => ?_)
    · exact j_X11_restoresWord_81 C hW (lv_sub hl [0, 1, 2, 3] rfl) hf
    · refine lv_aload_n C.1 C.2.1 dX11_restoresWord_43 rfl (lv_at hl 0 rfl) ?_
      refine lv_iload C.1 C.2.1 dX11_restoresWord_44 (lv_at hl 4 rfl) ?_
      obtain ⟨u5, hcu5, hf⟩ := bnd_t hf
      refine x_calli hW (x_runV C hW hl (wk9 (k_125)) rfl rfl (c_X11_shotBlock hcu5) (cw_X11_311) ci_X11_shotBlock cs_X11_shotBlock (rm_ok (by decide) (by decide)) ⟨Nat.le_refl _, Nat.le_refl _⟩ (As := [.int x4]) rfl rfl (Nat.le_of_ble_eq_true rfl) dX11_restoresWord_46) (fun H locs hW => ?_)
      refine lv_istore (lv' := [(5, .int u5), (0, .ref (Z.1 125)), (1, .int p1), (2, .int x2), (3, .int x3), (4, .int x4)]) C.1 C.2.1 dX11_restoresWord_49 hl (by decide) rfl (fun ls hl => ?_)
      refine lv_iload C.1 C.2.1 dX11_restoresWord_51 (lv_at hl 0 rfl) ?_
      refine lv_iload_n C.1 C.2.1 dX11_restoresWord_53 rfl (lv_at hl 3 rfl) ?_
      refine x_cmpge (tgt := 75) C hf dX11_restoresWord_54 (by decide) (fun hf => ?_) (fun hf => ?_)
      · exact j_X11_restoresWord_75 C (fun z0 z1 => ih z0 z1) hW (lv_sub hl [1, 2, 3, 4, 5] rfl) hf
      · refine lv_iload_n C.1 C.2.1 dX11_restoresWord_57 rfl (lv_at hl 4 rfl) ?_
        refine lv_iconst (v := -1) C.1 C.2.1 dX11_restoresWord_58 (by decide) ?_
        refine x_cmpeq (tgt := 72) C hf dX11_restoresWord_59 (by decide) (fun hf => ?_) (fun hf => ?_)
        · exact j_X11_restoresWord_72 C (fun z0 z1 => ih z0 z1) hW (lv_sub hl [1, 2, 3, 5] rfl) hf
        · refine lv_iload C.1 C.2.1 dX11_restoresWord_62 (lv_at hl 0 rfl) ?_
          refine lv_aload_n C.1 C.2.1 dX11_restoresWord_64 rfl (lv_at hl 1 rfl) ?_
          refine lv_iload_n C.1 C.2.1 dX11_restoresWord_65 rfl (lv_at hl 4 rfl) ?_
          obtain ⟨u6, hcu6, hf⟩ := bnd_t hf
          refine x_calli hW (x_runV C hW hl (wk9 (k_125)) rfl rfl (c_X11_shotBlock hcu6) (cw_X11_311) ci_X11_shotBlock cs_X11_shotBlock (rm_ok (by decide) (by decide)) ⟨Nat.le_refl _, Nat.le_refl _⟩ (As := [.int x3]) rfl rfl (Nat.le_of_ble_eq_true rfl) dX11_restoresWord_66) (fun H locs hW => ?_)
          refine x_cmple (tgt := 75) C hf dX11_restoresWord_69 (by decide) (fun hf => ?_) (fun hf => ?_)
          · exact j_X11_restoresWord_75 C (fun z0 z1 => ih z0 z1) hW (lv_sub hl [1, 2, 3, 4, 5] rfl) hf
          · exact j_X11_restoresWord_72 C (fun z0 z1 => ih z0 z1) hW (lv_sub hl [1, 2, 3, 5] rfl) hf
set_option maxRecDepth 20000 in
set_option maxHeartbeats 1000000 in
theorem c_X11_restoresWord {l : Launch} {Z : ZT} {h : Hp} {g : Hp} {p1 : Int32} {out : Hp} (hf : f_X11_restoresWord g p1 = some out) : Met l yX11_restoresWord (wY yX11_restoresWord cX11_restoresWord 6 none) (rmD 1) (va_Pc [.ref (Z.1 125), .int p1] (Wd Z h g)) (va_Qv (fun (_ : Unit) => True) (fun _ => Wd Z h out) (FR Z)) 0 0 (FR Z) := by
  refine metX RX11 rfl (by decide +kernel) (Nat.le_of_ble_eq_true rfl) ?_
  intro p e s m args below meth c C hW ls hl
  have hl : lv_has ls 6 [(0, .ref (Z.1 125)), (1, .int p1)] := hl
  unfold f_X11_restoresWord at hf
  refine lv_aload_n C.1 C.2.1 dX11_restoresWord_0 rfl (lv_at hl 0 rfl) ?_
  refine xg_X11_38 C hW (k_125) dX11_restoresWord_1 ?_
  refine lv_iconst (v := 0) C.1 C.2.1 dX11_restoresWord_4 (by decide) ?_
  refine lv_iload_n C.1 C.2.1 dX11_restoresWord_5 rfl (lv_at hl 1 rfl) ?_
  refine lv_iadd C.1 C.2.1 dX11_restoresWord_6 ?_
  refine lv_iconst (v := 0) C.1 C.2.1 dX11_restoresWord_7 (by decide) ?_
  refine x_iastM C hW a_134 hf dX11_restoresWord_8 (fun g7 H locs hf hW => ?_)
  refine lv_aload_n C.1 C.2.1 dX11_restoresWord_9 rfl (lv_at hl 0 rfl) ?_
  refine xg_X11_20 C hW (k_125) dX11_restoresWord_10 ?_
  refine lv_iload_n C.1 C.2.1 dX11_restoresWord_13 rfl (lv_at hl 1 rfl) ?_
  refine x_ialdM C hW a_128 hf dX11_restoresWord_14 (fun hf => ?_)
  refine x_istn C hf dX11_restoresWord_15 rfl hl (by decide) (fun v8 => [(2, .int v8), (0, .ref (Z.1 125)), (1, .int p1)]) (fun _ => rfl) (fun v8 ls hf hl => ?_)
  refine lv_aload_n C.1 C.2.1 dX11_restoresWord_16 rfl (lv_at hl 1 rfl) ?_
  refine lv_iload_n C.1 C.2.1 dX11_restoresWord_17 rfl (lv_at hl 0 rfl) ?_
  obtain ⟨u9, hcu9, hf⟩ := bnd_t hf
  refine x_calli hW (x_runV C hW hl (wk9 (k_125)) rfl rfl (c_X11_shotOf hcu9) (cw_X11_278) ci_X11_shotOf cs_X11_shotOf (rm_ok (by decide) (by decide)) ⟨Nat.le_refl _, Nat.le_refl _⟩ (As := [.int v8]) rfl rfl (Nat.le_of_ble_eq_true rfl) dX11_restoresWord_18) (fun H locs hW => ?_)
  refine lv_iconst (v := -1) C.1 C.2.1 dX11_restoresWord_21 (by decide) ?_
  refine x_cmpeq (tgt := 26) C hf dX11_restoresWord_22 (by decide) (fun hf => ?_) (fun hf => ?_)
  · refine lv_iconst (v := -1) C.1 C.2.1 dX11_restoresWord_26 (by decide) ?_
    refine lv_istore_n (lv' := [(3, .int (-1 : Int32)), (2, .int v8), (0, .ref (Z.1 125)), (1, .int p1)]) C.1 C.2.1 dX11_restoresWord_27 rfl hl (by decide) rfl (fun ls hl => ?_)
    refine lv_iconst (v := 0) C.1 C.2.1 dX11_restoresWord_28 (by decide) ?_
    refine lv_istore (lv' := [(4, .int (0 : Int32)), (3, .int (-1 : Int32)), (2, .int v8), (0, .ref (Z.1 125)), (1, .int p1)]) C.1 C.2.1 dX11_restoresWord_29 hl (by decide) rfl (fun ls hl => ?_)
    exact l_X11_restoresWord_31 C FU (-1 : Int32) (0 : Int32) ls _ _ hW (lv_sub hl [3, 4, 2, 1, 0] rfl) hf
  · obtain rfl := Option.some.inj hf
    exact x_vret C hW dX11_restoresWord_25 trivial
set_option maxRecDepth 20000 in
set_option maxHeartbeats 1000000 in
theorem j_X11_restoresAll_32 {l : Launch} {Z : ZT} {h : Hp} {p1 : Int32} {p2 : Int32} {g : Hp} {r5 : Int32 × Int32 × Hp → Option (Int32 × Hp)} {x3 : Int32} {x4 : Int32} {p : Program} {e : Env} {s : State} {m : MethodId} {args : Array Value} {below : List Frame} {meth : Method} {c : Code} (C : CX p s m args meth c cX11_restoresAll RX11 5 (some .int) Z) {out : Int32 × Hp} (hr5 : ∀ (x3 : Int32) (x4 : Int32) (g : Hp) (ls : Array Slot) (H : Heap) (locs : List Loc), XW Z h g s.heap H locs → lv_has ls 5 [(0, .ref (Z.1 125)), (1, .int p1), (2, .int p2), (3, .int x3), (4, .int x4)] → r5 (x3, x4, g) = some out → W p l e (rmD 2) s m args below meth c H locs 0 0 (MQ below (va_Qi (fun r (_ : Unit) => r = out.1) (fun _ => Wd Z h out.2) (FR Z)) args s 0 0 (FR Z)) (F0 m 5 ls [])) {ls : Array Slot} {H : Heap} {locs : List Loc} (hW : XW Z h g s.heap H locs) (hl : lv_has ls 5 [(0, .ref (Z.1 125)), (1, .int p1), (2, .int p2), (3, .int x3), (4, .int x4)]) (hf : J_X11_restoresAll_32 p1 p2 g r5 x3 x4 = some out) : W p l e (rmD 2) s m args below meth c H locs 0 0 (MQ below (va_Qi (fun r (_ : Unit) => r = out.1) (fun _ => Wd Z h out.2) (FR Z)) args s 0 0 (FR Z)) (F0 m 32 ls []) := by
  rw [J_X11_restoresAll_32] at hf
  refine x_iinc (w := 1) C hf dX11_restoresAll_32 hl (k := 4) rfl (by decide) (by decide) (fun v1 => [(4, .int v1), (0, .ref (Z.1 125)), (1, .int p1), (2, .int p2), (3, .int x3)]) (fun _ => rfl) (fun v1 ls hf hl => ?_)
  refine lv_goto (tgt := 5) C.1 C.2.1 dX11_restoresAll_35 (by decide) ?_
  exact hr5 x3 v1 g ls _ _ hW (lv_sub hl [1, 2, 3, 4, 0] rfl) hf
set_option maxRecDepth 20000 in
set_option maxHeartbeats 1000000 in
theorem l_X11_restoresAll_5 {l : Launch} {Z : ZT} {h : Hp} {p1 : Int32} {p2 : Int32} {p : Program} {e : Env} {s : State} {m : MethodId} {args : Array Value} {below : List Frame} {meth : Method} {c : Code} (C : CX p s m args meth c cX11_restoresAll RX11 5 (some .int) Z) {out : Int32 × Hp} : ∀ (n : Nat) (x3 : Int32) (x4 : Int32) (g : Hp) (ls : Array Slot) (H : Heap) (locs : List Loc), XW Z h g s.heap H locs → lv_has ls 5 [(0, .ref (Z.1 125)), (1, .int p1), (2, .int p2), (3, .int x3), (4, .int x4)] → Lp (F_X11_restoresAll_5 p1 p2) n (x3, x4, g) = some out → W p l e (rmD 2) s m args below meth c H locs 0 0 (MQ below (va_Qi (fun r (_ : Unit) => r = out.1) (fun _ => Wd Z h out.2) (FR Z)) args s 0 0 (FR Z)) (F0 m 5 ls []) := by
  intro n
  induction n with
  | zero => intro x3 x4 g ls H locs hW hl hf; cases hf
  | succ n ih =>
    intro x3 x4 g ls H locs hW hl hf
    rw [Lp_s] at hf
    refine lv_iload C.1 C.2.1 dX11_restoresAll_5 (lv_at hl 4 rfl) ?_
    refine lv_iload_n C.1 C.2.1 dX11_restoresAll_7 rfl (lv_at hl 2 rfl) ?_
    refine x_cmpgt (tgt := 38) C hf dX11_restoresAll_8 (by decide) (fun hf => ?_) (fun hf => ?_)
    · refine lv_iload_n C.1 C.2.1 dX11_restoresAll_38 rfl (lv_at hl 3 rfl) ?_
      obtain rfl := Option.some.inj hf
      exact x_iret C hW dX11_restoresAll_39 rfl
    · refine lv_aload_n C.1 C.2.1 dX11_restoresAll_11 rfl (lv_at hl 0 rfl) ?_
      refine lv_iload C.1 C.2.1 dX11_restoresAll_12 (lv_at hl 4 rfl) ?_
      obtain ⟨u2, hcu2, hf⟩ := bnd_t hf
      refine x_calli hW (x_runV C hW hl (wk9 (k_125)) rfl rfl (c_X11_isKept hcu2) (cw_X11_275) ci_X11_isKept cs_X11_isKept (rm_ok (by decide) (by decide)) ⟨Nat.le_refl _, Nat.le_refl _⟩ (As := [.int x4]) rfl rfl (Nat.le_of_ble_eq_true rfl) dX11_restoresAll_14) (fun H locs hW => ?_)
      refine x_ifeq (tgt := 23) C hf dX11_restoresAll_17 (by decide) (fun hf => ?_) (fun hf => ?_)
      · refine lv_aload_n C.1 C.2.1 dX11_restoresAll_23 rfl (lv_at hl 0 rfl) ?_
        refine lv_iload C.1 C.2.1 dX11_restoresAll_24 (lv_at hl 4 rfl) ?_
        obtain ⟨u3, hcu3, hf⟩ := bnd_t hf
        refine x_callv hW (x_runV C hW hl (wk9 (k_125)) rfl rfl (c_X11_restoresWord hcu3) (cw_X11_372) ci_X11_restoresWord cs_X11_restoresWord (rm_ok (by decide) (by decide)) ⟨Nat.le_refl _, Nat.le_refl _⟩ (As := [.int x4]) rfl rfl (Nat.le_of_ble_eq_true rfl) dX11_restoresAll_26) (fun H locs hW => ?_)
        refine x_iinc (w := 1) C hf dX11_restoresAll_29 hl (k := 3) rfl (by decide) (by decide) (fun v4 => [(3, .int v4), (0, .ref (Z.1 125)), (1, .int p1), (2, .int p2), (4, .int x4)]) (fun _ => rfl) (fun v4 ls hf hl => ?_)
        exact j_X11_restoresAll_32 C (fun z0 z1 z2 => ih z0 z1 z2) hW (lv_sub hl [1, 2, 3, 0, 4] rfl) hf
      · refine lv_goto (tgt := 32) C.1 C.2.1 dX11_restoresAll_20 (by decide) ?_
        exact j_X11_restoresAll_32 C (fun z0 z1 z2 => ih z0 z1 z2) hW (lv_sub hl [0, 1, 2, 3, 4] rfl) hf
set_option maxRecDepth 20000 in
set_option maxHeartbeats 1000000 in
theorem c_X11_restoresAll {l : Launch} {Z : ZT} {h : Hp} {g : Hp} {p1 : Int32} {p2 : Int32} {out : Int32 × Hp} (hf : f_X11_restoresAll g p1 p2 = some out) : Met l yX11_restoresAll (wY yX11_restoresAll cX11_restoresAll 5 (some .int)) (rmD 2) (va_Pc [.ref (Z.1 125), .int p1, .int p2] (Wd Z h g)) (va_Qi (fun r (_ : Unit) => r = out.1) (fun _ => Wd Z h out.2) (FR Z)) 0 0 (FR Z) := by
  refine metX RX11 rfl (by decide +kernel) (Nat.le_of_ble_eq_true rfl) ?_
  intro p e s m args below meth c C hW ls hl
  have hl : lv_has ls 5 [(0, .ref (Z.1 125)), (1, .int p1), (2, .int p2)] := hl
  unfold f_X11_restoresAll at hf
  refine lv_iconst (v := 0) C.1 C.2.1 dX11_restoresAll_0 (by decide) ?_
  refine lv_istore_n (lv' := [(3, .int (0 : Int32)), (0, .ref (Z.1 125)), (1, .int p1), (2, .int p2)]) C.1 C.2.1 dX11_restoresAll_1 rfl hl (by decide) rfl (fun ls hl => ?_)
  refine lv_iload_n C.1 C.2.1 dX11_restoresAll_2 rfl (lv_at hl 2 rfl) ?_
  refine lv_istore (lv' := [(4, .int p1), (3, .int (0 : Int32)), (0, .ref (Z.1 125)), (1, .int p1), (2, .int p2)]) C.1 C.2.1 dX11_restoresAll_3 hl (by decide) rfl (fun ls hl => ?_)
  exact l_X11_restoresAll_5 C FU (0 : Int32) p1 g ls _ _ hW (lv_sub hl [2, 3, 4, 1, 0] rfl) hf
set_option maxRecDepth 20000 in
set_option maxHeartbeats 1000000 in
theorem j_X11_movesAll_110 {l : Launch} {Z : ZT} {h : Hp} {p1 : Int32} {p2 : Int32} {p3 : Int32} {g : Hp} {x4 : Int32} {x5 : Int32} {p : Program} {e : Env} {s : State} {m : MethodId} {args : Array Value} {below : List Frame} {meth : Method} {c : Code} (C : CX p s m args meth c cX11_movesAll RX11 7 (some .int) Z) {out : Int32 × Hp} {ls : Array Slot} {H : Heap} {locs : List Loc} (hW : XW Z h g s.heap H locs) (hl : lv_has ls 7 [(0, .ref (Z.1 125)), (1, .int p1), (2, .int p2), (3, .int p3), (4, .int x4), (5, .int x5)]) (hf : J_X11_movesAll_110 p1 p2 p3 g x4 x5 = some out) : W p l e (rmD 1) s m args below meth c H locs 0 0 (MQ below (va_Qi (fun r (_ : Unit) => r = out.1) (fun _ => Wd Z h out.2) (FR Z)) args s 0 0 (FR Z)) (F0 m 110 ls []) := by
  refine lv_aload_n C.1 C.2.1 dX11_movesAll_110 rfl (lv_at hl 0 rfl) ?_
  refine xg_X11_38 C hW (k_125) dX11_movesAll_111 ?_
  refine lv_bipush (v := 81) C.1 C.2.1 dX11_movesAll_114 (by decide) ?_
  refine lv_aload_n C.1 C.2.1 dX11_movesAll_116 rfl (lv_at hl 0 rfl) ?_
  refine xg_X11_69 C hW (k_125) dX11_movesAll_117 ?_
  refine lv_iconst (v := 0) C.1 C.2.1 dX11_movesAll_120 (by decide) ?_
  refine x_ialdM C hW a_143 hf dX11_movesAll_121 (fun hf => ?_)
  refine lv_iadd C.1 C.2.1 dX11_movesAll_122 ?_
  refine lv_aload_n C.1 C.2.1 dX11_movesAll_123 rfl (lv_at hl 0 rfl) ?_
  refine xg_X11_13 C hW (k_125) dX11_movesAll_124 ?_
  refine lv_iconst (v := 1) C.1 C.2.1 dX11_movesAll_127 (by decide) ?_
  refine x_ialdM C hW a_126 hf dX11_movesAll_128 (fun hf => ?_)
  refine x_iastM C hW a_134 hf dX11_movesAll_129 (fun g1 H locs hf hW => ?_)
  refine lv_aload_n C.1 C.2.1 dX11_movesAll_130 rfl (lv_at hl 0 rfl) ?_
  refine xg_X11_38 C hW (k_125) dX11_movesAll_131 ?_
  refine lv_bipush (v := 121) C.1 C.2.1 dX11_movesAll_134 (by decide) ?_
  refine lv_aload_n C.1 C.2.1 dX11_movesAll_136 rfl (lv_at hl 0 rfl) ?_
  refine xg_X11_69 C hW (k_125) dX11_movesAll_137 ?_
  refine lv_iload C.1 C.2.1 dX11_movesAll_140 (lv_at hl 4 rfl) ?_
  refine lv_iconst (v := 1) C.1 C.2.1 dX11_movesAll_142 (by decide) ?_
  refine lv_isub C.1 C.2.1 dX11_movesAll_143 ?_
  refine x_ialdM C hW a_143 hf dX11_movesAll_144 (fun hf => ?_)
  refine lv_iadd C.1 C.2.1 dX11_movesAll_145 ?_
  refine lv_aload_n C.1 C.2.1 dX11_movesAll_146 rfl (lv_at hl 0 rfl) ?_
  refine xg_X11_13 C hW (k_125) dX11_movesAll_147 ?_
  refine lv_iconst (v := 1) C.1 C.2.1 dX11_movesAll_150 (by decide) ?_
  refine x_ialdM C hW a_126 hf dX11_movesAll_151 (fun hf => ?_)
  refine x_iastM C hW a_134 hf dX11_movesAll_152 (fun g2 H locs hf hW => ?_)
  refine lv_iload C.1 C.2.1 dX11_movesAll_153 (lv_at hl 5 rfl) ?_
  obtain rfl := Option.some.inj hf
  exact x_iret C hW dX11_movesAll_155 rfl
set_option maxRecDepth 20000 in
set_option maxHeartbeats 1000000 in
theorem l_X11_movesAll_81 {l : Launch} {Z : ZT} {h : Hp} {p1 : Int32} {p2 : Int32} {p3 : Int32} {x4 : Int32} {x5 : Int32} {p : Program} {e : Env} {s : State} {m : MethodId} {args : Array Value} {below : List Frame} {meth : Method} {c : Code} (C : CX p s m args meth c cX11_movesAll RX11 7 (some .int) Z) {out : Int32 × Hp} : ∀ (n : Nat) (x6 : Int32) (g : Hp) (ls : Array Slot) (H : Heap) (locs : List Loc), XW Z h g s.heap H locs → lv_has ls 7 [(0, .ref (Z.1 125)), (1, .int p1), (2, .int p2), (3, .int p3), (4, .int x4), (5, .int x5), (6, .int x6)] → Lp (F_X11_movesAll_81 p1 p2 p3 x4 x5) n (x6, g) = some out → W p l e (rmD 1) s m args below meth c H locs 0 0 (MQ below (va_Qi (fun r (_ : Unit) => r = out.1) (fun _ => Wd Z h out.2) (FR Z)) args s 0 0 (FR Z)) (F0 m 81 ls []) := by
  intro n
  induction n with
  | zero => intro x6 g ls H locs hW hl hf; cases hf
  | succ n ih =>
    intro x6 g ls H locs hW hl hf
    rw [Lp_s] at hf
    refine lv_iload C.1 C.2.1 dX11_movesAll_81 (lv_at hl 6 rfl) ?_
    refine lv_iload C.1 C.2.1 dX11_movesAll_83 (lv_at hl 4 rfl) ?_
    refine x_cmpge (tgt := 110) C hf dX11_movesAll_85 (by decide) (fun hf => ?_) (fun hf => ?_)
    · exact j_X11_movesAll_110 C hW (lv_sub hl [0, 1, 2, 3, 4, 5] rfl) hf
    · refine lv_aload_n C.1 C.2.1 dX11_movesAll_88 rfl (lv_at hl 0 rfl) ?_
      refine lv_iload C.1 C.2.1 dX11_movesAll_89 (lv_at hl 5 rfl) ?_
      refine lv_iload C.1 C.2.1 dX11_movesAll_91 (lv_at hl 6 rfl) ?_
      refine lv_iadd C.1 C.2.1 dX11_movesAll_93 ?_
      refine lv_aload_n C.1 C.2.1 dX11_movesAll_94 rfl (lv_at hl 0 rfl) ?_
      refine xg_X11_69 C hW (k_125) dX11_movesAll_95 ?_
      refine lv_iload C.1 C.2.1 dX11_movesAll_98 (lv_at hl 6 rfl) ?_
      refine x_ialdM C hW a_143 hf dX11_movesAll_100 (fun hf => ?_)
      obtain ⟨u3, hcu3, hf⟩ := bnd_t hf
      refine x_callv hW (x_runV C hW hl (wk9 (k_125)) rfl rfl (c_X11_putsIn hcu3) (cw_X11_368) ci_X11_putsIn cs_X11_putsIn (rm_ok (by decide) (by decide)) ⟨Nat.le_refl _, Nat.le_refl _⟩ (As := [.int (x5 + x6), .int (g 143 (ix x6))]) rfl rfl (Nat.le_of_ble_eq_true rfl) dX11_movesAll_101) (fun H locs hW => ?_)
      refine x_iinc (w := 1) C hf dX11_movesAll_104 hl (k := 6) rfl (by decide) (by decide) (fun v4 => [(6, .int v4), (0, .ref (Z.1 125)), (1, .int p1), (2, .int p2), (3, .int p3), (4, .int x4), (5, .int x5)]) (fun _ => rfl) (fun v4 ls hf hl => ?_)
      refine lv_goto (tgt := 81) C.1 C.2.1 dX11_movesAll_107 (by decide) ?_
      exact ih v4 u3 ls _ _ hW (lv_sub hl [1, 2, 3, 4, 5, 6, 0] rfl) hf
set_option maxRecDepth 20000 in
set_option maxHeartbeats 1000000 in
theorem j_X11_movesAll_76 {l : Launch} {Z : ZT} {h : Hp} {p1 : Int32} {p2 : Int32} {p3 : Int32} {g : Hp} {x4 : Int32} {s0 : Int32} {p : Program} {e : Env} {s : State} {m : MethodId} {args : Array Value} {below : List Frame} {meth : Method} {c : Code} (C : CX p s m args meth c cX11_movesAll RX11 7 (some .int) Z) {out : Int32 × Hp} {ls : Array Slot} {H : Heap} {locs : List Loc} (hW : XW Z h g s.heap H locs) (hl : lv_has ls 7 [(0, .ref (Z.1 125)), (1, .int p1), (2, .int p2), (3, .int p3), (4, .int x4)]) (hf : J_X11_movesAll_76 p1 p2 p3 g x4 s0 = some out) : W p l e (rmD 1) s m args below meth c H locs 0 0 (MQ below (va_Qi (fun r (_ : Unit) => r = out.1) (fun _ => Wd Z h out.2) (FR Z)) args s 0 0 (FR Z)) (F0 m 76 ls [.int s0]) := by
  refine lv_istore (lv' := [(5, .int s0), (0, .ref (Z.1 125)), (1, .int p1), (2, .int p2), (3, .int p3), (4, .int x4)]) C.1 C.2.1 dX11_movesAll_76 hl (by decide) rfl (fun ls hl => ?_)
  refine lv_iconst (v := 0) C.1 C.2.1 dX11_movesAll_78 (by decide) ?_
  refine lv_istore (lv' := [(6, .int (0 : Int32)), (5, .int s0), (0, .ref (Z.1 125)), (1, .int p1), (2, .int p2), (3, .int p3), (4, .int x4)]) C.1 C.2.1 dX11_movesAll_79 hl (by decide) rfl (fun ls hl => ?_)
  exact l_X11_movesAll_81 C FU (0 : Int32) g ls _ _ hW (lv_sub hl [2, 3, 4, 5, 6, 1, 0] rfl) hf
set_option maxRecDepth 20000 in
set_option maxHeartbeats 1000000 in
theorem j_X11_movesAll_59 {l : Launch} {Z : ZT} {h : Hp} {p1 : Int32} {p2 : Int32} {p3 : Int32} {g : Hp} {x4 : Int32} {p : Program} {e : Env} {s : State} {m : MethodId} {args : Array Value} {below : List Frame} {meth : Method} {c : Code} (C : CX p s m args meth c cX11_movesAll RX11 7 (some .int) Z) {out : Int32 × Hp} {ls : Array Slot} {H : Heap} {locs : List Loc} (hW : XW Z h g s.heap H locs) (hl : lv_has ls 7 [(0, .ref (Z.1 125)), (1, .int p1), (2, .int p2), (3, .int p3), (4, .int x4)]) (hf : J_X11_movesAll_59 p1 p2 p3 g x4 = some out) : W p l e (rmD 1) s m args below meth c H locs 0 0 (MQ below (va_Qi (fun r (_ : Unit) => r = out.1) (fun _ => Wd Z h out.2) (FR Z)) args s 0 0 (FR Z)) (F0 m 59 ls []) := by
  refine lv_iload_n C.1 C.2.1 dX11_movesAll_59 rfl (lv_at hl 3 rfl) ?_
  refine lv_iload_n C.1 C.2.1 dX11_movesAll_60 rfl (lv_at hl 1 rfl) ?_
  refine x_cmpge (tgt := 70) C hf dX11_movesAll_61 (by decide) (fun hf => ?_) (fun hf => ?_)
  · refine lv_iload_n C.1 C.2.1 dX11_movesAll_70 rfl (lv_at hl 3 rfl) ?_
    refine lv_iconst (v := 1) C.1 C.2.1 dX11_movesAll_71 (by decide) ?_
    refine lv_iadd C.1 C.2.1 dX11_movesAll_72 ?_
    refine lv_iload C.1 C.2.1 dX11_movesAll_73 (lv_at hl 4 rfl) ?_
    refine lv_isub C.1 C.2.1 dX11_movesAll_75 ?_
    exact j_X11_movesAll_76 C hW (lv_sub hl [0, 1, 2, 3, 4] rfl) hf
  · refine lv_iload_n C.1 C.2.1 dX11_movesAll_64 rfl (lv_at hl 3 rfl) ?_
    refine lv_iconst (v := 1) C.1 C.2.1 dX11_movesAll_65 (by decide) ?_
    refine lv_iadd C.1 C.2.1 dX11_movesAll_66 ?_
    refine lv_goto (tgt := 76) C.1 C.2.1 dX11_movesAll_67 (by decide) ?_
    exact j_X11_movesAll_76 C hW (lv_sub hl [0, 1, 2, 3, 4] rfl) hf
set_option maxRecDepth 20000 in
set_option maxHeartbeats 1000000 in
theorem l_X11_movesAll_41 {l : Launch} {Z : ZT} {h : Hp} {p1 : Int32} {p2 : Int32} {p3 : Int32} {x4 : Int32} {p : Program} {e : Env} {s : State} {m : MethodId} {args : Array Value} {below : List Frame} {meth : Method} {c : Code} (C : CX p s m args meth c cX11_movesAll RX11 7 (some .int) Z) {out : Int32 × Hp} : ∀ (n : Nat) (x5 : Int32) (g : Hp) (ls : Array Slot) (H : Heap) (locs : List Loc), XW Z h g s.heap H locs → lv_has ls 7 [(0, .ref (Z.1 125)), (1, .int p1), (2, .int p2), (3, .int p3), (4, .int x4), (5, .int x5)] → Lp (F_X11_movesAll_41 p1 p2 p3 x4) n (x5, g) = some out → W p l e (rmD 1) s m args below meth c H locs 0 0 (MQ below (va_Qi (fun r (_ : Unit) => r = out.1) (fun _ => Wd Z h out.2) (FR Z)) args s 0 0 (FR Z)) (F0 m 41 ls []) := by
  intro n
  induction n with
  | zero => intro x5 g ls H locs hW hl hf; cases hf
  | succ n ih =>
    intro x5 g ls H locs hW hl hf
    rw [Lp_s] at hf
    refine lv_iload C.1 C.2.1 dX11_movesAll_41 (lv_at hl 5 rfl) ?_
    refine lv_iload C.1 C.2.1 dX11_movesAll_43 (lv_at hl 4 rfl) ?_
    refine x_cmpge (tgt := 59) C hf dX11_movesAll_45 (by decide) (fun hf => ?_) (fun hf => ?_)
    · exact j_X11_movesAll_59 C hW (lv_sub hl [0, 1, 2, 3, 4] rfl) hf
    · refine lv_aload_n C.1 C.2.1 dX11_movesAll_48 rfl (lv_at hl 0 rfl) ?_
      refine lv_iload_n C.1 C.2.1 dX11_movesAll_49 rfl (lv_at hl 1 rfl) ?_
      obtain ⟨u5, hcu5, hf⟩ := bnd_t hf
      refine x_callv hW (x_runV C hW hl (wk9 (k_125)) rfl rfl (c_X11_takesOut hcu5) (cw_X11_362) ci_X11_takesOut cs_X11_takesOut (rm_ok (by decide) (by decide)) ⟨Nat.le_refl _, Nat.le_refl _⟩ (As := [.int p1]) rfl rfl (Nat.le_of_ble_eq_true rfl) dX11_movesAll_50) (fun H locs hW => ?_)
      refine x_iinc (w := 1) C hf dX11_movesAll_53 hl (k := 5) rfl (by decide) (by decide) (fun v6 => [(5, .int v6), (0, .ref (Z.1 125)), (1, .int p1), (2, .int p2), (3, .int p3), (4, .int x4)]) (fun _ => rfl) (fun v6 ls hf hl => ?_)
      refine lv_goto (tgt := 41) C.1 C.2.1 dX11_movesAll_56 (by decide) ?_
      exact ih v6 u5 ls _ _ hW (lv_sub hl [1, 2, 3, 4, 5, 0] rfl) hf
set_option maxRecDepth 20000 in
set_option maxHeartbeats 1000000 in
theorem j_X11_movesAll_38 {l : Launch} {Z : ZT} {h : Hp} {p1 : Int32} {p2 : Int32} {p3 : Int32} {g : Hp} {x4 : Int32} {p : Program} {e : Env} {s : State} {m : MethodId} {args : Array Value} {below : List Frame} {meth : Method} {c : Code} (C : CX p s m args meth c cX11_movesAll RX11 7 (some .int) Z) {out : Int32 × Hp} {ls : Array Slot} {H : Heap} {locs : List Loc} (hW : XW Z h g s.heap H locs) (hl : lv_has ls 7 [(0, .ref (Z.1 125)), (1, .int p1), (2, .int p2), (3, .int p3), (4, .int x4)]) (hf : J_X11_movesAll_38 p1 p2 p3 g x4 = some out) : W p l e (rmD 1) s m args below meth c H locs 0 0 (MQ below (va_Qi (fun r (_ : Unit) => r = out.1) (fun _ => Wd Z h out.2) (FR Z)) args s 0 0 (FR Z)) (F0 m 38 ls []) := by
  refine lv_iconst (v := 0) C.1 C.2.1 dX11_movesAll_38 (by decide) ?_
  refine lv_istore (lv' := [(5, .int (0 : Int32)), (0, .ref (Z.1 125)), (1, .int p1), (2, .int p2), (3, .int p3), (4, .int x4)]) C.1 C.2.1 dX11_movesAll_39 hl (by decide) rfl (fun ls hl => ?_)
  exact l_X11_movesAll_41 C FU (0 : Int32) g ls _ _ hW (lv_sub hl [1, 2, 3, 4, 5, 0] rfl) hf
set_option maxRecDepth 20000 in
set_option maxHeartbeats 1000000 in
theorem l_X11_movesAll_10 {l : Launch} {Z : ZT} {h : Hp} {p1 : Int32} {p2 : Int32} {p3 : Int32} {x4 : Int32} {p : Program} {e : Env} {s : State} {m : MethodId} {args : Array Value} {below : List Frame} {meth : Method} {c : Code} (C : CX p s m args meth c cX11_movesAll RX11 7 (some .int) Z) {out : Int32 × Hp} : ∀ (n : Nat) (x5 : Int32) (g : Hp) (ls : Array Slot) (H : Heap) (locs : List Loc), XW Z h g s.heap H locs → lv_has ls 7 [(0, .ref (Z.1 125)), (1, .int p1), (2, .int p2), (3, .int p3), (4, .int x4), (5, .int x5)] → Lp (F_X11_movesAll_10 p1 p2 p3 x4) n (x5, g) = some out → W p l e (rmD 1) s m args below meth c H locs 0 0 (MQ below (va_Qi (fun r (_ : Unit) => r = out.1) (fun _ => Wd Z h out.2) (FR Z)) args s 0 0 (FR Z)) (F0 m 10 ls []) := by
  intro n
  induction n with
  | zero => intro x5 g ls H locs hW hl hf; cases hf
  | succ n ih =>
    intro x5 g ls H locs hW hl hf
    rw [Lp_s] at hf
    refine lv_iload C.1 C.2.1 dX11_movesAll_10 (lv_at hl 5 rfl) ?_
    refine lv_iload C.1 C.2.1 dX11_movesAll_12 (lv_at hl 4 rfl) ?_
    refine x_cmpge (tgt := 38) C hf dX11_movesAll_14 (by decide) (fun hf => ?_) (fun hf => ?_)
    · exact j_X11_movesAll_38 C hW (lv_sub hl [0, 1, 2, 3, 4] rfl) hf
    · refine lv_aload_n C.1 C.2.1 dX11_movesAll_17 rfl (lv_at hl 0 rfl) ?_
      refine xg_X11_69 C hW (k_125) dX11_movesAll_18 ?_
      refine lv_iload C.1 C.2.1 dX11_movesAll_21 (lv_at hl 5 rfl) ?_
      refine lv_aload_n C.1 C.2.1 dX11_movesAll_23 rfl (lv_at hl 0 rfl) ?_
      refine lv_iload_n C.1 C.2.1 dX11_movesAll_24 rfl (lv_at hl 1 rfl) ?_
      refine lv_iload C.1 C.2.1 dX11_movesAll_25 (lv_at hl 5 rfl) ?_
      refine lv_iadd C.1 C.2.1 dX11_movesAll_27 ?_
      obtain ⟨u7, hcu7, hf⟩ := bnd_t hf
      refine x_calli hW (x_runV C hW hl (wk9 (k_125)) rfl rfl (c_X11_shotBlock hcu7) (cw_X11_311) ci_X11_shotBlock cs_X11_shotBlock (rm_ok (by decide) (by decide)) ⟨Nat.le_refl _, Nat.le_refl _⟩ (As := [.int (p1 + x5)]) rfl rfl (Nat.le_of_ble_eq_true rfl) dX11_movesAll_28) (fun H locs hW => ?_)
      refine x_iastM C hW a_143 hf dX11_movesAll_31 (fun g8 H locs hf hW => ?_)
      refine x_iinc (w := 1) C hf dX11_movesAll_32 hl (k := 5) rfl (by decide) (by decide) (fun v9 => [(5, .int v9), (0, .ref (Z.1 125)), (1, .int p1), (2, .int p2), (3, .int p3), (4, .int x4)]) (fun _ => rfl) (fun v9 ls hf hl => ?_)
      refine lv_goto (tgt := 10) C.1 C.2.1 dX11_movesAll_35 (by decide) ?_
      exact ih v9 g8 ls _ _ hW (lv_sub hl [1, 2, 3, 4, 5, 0] rfl) hf
set_option maxRecDepth 20000 in
set_option maxHeartbeats 1000000 in
theorem c_X11_movesAll {l : Launch} {Z : ZT} {h : Hp} {g : Hp} {p1 : Int32} {p2 : Int32} {p3 : Int32} {out : Int32 × Hp} (hf : f_X11_movesAll g p1 p2 p3 = some out) : Met l yX11_movesAll (wY yX11_movesAll cX11_movesAll 7 (some .int)) (rmD 1) (va_Pc [.ref (Z.1 125), .int p1, .int p2, .int p3] (Wd Z h g)) (va_Qi (fun r (_ : Unit) => r = out.1) (fun _ => Wd Z h out.2) (FR Z)) 0 0 (FR Z) := by
  refine metX RX11 rfl (by decide +kernel) (Nat.le_of_ble_eq_true rfl) ?_
  intro p e s m args below meth c C hW ls hl
  have hl : lv_has ls 7 [(0, .ref (Z.1 125)), (1, .int p1), (2, .int p2), (3, .int p3)] := hl
  unfold f_X11_movesAll at hf
  refine lv_iload_n C.1 C.2.1 dX11_movesAll_0 rfl (lv_at hl 2 rfl) ?_
  refine lv_iload_n C.1 C.2.1 dX11_movesAll_1 rfl (lv_at hl 1 rfl) ?_
  refine lv_isub C.1 C.2.1 dX11_movesAll_2 ?_
  refine lv_iconst (v := 1) C.1 C.2.1 dX11_movesAll_3 (by decide) ?_
  refine lv_iadd C.1 C.2.1 dX11_movesAll_4 ?_
  refine x_ist C hf dX11_movesAll_5 hl (by decide) (fun v10 => [(4, .int v10), (0, .ref (Z.1 125)), (1, .int p1), (2, .int p2), (3, .int p3)]) (fun _ => rfl) (fun v10 ls hf hl => ?_)
  refine lv_iconst (v := 0) C.1 C.2.1 dX11_movesAll_7 (by decide) ?_
  refine lv_istore (lv' := [(5, .int (0 : Int32)), (4, .int v10), (0, .ref (Z.1 125)), (1, .int p1), (2, .int p2), (3, .int p3)]) C.1 C.2.1 dX11_movesAll_8 hl (by decide) rfl (fun ls hl => ?_)
  exact l_X11_movesAll_10 C FU (0 : Int32) g ls _ _ hW (lv_sub hl [2, 3, 4, 5, 1, 0] rfl) hf
set_option maxRecDepth 20000 in
set_option maxHeartbeats 1000000 in
theorem j_X11_noPlaces_38 {l : Launch} {Z : ZT} {h : Hp} {p1 : Int32} {p2 : Int32} {g : Hp} {s1 : Int32} {p : Program} {e : Env} {s : State} {m : MethodId} {args : Array Value} {below : List Frame} {meth : Method} {c : Code} (C : CX p s m args meth c cX11_noPlaces RX11 3 (some .boolean) Z) {out : Int32 × Hp} {ls : Array Slot} {H : Heap} {locs : List Loc} (hW : XW Z h g s.heap H locs) (hl : lv_has ls 3 [(0, .ref (Z.1 125)), (1, .int p1), (2, .int p2)]) (hf : J_X11_noPlaces_38 p1 p2 g s1 = some out) : W p l e (rmD 2) s m args below meth c H locs 0 0 (MQ below (va_Qi (fun r (_ : Unit) => r = out.1) (fun _ => Wd Z h out.2) (FR Z)) args s 0 0 (FR Z)) (F0 m 38 ls [.int s1, .ref (Z.1 125)]) := by
  rw [J_X11_noPlaces_38] at hf
  refine lv_iconst (v := 1) C.1 C.2.1 dX11_noPlaces_38 (by decide) ?_
  obtain ⟨u1, hcu1, hf⟩ := bnd_t hf
  refine x_calli hW (x_runV C hW hl (wk9 (k_125)) rfl rfl (c_X11_throwsIf hcu1) (cw_X11_216) ci_X11_throwsIf cs_X11_throwsIf (rm_ok (by decide) (by decide)) ⟨Nat.le_refl _, Nat.le_refl _⟩ (As := [.int s1, .int (1 : Int32)]) rfl rfl (Nat.le_of_ble_eq_true rfl) dX11_noPlaces_39) (fun H locs hW => ?_)
  obtain ⟨hz, hf⟩ := ck_t hf
  obtain rfl := Option.some.inj hf
  exact x_zret C hW hz dX11_noPlaces_42 rfl
set_option maxRecDepth 20000 in
set_option maxHeartbeats 1000000 in
theorem j_X11_noPlaces_33 {l : Launch} {Z : ZT} {h : Hp} {p1 : Int32} {p2 : Int32} {g : Hp} {p : Program} {e : Env} {s : State} {m : MethodId} {args : Array Value} {below : List Frame} {meth : Method} {c : Code} (C : CX p s m args meth c cX11_noPlaces RX11 3 (some .boolean) Z) {out : Int32 × Hp} {ls : Array Slot} {H : Heap} {locs : List Loc} (hW : XW Z h g s.heap H locs) (hl : lv_has ls 3 [(0, .ref (Z.1 125)), (1, .int p1), (2, .int p2)]) (hf : J_X11_noPlaces_33 p1 p2 g = some out) : W p l e (rmD 2) s m args below meth c H locs 0 0 (MQ below (va_Qi (fun r (_ : Unit) => r = out.1) (fun _ => Wd Z h out.2) (FR Z)) args s 0 0 (FR Z)) (F0 m 33 ls [.ref (Z.1 125)]) := by
  refine lv_iconst (v := 1) C.1 C.2.1 dX11_noPlaces_33 (by decide) ?_
  refine lv_goto (tgt := 38) C.1 C.2.1 dX11_noPlaces_34 (by decide) ?_
  exact j_X11_noPlaces_38 C hW (lv_sub hl [0, 1, 2] rfl) hf
set_option maxRecDepth 20000 in
set_option maxHeartbeats 1000000 in
theorem c_X11_noPlaces {l : Launch} {Z : ZT} {h : Hp} {g : Hp} {p1 : Int32} {p2 : Int32} {out : Int32 × Hp} (hf : f_X11_noPlaces g p1 p2 = some out) : Met l yX11_noPlaces (wY yX11_noPlaces cX11_noPlaces 3 (some .boolean)) (rmD 2) (va_Pc [.ref (Z.1 125), .int p1, .int p2] (Wd Z h g)) (va_Qi (fun r (_ : Unit) => r = out.1) (fun _ => Wd Z h out.2) (FR Z)) 0 0 (FR Z) := by
  refine metX RX11 rfl (by decide +kernel) (Nat.le_of_ble_eq_true rfl) ?_
  intro p e s m args below meth c C hW ls hl
  have hl : lv_has ls 3 [(0, .ref (Z.1 125)), (1, .int p1), (2, .int p2)] := hl
  unfold f_X11_noPlaces at hf
  refine lv_aload_n C.1 C.2.1 dX11_noPlaces_0 rfl (lv_at hl 0 rfl) ?_
  obtain ⟨u2, hcu2, hf⟩ := bnd_t hf
  refine x_callv hW (x_runV C hW hl (wk9 (k_125)) rfl rfl (c_X11_laysRow hcu2) (cw_X11_359) ci_X11_laysRow cs_X11_laysRow (rm_ok (by decide) (by decide)) ⟨Nat.le_refl _, Nat.le_refl _⟩ (As := []) rfl rfl (Nat.le_of_ble_eq_true rfl) dX11_noPlaces_1) (fun H locs hW => ?_)
  refine lv_aload_n C.1 C.2.1 dX11_noPlaces_4 rfl (lv_at hl 0 rfl) ?_
  refine lv_iload_n C.1 C.2.1 dX11_noPlaces_5 rfl (lv_at hl 1 rfl) ?_
  refine lv_iconst (v := 0) C.1 C.2.1 dX11_noPlaces_6 (by decide) ?_
  refine lv_aload_n C.1 C.2.1 dX11_noPlaces_7 rfl (lv_at hl 0 rfl) ?_
  refine xg_X11_356 C hW (k_125) dX11_noPlaces_8 ?_
  refine lv_iconst (v := 1) C.1 C.2.1 dX11_noPlaces_11 (by decide) ?_
  refine lv_isub C.1 C.2.1 dX11_noPlaces_12 ?_
  obtain ⟨u3, hcu3, hf⟩ := bnd_t hf
  refine x_calli hW (x_runS C hW hl (c_X11_in hcu3) (cw_X11_166) ct_X11_in (rm_ok (by decide) (by decide)) ⟨Nat.le_refl _, Nat.le_refl _⟩ (As := [.int p1, .int (0 : Int32), .int (u2 125 36 - (1 : Int32))]) rfl rfl (Nat.le_of_ble_eq_true rfl) dX11_noPlaces_13) (fun H locs hW => ?_)
  refine x_ifeq (tgt := 33) C hf dX11_noPlaces_16 (by decide) (fun hf => ?_) (fun hf => ?_)
  · exact j_X11_noPlaces_33 C hW (lv_sub hl [0, 1, 2] rfl) hf
  · refine lv_iload_n C.1 C.2.1 dX11_noPlaces_19 rfl (lv_at hl 2 rfl) ?_
    refine lv_iload_n C.1 C.2.1 dX11_noPlaces_20 rfl (lv_at hl 1 rfl) ?_
    refine lv_aload_n C.1 C.2.1 dX11_noPlaces_21 rfl (lv_at hl 0 rfl) ?_
    refine xg_X11_356 C hW (k_125) dX11_noPlaces_22 ?_
    refine lv_iconst (v := 1) C.1 C.2.1 dX11_noPlaces_25 (by decide) ?_
    refine lv_isub C.1 C.2.1 dX11_noPlaces_26 ?_
    obtain ⟨u4, hcu4, hf⟩ := bnd_t hf
    refine x_calli hW (x_runS C hW hl (c_X11_in hcu4) (cw_X11_166) ct_X11_in (rm_ok (by decide) (by decide)) ⟨Nat.le_refl _, Nat.le_refl _⟩ (As := [.int p2, .int p1, .int (u2 125 36 - (1 : Int32))]) rfl rfl (Nat.le_of_ble_eq_true rfl) dX11_noPlaces_27) (fun H locs hW => ?_)
    refine x_ifne (tgt := 37) C hf dX11_noPlaces_30 (by decide) (fun hf => ?_) (fun hf => ?_)
    · refine lv_iconst (v := 0) C.1 C.2.1 dX11_noPlaces_37 (by decide) ?_
      exact j_X11_noPlaces_38 C hW (lv_sub hl [0, 1, 2] rfl) hf
    · exact j_X11_noPlaces_33 C hW (lv_sub hl [0, 1, 2] rfl) hf
set_option maxRecDepth 20000 in
set_option maxHeartbeats 1000000 in
theorem c_X11_lengthIfCut {l : Launch} {Z : ZT} {h : Hp} {g : Hp} {p1 : Int32} {p2 : Int32} {out : Int32 × Hp} (hf : f_X11_lengthIfCut g p1 p2 = some out) : Met l yX11_lengthIfCut (wY yX11_lengthIfCut cX11_lengthIfCut 4 (some .int)) (rmD 5) (va_Pc [.ref (Z.1 125), .int p1, .int p2] (Wd Z h g)) (va_Qi (fun r (_ : Unit) => r = out.1) (fun _ => Wd Z h out.2) (FR Z)) 0 0 (FR Z) := by
  refine metX RX11 rfl (by decide +kernel) (Nat.le_of_ble_eq_true rfl) ?_
  intro p e s m args below meth c C hW ls hl
  have hl : lv_has ls 4 [(0, .ref (Z.1 125)), (1, .int p1), (2, .int p2)] := hl
  unfold f_X11_lengthIfCut at hf
  refine lv_aload_n C.1 C.2.1 dX11_lengthIfCut_0 rfl (lv_at hl 0 rfl) ?_
  refine lv_iconst (v := 0) C.1 C.2.1 dX11_lengthIfCut_1 (by decide) ?_
  refine xp_X11_3 C hW (k_125) hf dX11_lengthIfCut_2 (fun g1 H locs hf hW => ?_)
  refine lv_aload_n C.1 C.2.1 dX11_lengthIfCut_5 rfl (lv_at hl 0 rfl) ?_
  refine lv_iload_n C.1 C.2.1 dX11_lengthIfCut_6 rfl (lv_at hl 1 rfl) ?_
  refine lv_iload_n C.1 C.2.1 dX11_lengthIfCut_7 rfl (lv_at hl 2 rfl) ?_
  obtain ⟨u2, hcu2, hf⟩ := bnd_t hf
  refine x_calli hW (x_runV C hW hl (wk9 (k_125)) rfl rfl (c_X11_noPlaces hcu2) (cw_X11_375) ci_X11_noPlaces cs_X11_noPlaces (rm_ok (by decide) (by decide)) ⟨Nat.le_refl _, Nat.le_refl _⟩ (As := [.int p1, .int p2]) rfl rfl (Nat.le_of_ble_eq_true rfl) dX11_lengthIfCut_8) (fun H locs hW => ?_)
  refine x_ifeq (tgt := 16) C hf dX11_lengthIfCut_11 (by decide) (fun hf => ?_) (fun hf => ?_)
  · refine lv_aload_n C.1 C.2.1 dX11_lengthIfCut_16 rfl (lv_at hl 0 rfl) ?_
    obtain ⟨u3, hcu3, hf⟩ := bnd_t hf
    refine x_callv hW (x_runV C hW hl (wk9 (k_125)) rfl rfl (c_X11_putsAside hcu3) (cw_X11_378) ci_X11_putsAside cs_X11_putsAside (rm_ok (by decide) (by decide)) ⟨Nat.le_refl _, Nat.le_refl _⟩ (As := []) rfl rfl (Nat.le_of_ble_eq_true rfl) dX11_lengthIfCut_17) (fun H locs hW => ?_)
    refine lv_aload_n C.1 C.2.1 dX11_lengthIfCut_20 rfl (lv_at hl 0 rfl) ?_
    refine lv_iload_n C.1 C.2.1 dX11_lengthIfCut_21 rfl (lv_at hl 1 rfl) ?_
    refine lv_iload_n C.1 C.2.1 dX11_lengthIfCut_22 rfl (lv_at hl 2 rfl) ?_
    obtain ⟨u4, hcu4, hf⟩ := bnd_t hf
    refine x_callv hW (x_runV C hW hl (wk9 (k_125)) rfl rfl (c_X11_cutsPlaces hcu4) (cw_X11_381) ci_X11_cutsPlaces cs_X11_cutsPlaces (rm_ok (by decide) (by decide)) ⟨Nat.le_refl _, Nat.le_refl _⟩ (As := [.int p1, .int p2]) rfl rfl (Nat.le_of_ble_eq_true rfl) dX11_lengthIfCut_23) (fun H locs hW => ?_)
    refine lv_aload_n C.1 C.2.1 dX11_lengthIfCut_26 rfl (lv_at hl 0 rfl) ?_
    obtain ⟨u5, hcu5, hf⟩ := bnd_t hf
    refine x_calli hW (x_runV C hW hl (wk9 (k_125)) rfl rfl (c_X11_film hcu5) (cw_X11_323) ci_X11_film cs_X11_film (rm_ok (by decide) (by decide)) ⟨Nat.le_refl _, Nat.le_refl _⟩ (As := []) rfl rfl (Nat.le_of_ble_eq_true rfl) dX11_lengthIfCut_27) (fun H locs hW => ?_)
    refine lv_istore_n (lv' := [(3, .int u5), (0, .ref (Z.1 125)), (1, .int p1), (2, .int p2)]) C.1 C.2.1 dX11_lengthIfCut_30 rfl hl (by decide) rfl (fun ls hl => ?_)
    refine lv_aload_n C.1 C.2.1 dX11_lengthIfCut_31 rfl (lv_at hl 1 rfl) ?_
    obtain ⟨u6, hcu6, hf⟩ := bnd_t hf
    refine x_callv hW (x_runV C hW hl (wk9 (k_125)) rfl rfl (c_X11_takesBack hcu6) (cw_X11_384) ci_X11_takesBack cs_X11_takesBack (rm_ok (by decide) (by decide)) ⟨Nat.le_refl _, Nat.le_refl _⟩ (As := []) rfl rfl (Nat.le_of_ble_eq_true rfl) dX11_lengthIfCut_32) (fun H locs hW => ?_)
    refine lv_iload_n C.1 C.2.1 dX11_lengthIfCut_35 rfl (lv_at hl 0 rfl) ?_
    obtain rfl := Option.some.inj hf
    exact x_iret C hW dX11_lengthIfCut_36 rfl
  · refine lv_iconst (v := 0) C.1 C.2.1 dX11_lengthIfCut_14 (by decide) ?_
    obtain rfl := Option.some.inj hf
    exact x_iret C hW dX11_lengthIfCut_15 rfl
set_option maxRecDepth 20000 in
set_option maxHeartbeats 1000000 in
theorem c_X11_lengthIfRestored {l : Launch} {Z : ZT} {h : Hp} {g : Hp} {p1 : Int32} {out : Int32 × Hp} (hf : f_X11_lengthIfRestored g p1 = some out) : Met l yX11_lengthIfRestored (wY yX11_lengthIfRestored cX11_lengthIfRestored 4 (some .int)) (rmD 5) (va_Pc [.ref (Z.1 125), .int p1] (Wd Z h g)) (va_Qi (fun r (_ : Unit) => r = out.1) (fun _ => Wd Z h out.2) (FR Z)) 0 0 (FR Z) := by
  refine metX RX11 rfl (by decide +kernel) (Nat.le_of_ble_eq_true rfl) ?_
  intro p e s m args below meth c C hW ls hl
  have hl : lv_has ls 4 [(0, .ref (Z.1 125)), (1, .int p1)] := hl
  unfold f_X11_lengthIfRestored at hf
  refine lv_aload_n C.1 C.2.1 dX11_lengthIfRestored_0 rfl (lv_at hl 0 rfl) ?_
  refine lv_iconst (v := 0) C.1 C.2.1 dX11_lengthIfRestored_1 (by decide) ?_
  refine xp_X11_3 C hW (k_125) hf dX11_lengthIfRestored_2 (fun g1 H locs hf hW => ?_)
  refine lv_aload_n C.1 C.2.1 dX11_lengthIfRestored_5 rfl (lv_at hl 0 rfl) ?_
  refine lv_iload_n C.1 C.2.1 dX11_lengthIfRestored_6 rfl (lv_at hl 1 rfl) ?_
  obtain ⟨u2, hcu2, hf⟩ := bnd_t hf
  refine x_calli hW (x_runV C hW hl (wk9 (k_125)) rfl rfl (c_X11_noWord hcu2) (cw_X11_284) ci_X11_noWord cs_X11_noWord (rm_ok (by decide) (by decide)) ⟨Nat.le_refl _, Nat.le_refl _⟩ (As := [.int p1]) rfl rfl (Nat.le_of_ble_eq_true rfl) dX11_lengthIfRestored_7) (fun H locs hW => ?_)
  refine x_ifeq (tgt := 15) C hf dX11_lengthIfRestored_10 (by decide) (fun hf => ?_) (fun hf => ?_)
  · refine lv_aload_n C.1 C.2.1 dX11_lengthIfRestored_15 rfl (lv_at hl 0 rfl) ?_
    obtain ⟨u3, hcu3, hf⟩ := bnd_t hf
    refine x_callv hW (x_runV C hW hl (wk9 (k_125)) rfl rfl (c_X11_putsAside hcu3) (cw_X11_378) ci_X11_putsAside cs_X11_putsAside (rm_ok (by decide) (by decide)) ⟨Nat.le_refl _, Nat.le_refl _⟩ (As := []) rfl rfl (Nat.le_of_ble_eq_true rfl) dX11_lengthIfRestored_16) (fun H locs hW => ?_)
    refine lv_aload_n C.1 C.2.1 dX11_lengthIfRestored_19 rfl (lv_at hl 0 rfl) ?_
    refine lv_iload_n C.1 C.2.1 dX11_lengthIfRestored_20 rfl (lv_at hl 1 rfl) ?_
    refine lv_iload_n C.1 C.2.1 dX11_lengthIfRestored_21 rfl (lv_at hl 1 rfl) ?_
    obtain ⟨u4, hcu4, hf⟩ := bnd_t hf
    refine x_calli hW (x_runV C hW hl (wk9 (k_125)) rfl rfl (c_X11_restoresAll hcu4) (cw_X11_387) ci_X11_restoresAll cs_X11_restoresAll (rm_ok (by decide) (by decide)) ⟨Nat.le_refl _, Nat.le_refl _⟩ (As := [.int p1, .int p1]) rfl rfl (Nat.le_of_ble_eq_true rfl) dX11_lengthIfRestored_22) (fun H locs hW => ?_)
    refine lv_istore_n (lv' := [(2, .int u4.1), (0, .ref (Z.1 125)), (1, .int p1)]) C.1 C.2.1 dX11_lengthIfRestored_25 rfl hl (by decide) rfl (fun ls hl => ?_)
    refine lv_aload_n C.1 C.2.1 dX11_lengthIfRestored_26 rfl (lv_at hl 1 rfl) ?_
    obtain ⟨u5, hcu5, hf⟩ := bnd_t hf
    refine x_calli hW (x_runV C hW hl (wk9 (k_125)) rfl rfl (c_X11_film hcu5) (cw_X11_323) ci_X11_film cs_X11_film (rm_ok (by decide) (by decide)) ⟨Nat.le_refl _, Nat.le_refl _⟩ (As := []) rfl rfl (Nat.le_of_ble_eq_true rfl) dX11_lengthIfRestored_27) (fun H locs hW => ?_)
    refine lv_istore_n (lv' := [(3, .int u5), (2, .int u4.1), (0, .ref (Z.1 125)), (1, .int p1)]) C.1 C.2.1 dX11_lengthIfRestored_30 rfl hl (by decide) rfl (fun ls hl => ?_)
    refine lv_aload_n C.1 C.2.1 dX11_lengthIfRestored_31 rfl (lv_at hl 2 rfl) ?_
    obtain ⟨u6, hcu6, hf⟩ := bnd_t hf
    refine x_callv hW (x_runV C hW hl (wk9 (k_125)) rfl rfl (c_X11_takesBack hcu6) (cw_X11_384) ci_X11_takesBack cs_X11_takesBack (rm_ok (by decide) (by decide)) ⟨Nat.le_refl _, Nat.le_refl _⟩ (As := []) rfl rfl (Nat.le_of_ble_eq_true rfl) dX11_lengthIfRestored_32) (fun H locs hW => ?_)
    refine lv_iload_n C.1 C.2.1 dX11_lengthIfRestored_35 rfl (lv_at hl 0 rfl) ?_
    obtain rfl := Option.some.inj hf
    exact x_iret C hW dX11_lengthIfRestored_36 rfl
  · refine lv_iconst (v := 0) C.1 C.2.1 dX11_lengthIfRestored_13 (by decide) ?_
    obtain rfl := Option.some.inj hf
    exact x_iret C hW dX11_lengthIfRestored_14 rfl
set_option maxRecDepth 20000 in
set_option maxHeartbeats 1000000 in
theorem j_X11_shotsToCut_84 {l : Launch} {Z : ZT} {h : Hp} {p1 : Int32} {g : Hp} {x2 : Int32} {p : Program} {e : Env} {s : State} {m : MethodId} {args : Array Value} {below : List Frame} {meth : Method} {c : Code} (C : CX p s m args meth c cX11_shotsToCut RX11 5 (some .int) Z) {out : Int32 × Hp} {ls : Array Slot} {H : Heap} {locs : List Loc} (hW : XW Z h g s.heap H locs) (hl : lv_has ls 5 [(0, .ref (Z.1 125)), (1, .int p1), (2, .int x2)]) (hf : J_X11_shotsToCut_84 p1 g x2 = some out) : W p l e (rmD 5) s m args below meth c H locs 0 0 (MQ below (va_Qi (fun r (_ : Unit) => r = out.1) (fun _ => Wd Z h out.2) (FR Z)) args s 0 0 (FR Z)) (F0 m 84 ls []) := by
  rw [J_X11_shotsToCut_84] at hf
  refine lv_aload_n C.1 C.2.1 dX11_shotsToCut_84 rfl (lv_at hl 0 rfl) ?_
  obtain ⟨u1, hcu1, hf⟩ := bnd_t hf
  refine x_callv hW (x_runV C hW hl (wk9 (k_125)) rfl rfl (c_X11_takesBack hcu1) (cw_X11_384) ci_X11_takesBack cs_X11_takesBack (rm_ok (by decide) (by decide)) ⟨Nat.le_refl _, Nat.le_refl _⟩ (As := []) rfl rfl (Nat.le_of_ble_eq_true rfl) dX11_shotsToCut_85) (fun H locs hW => ?_)
  refine lv_iload_n C.1 C.2.1 dX11_shotsToCut_88 rfl (lv_at hl 2 rfl) ?_
  obtain rfl := Option.some.inj hf
  exact x_iret C hW dX11_shotsToCut_89 rfl
set_option maxRecDepth 20000 in
set_option maxHeartbeats 1000000 in
theorem j_X11_shotsToCut_73 {l : Launch} {Z : ZT} {h : Hp} {p1 : Int32} {g : Hp} {r17 : Int32 × Hp → Option (Int32 × Hp)} {x2 : Int32} {x3 : Int32} {p : Program} {e : Env} {s : State} {m : MethodId} {args : Array Value} {below : List Frame} {meth : Method} {c : Code} (C : CX p s m args meth c cX11_shotsToCut RX11 5 (some .int) Z) {out : Int32 × Hp} (hr17 : ∀ (x2 : Int32) (g : Hp) (ls : Array Slot) (H : Heap) (locs : List Loc), XW Z h g s.heap H locs → lv_has ls 5 [(0, .ref (Z.1 125)), (1, .int p1), (2, .int x2)] → r17 (x2, g) = some out → W p l e (rmD 5) s m args below meth c H locs 0 0 (MQ below (va_Qi (fun r (_ : Unit) => r = out.1) (fun _ => Wd Z h out.2) (FR Z)) args s 0 0 (FR Z)) (F0 m 17 ls [])) {ls : Array Slot} {H : Heap} {locs : List Loc} (hW : XW Z h g s.heap H locs) (hl : lv_has ls 5 [(0, .ref (Z.1 125)), (1, .int p1), (2, .int x2), (3, .int x3)]) (hf : J_X11_shotsToCut_73 p1 g r17 x2 x3 = some out) : W p l e (rmD 5) s m args below meth c H locs 0 0 (MQ below (va_Qi (fun r (_ : Unit) => r = out.1) (fun _ => Wd Z h out.2) (FR Z)) args s 0 0 (FR Z)) (F0 m 73 ls []) := by
  rw [J_X11_shotsToCut_73] at hf
  refine lv_aload_n C.1 C.2.1 dX11_shotsToCut_73 rfl (lv_at hl 0 rfl) ?_
  refine lv_iload_n C.1 C.2.1 dX11_shotsToCut_74 rfl (lv_at hl 3 rfl) ?_
  obtain ⟨u2, hcu2, hf⟩ := bnd_t hf
  refine x_callv hW (x_runV C hW hl (wk9 (k_125)) rfl rfl (c_X11_takesOut hcu2) (cw_X11_362) ci_X11_takesOut cs_X11_takesOut (rm_ok (by decide) (by decide)) ⟨Nat.le_refl _, Nat.le_refl _⟩ (As := [.int x3]) rfl rfl (Nat.le_of_ble_eq_true rfl) dX11_shotsToCut_75) (fun H locs hW => ?_)
  refine x_iinc (w := 1) C hf dX11_shotsToCut_78 hl (k := 2) rfl (by decide) (by decide) (fun v3 => [(2, .int v3), (0, .ref (Z.1 125)), (1, .int p1), (3, .int x3)]) (fun _ => rfl) (fun v3 ls hf hl => ?_)
  refine lv_goto (tgt := 17) C.1 C.2.1 dX11_shotsToCut_81 (by decide) ?_
  exact hr17 v3 u2 ls _ _ hW (lv_sub hl [1, 2, 0] rfl) hf
set_option maxRecDepth 20000 in
set_option maxHeartbeats 1000000 in
theorem j_X11_shotsToCut_67 {l : Launch} {Z : ZT} {h : Hp} {p1 : Int32} {g : Hp} {r17 : Int32 × Hp → Option (Int32 × Hp)} {r30 : Int32 × Int32 → Option (Int32 × Hp)} {x2 : Int32} {x3 : Int32} {x4 : Int32} {p : Program} {e : Env} {s : State} {m : MethodId} {args : Array Value} {below : List Frame} {meth : Method} {c : Code} (C : CX p s m args meth c cX11_shotsToCut RX11 5 (some .int) Z) {out : Int32 × Hp} (hr17 : ∀ (x2 : Int32) (g : Hp) (ls : Array Slot) (H : Heap) (locs : List Loc), XW Z h g s.heap H locs → lv_has ls 5 [(0, .ref (Z.1 125)), (1, .int p1), (2, .int x2)] → r17 (x2, g) = some out → W p l e (rmD 5) s m args below meth c H locs 0 0 (MQ below (va_Qi (fun r (_ : Unit) => r = out.1) (fun _ => Wd Z h out.2) (FR Z)) args s 0 0 (FR Z)) (F0 m 17 ls [])) (hr30 : ∀ (x3 : Int32) (x4 : Int32) (ls : Array Slot) (H : Heap) (locs : List Loc), XW Z h g s.heap H locs → lv_has ls 5 [(0, .ref (Z.1 125)), (1, .int p1), (2, .int x2), (3, .int x3), (4, .int x4)] → r30 (x3, x4) = some out → W p l e (rmD 5) s m args below meth c H locs 0 0 (MQ below (va_Qi (fun r (_ : Unit) => r = out.1) (fun _ => Wd Z h out.2) (FR Z)) args s 0 0 (FR Z)) (F0 m 30 ls [])) {ls : Array Slot} {H : Heap} {locs : List Loc} (hW : XW Z h g s.heap H locs) (hl : lv_has ls 5 [(0, .ref (Z.1 125)), (1, .int p1), (2, .int x2), (3, .int x3), (4, .int x4)]) (hf : J_X11_shotsToCut_67 p1 g r17 r30 x2 x3 x4 = some out) : W p l e (rmD 5) s m args below meth c H locs 0 0 (MQ below (va_Qi (fun r (_ : Unit) => r = out.1) (fun _ => Wd Z h out.2) (FR Z)) args s 0 0 (FR Z)) (F0 m 67 ls []) := by
  rw [J_X11_shotsToCut_67] at hf
  refine x_iinc (w := 1) C hf dX11_shotsToCut_67 hl (k := 4) rfl (by decide) (by decide) (fun v4 => [(4, .int v4), (0, .ref (Z.1 125)), (1, .int p1), (2, .int x2), (3, .int x3)]) (fun _ => rfl) (fun v4 ls hf hl => ?_)
  refine lv_goto (tgt := 30) C.1 C.2.1 dX11_shotsToCut_70 (by decide) ?_
  exact hr30 x3 v4 ls _ _ hW (lv_sub hl [1, 2, 3, 4, 0] rfl) hf
set_option maxRecDepth 20000 in
set_option maxHeartbeats 1000000 in
theorem l_X11_shotsToCut_30 {l : Launch} {Z : ZT} {h : Hp} {p1 : Int32} {g : Hp} {r17 : Int32 × Hp → Option (Int32 × Hp)} {x2 : Int32} {p : Program} {e : Env} {s : State} {m : MethodId} {args : Array Value} {below : List Frame} {meth : Method} {c : Code} (C : CX p s m args meth c cX11_shotsToCut RX11 5 (some .int) Z) {out : Int32 × Hp} (hr17 : ∀ (x2 : Int32) (g : Hp) (ls : Array Slot) (H : Heap) (locs : List Loc), XW Z h g s.heap H locs → lv_has ls 5 [(0, .ref (Z.1 125)), (1, .int p1), (2, .int x2)] → r17 (x2, g) = some out → W p l e (rmD 5) s m args below meth c H locs 0 0 (MQ below (va_Qi (fun r (_ : Unit) => r = out.1) (fun _ => Wd Z h out.2) (FR Z)) args s 0 0 (FR Z)) (F0 m 17 ls [])) : ∀ (n : Nat) (x3 : Int32) (x4 : Int32) (ls : Array Slot) (H : Heap) (locs : List Loc), XW Z h g s.heap H locs → lv_has ls 5 [(0, .ref (Z.1 125)), (1, .int p1), (2, .int x2), (3, .int x3), (4, .int x4)] → Lp (F_X11_shotsToCut_30 p1 g r17 x2) n (x3, x4) = some out → W p l e (rmD 5) s m args below meth c H locs 0 0 (MQ below (va_Qi (fun r (_ : Unit) => r = out.1) (fun _ => Wd Z h out.2) (FR Z)) args s 0 0 (FR Z)) (F0 m 30 ls []) := by
  intro n
  induction n with
  | zero => intro x3 x4 ls H locs hW hl hf; cases hf
  | succ n ih =>
    intro x3 x4 ls H locs hW hl hf
    rw [Lp_s] at hf
    refine lv_iload C.1 C.2.1 dX11_shotsToCut_30 (lv_at hl 4 rfl) ?_
    refine lv_aload_n C.1 C.2.1 dX11_shotsToCut_32 rfl (lv_at hl 0 rfl) ?_
    refine xg_X11_38 C hW (k_125) dX11_shotsToCut_33 ?_
    refine lv_bipush (v := 40) C.1 C.2.1 dX11_shotsToCut_36 (by decide) ?_
    refine x_ialdM C hW a_134 hf dX11_shotsToCut_38 (fun hf => ?_)
    refine x_cmpge (tgt := 73) C hf dX11_shotsToCut_39 (by decide) (fun hf => ?_) (fun hf => ?_)
    · exact j_X11_shotsToCut_73 C hr17 hW (lv_sub hl [0, 1, 2, 3] rfl) hf
    · refine lv_aload_n C.1 C.2.1 dX11_shotsToCut_42 rfl (lv_at hl 0 rfl) ?_
      refine lv_aload_n C.1 C.2.1 dX11_shotsToCut_43 rfl (lv_at hl 0 rfl) ?_
      refine lv_iload C.1 C.2.1 dX11_shotsToCut_44 (lv_at hl 4 rfl) ?_
      obtain ⟨u5, hcu5, hf⟩ := bnd_t hf
      refine x_calli hW (x_runV C hW hl (wk9 (k_125)) rfl rfl (c_X11_shotBlock hcu5) (cw_X11_311) ci_X11_shotBlock cs_X11_shotBlock (rm_ok (by decide) (by decide)) ⟨Nat.le_refl _, Nat.le_refl _⟩ (As := [.int x4]) rfl rfl (Nat.le_of_ble_eq_true rfl) dX11_shotsToCut_46) (fun H locs hW => ?_)
      obtain ⟨u6, hcu6, hf⟩ := bnd_t hf
      refine x_calli hW (x_runV C hW hl (wk9 (k_125)) rfl rfl (c_X11_plays hcu6) (cw_X11_314) ci_X11_plays cs_X11_plays (rm_ok (by decide) (by decide)) ⟨Nat.le_refl _, Nat.le_refl _⟩ (As := [.int u5]) rfl rfl (Nat.le_of_ble_eq_true rfl) dX11_shotsToCut_49) (fun H locs hW => ?_)
      refine lv_aload_n C.1 C.2.1 dX11_shotsToCut_52 rfl (lv_at hl 0 rfl) ?_
      refine lv_aload_n C.1 C.2.1 dX11_shotsToCut_53 rfl (lv_at hl 0 rfl) ?_
      refine lv_iload_n C.1 C.2.1 dX11_shotsToCut_54 rfl (lv_at hl 3 rfl) ?_
      obtain ⟨u7, hcu7, hf⟩ := bnd_t hf
      refine x_calli hW (x_runV C hW hl (wk9 (k_125)) rfl rfl (c_X11_shotBlock hcu7) (cw_X11_311) ci_X11_shotBlock cs_X11_shotBlock (rm_ok (by decide) (by decide)) ⟨Nat.le_refl _, Nat.le_refl _⟩ (As := [.int x3]) rfl rfl (Nat.le_of_ble_eq_true rfl) dX11_shotsToCut_55) (fun H locs hW => ?_)
      obtain ⟨u8, hcu8, hf⟩ := bnd_t hf
      refine x_calli hW (x_runV C hW hl (wk9 (k_125)) rfl rfl (c_X11_plays hcu8) (cw_X11_314) ci_X11_plays cs_X11_plays (rm_ok (by decide) (by decide)) ⟨Nat.le_refl _, Nat.le_refl _⟩ (As := [.int u7]) rfl rfl (Nat.le_of_ble_eq_true rfl) dX11_shotsToCut_58) (fun H locs hW => ?_)
      refine x_cmple (tgt := 67) C hf dX11_shotsToCut_61 (by decide) (fun hf => ?_) (fun hf => ?_)
      · exact j_X11_shotsToCut_67 C hr17 (fun z0 z1 => ih z0 z1) hW (lv_sub hl [0, 1, 2, 3, 4] rfl) hf
      · refine lv_iload C.1 C.2.1 dX11_shotsToCut_64 (lv_at hl 4 rfl) ?_
        refine lv_istore_n (lv' := [(3, .int x4), (0, .ref (Z.1 125)), (1, .int p1), (2, .int x2), (4, .int x4)]) C.1 C.2.1 dX11_shotsToCut_66 rfl hl (by decide) rfl (fun ls hl => ?_)
        exact j_X11_shotsToCut_67 C hr17 (fun z0 z1 => ih z0 z1) hW (lv_sub hl [1, 2, 3, 0, 4] rfl) hf
set_option maxRecDepth 20000 in
set_option maxHeartbeats 1000000 in
theorem l_X11_shotsToCut_17 {l : Launch} {Z : ZT} {h : Hp} {p1 : Int32} {p : Program} {e : Env} {s : State} {m : MethodId} {args : Array Value} {below : List Frame} {meth : Method} {c : Code} (C : CX p s m args meth c cX11_shotsToCut RX11 5 (some .int) Z) {out : Int32 × Hp} : ∀ (n : Nat) (x2 : Int32) (g : Hp) (ls : Array Slot) (H : Heap) (locs : List Loc), XW Z h g s.heap H locs → lv_has ls 5 [(0, .ref (Z.1 125)), (1, .int p1), (2, .int x2)] → Lp (F_X11_shotsToCut_17 p1) n (x2, g) = some out → W p l e (rmD 5) s m args below meth c H locs 0 0 (MQ below (va_Qi (fun r (_ : Unit) => r = out.1) (fun _ => Wd Z h out.2) (FR Z)) args s 0 0 (FR Z)) (F0 m 17 ls []) := by
  intro n
  induction n with
  | zero => intro x2 g ls H locs hW hl hf; cases hf
  | succ n ih =>
    intro x2 g ls H locs hW hl hf
    rw [Lp_s] at hf
    rw [F_X11_shotsToCut_17] at hf
    try dsimp only at hf
    refine lv_aload_n C.1 C.2.1 dX11_shotsToCut_17 rfl (lv_at hl 0 rfl) ?_
    obtain ⟨u9, hcu9, hf⟩ := bnd_t hf
    refine x_calli hW (x_runV C hW hl (wk9 (k_125)) rfl rfl (c_X11_film hcu9) (cw_X11_323) ci_X11_film cs_X11_film (rm_ok (by decide) (by decide)) ⟨Nat.le_refl _, Nat.le_refl _⟩ (As := []) rfl rfl (Nat.le_of_ble_eq_true rfl) dX11_shotsToCut_18) (fun H locs hW => ?_)
    refine lv_iload_n C.1 C.2.1 dX11_shotsToCut_21 rfl (lv_at hl 1 rfl) ?_
    refine x_cmple (tgt := 84) C hf dX11_shotsToCut_22 (by decide) (fun hf => ?_) (fun hf => ?_)
    · exact j_X11_shotsToCut_84 C hW (lv_sub hl [0, 1, 2] rfl) hf
    · refine lv_iconst (v := 0) C.1 C.2.1 dX11_shotsToCut_25 (by decide) ?_
      refine lv_istore_n (lv' := [(3, .int (0 : Int32)), (0, .ref (Z.1 125)), (1, .int p1), (2, .int x2)]) C.1 C.2.1 dX11_shotsToCut_26 rfl hl (by decide) rfl (fun ls hl => ?_)
      refine lv_iconst (v := 1) C.1 C.2.1 dX11_shotsToCut_27 (by decide) ?_
      refine lv_istore (lv' := [(4, .int (1 : Int32)), (3, .int (0 : Int32)), (0, .ref (Z.1 125)), (1, .int p1), (2, .int x2)]) C.1 C.2.1 dX11_shotsToCut_28 hl (by decide) rfl (fun ls hl => ?_)
      exact l_X11_shotsToCut_30 C (fun z0 z1 => ih z0 z1) FU (0 : Int32) (1 : Int32) ls _ _ hW (lv_sub hl [2, 3, 4, 1, 0] rfl) hf
set_option maxRecDepth 20000 in
set_option maxHeartbeats 1000000 in
theorem c_X11_shotsToCut {l : Launch} {Z : ZT} {h : Hp} {g : Hp} {p1 : Int32} {out : Int32 × Hp} (hf : f_X11_shotsToCut g p1 = some out) : Met l yX11_shotsToCut (wY yX11_shotsToCut cX11_shotsToCut 5 (some .int)) (rmD 5) (va_Pc [.ref (Z.1 125), .int p1] (Wd Z h g)) (va_Qi (fun r (_ : Unit) => r = out.1) (fun _ => Wd Z h out.2) (FR Z)) 0 0 (FR Z) := by
  refine metX RX11 rfl (by decide +kernel) (Nat.le_of_ble_eq_true rfl) ?_
  intro p e s m args below meth c C hW ls hl
  have hl : lv_has ls 5 [(0, .ref (Z.1 125)), (1, .int p1)] := hl
  unfold f_X11_shotsToCut at hf
  refine lv_aload_n C.1 C.2.1 dX11_shotsToCut_0 rfl (lv_at hl 0 rfl) ?_
  refine lv_iconst (v := 0) C.1 C.2.1 dX11_shotsToCut_1 (by decide) ?_
  refine xp_X11_3 C hW (k_125) hf dX11_shotsToCut_2 (fun g10 H locs hf hW => ?_)
  refine lv_iload_n C.1 C.2.1 dX11_shotsToCut_5 rfl (lv_at hl 1 rfl) ?_
  refine x_ifge (tgt := 11) C hf dX11_shotsToCut_6 (by decide) (fun hf => ?_) (fun hf => ?_)
  · refine lv_aload_n C.1 C.2.1 dX11_shotsToCut_11 rfl (lv_at hl 0 rfl) ?_
    obtain ⟨u11, hcu11, hf⟩ := bnd_t hf
    refine x_callv hW (x_runV C hW hl (wk9 (k_125)) rfl rfl (c_X11_putsAside hcu11) (cw_X11_378) ci_X11_putsAside cs_X11_putsAside (rm_ok (by decide) (by decide)) ⟨Nat.le_refl _, Nat.le_refl _⟩ (As := []) rfl rfl (Nat.le_of_ble_eq_true rfl) dX11_shotsToCut_12) (fun H locs hW => ?_)
    refine lv_iconst (v := 0) C.1 C.2.1 dX11_shotsToCut_15 (by decide) ?_
    refine lv_istore_n (lv' := [(2, .int (0 : Int32)), (0, .ref (Z.1 125)), (1, .int p1)]) C.1 C.2.1 dX11_shotsToCut_16 rfl hl (by decide) rfl (fun ls hl => ?_)
    exact l_X11_shotsToCut_17 C FU (0 : Int32) u11 ls _ _ hW (lv_sub hl [1, 2, 0] rfl) hf
  · refine lv_iconst (v := -1) C.1 C.2.1 dX11_shotsToCut_9 (by decide) ?_
    obtain rfl := Option.some.inj hf
    exact x_iret C hW dX11_shotsToCut_10 rfl
set_option maxRecDepth 20000 in
set_option maxHeartbeats 1000000 in
theorem c_X11_cut {l : Launch} {Z : ZT} {h : Hp} {g : Hp} {p1 : Int32} {p2 : Int32} {out : Int32 × Hp} (hf : f_X11_cut g p1 p2 = some out) : Met l yX11_cut (wY yX11_cut cX11_cut 4 (some .int)) (rmD 5) (va_Pc [.ref (Z.1 125), .int p1, .int p2] (Wd Z h g)) (va_Qi (fun r (_ : Unit) => r = out.1) (fun _ => Wd Z h out.2) (FR Z)) 0 0 (FR Z) := by
  refine metX RX11 rfl (by decide +kernel) (Nat.le_of_ble_eq_true rfl) ?_
  intro p e s m args below meth c C hW ls hl
  have hl : lv_has ls 4 [(0, .ref (Z.1 125)), (1, .int p1), (2, .int p2)] := hl
  unfold f_X11_cut at hf
  refine lv_aload_n C.1 C.2.1 dX11_cut_0 rfl (lv_at hl 0 rfl) ?_
  refine lv_iconst (v := 0) C.1 C.2.1 dX11_cut_1 (by decide) ?_
  refine xp_X11_3 C hW (k_125) hf dX11_cut_2 (fun g1 H locs hf hW => ?_)
  refine lv_aload_n C.1 C.2.1 dX11_cut_5 rfl (lv_at hl 0 rfl) ?_
  refine lv_iload_n C.1 C.2.1 dX11_cut_6 rfl (lv_at hl 1 rfl) ?_
  refine lv_iload_n C.1 C.2.1 dX11_cut_7 rfl (lv_at hl 2 rfl) ?_
  obtain ⟨u2, hcu2, hf⟩ := bnd_t hf
  refine x_calli hW (x_runV C hW hl (wk9 (k_125)) rfl rfl (c_X11_noPlaces hcu2) (cw_X11_375) ci_X11_noPlaces cs_X11_noPlaces (rm_ok (by decide) (by decide)) ⟨Nat.le_refl _, Nat.le_refl _⟩ (As := [.int p1, .int p2]) rfl rfl (Nat.le_of_ble_eq_true rfl) dX11_cut_8) (fun H locs hW => ?_)
  refine x_ifeq (tgt := 16) C hf dX11_cut_11 (by decide) (fun hf => ?_) (fun hf => ?_)
  · refine lv_aload_n C.1 C.2.1 dX11_cut_16 rfl (lv_at hl 0 rfl) ?_
    obtain ⟨u3, hcu3, hf⟩ := bnd_t hf
    refine x_callv hW (x_runV C hW hl (wk9 (k_125)) rfl rfl (c_X11_keeps hcu3) (cw_X11_390) ci_X11_keeps cs_X11_keeps (rm_ok (by decide) (by decide)) ⟨Nat.le_refl _, Nat.le_refl _⟩ (As := []) rfl rfl (Nat.le_of_ble_eq_true rfl) dX11_cut_17) (fun H locs hW => ?_)
    refine lv_aload_n C.1 C.2.1 dX11_cut_20 rfl (lv_at hl 0 rfl) ?_
    obtain ⟨u4, hcu4, hf⟩ := bnd_t hf
    refine x_calli hW (x_runV C hW hl (wk9 (k_125)) rfl rfl (c_X11_film hcu4) (cw_X11_323) ci_X11_film cs_X11_film (rm_ok (by decide) (by decide)) ⟨Nat.le_refl _, Nat.le_refl _⟩ (As := []) rfl rfl (Nat.le_of_ble_eq_true rfl) dX11_cut_21) (fun H locs hW => ?_)
    refine lv_istore_n (lv' := [(3, .int u4), (0, .ref (Z.1 125)), (1, .int p1), (2, .int p2)]) C.1 C.2.1 dX11_cut_24 rfl hl (by decide) rfl (fun ls hl => ?_)
    refine lv_aload_n C.1 C.2.1 dX11_cut_25 rfl (lv_at hl 1 rfl) ?_
    refine lv_iload_n C.1 C.2.1 dX11_cut_26 rfl (lv_at hl 2 rfl) ?_
    refine lv_iload_n C.1 C.2.1 dX11_cut_27 rfl (lv_at hl 3 rfl) ?_
    obtain ⟨u5, hcu5, hf⟩ := bnd_t hf
    refine x_callv hW (x_runV C hW hl (wk9 (k_125)) rfl rfl (c_X11_cutsPlaces hcu5) (cw_X11_381) ci_X11_cutsPlaces cs_X11_cutsPlaces (rm_ok (by decide) (by decide)) ⟨Nat.le_refl _, Nat.le_refl _⟩ (As := [.int p1, .int p2]) rfl rfl (Nat.le_of_ble_eq_true rfl) dX11_cut_28) (fun H locs hW => ?_)
    refine lv_iload_n C.1 C.2.1 dX11_cut_31 rfl (lv_at hl 0 rfl) ?_
    refine lv_aload_n C.1 C.2.1 dX11_cut_32 rfl (lv_at hl 1 rfl) ?_
    obtain ⟨u6, hcu6, hf⟩ := bnd_t hf
    refine x_calli hW (x_runV C hW hl (wk9 (k_125)) rfl rfl (c_X11_film hcu6) (cw_X11_323) ci_X11_film cs_X11_film (rm_ok (by decide) (by decide)) ⟨Nat.le_refl _, Nat.le_refl _⟩ (As := []) rfl rfl (Nat.le_of_ble_eq_true rfl) dX11_cut_33) (fun H locs hW => ?_)
    refine lv_isub C.1 C.2.1 dX11_cut_36 ?_
    obtain rfl := Option.some.inj hf
    exact x_iret C hW dX11_cut_37 rfl
  · refine lv_iconst (v := 0) C.1 C.2.1 dX11_cut_14 (by decide) ?_
    obtain rfl := Option.some.inj hf
    exact x_iret C hW dX11_cut_15 rfl
set_option maxRecDepth 20000 in
set_option maxHeartbeats 1000000 in
theorem j_X11_cutWord_27 {l : Launch} {Z : ZT} {h : Hp} {p1 : Int32} {g : Hp} {s1 : Int32} {p : Program} {e : Env} {s : State} {m : MethodId} {args : Array Value} {below : List Frame} {meth : Method} {c : Code} (C : CX p s m args meth c cX11_cutWord RX11 2 (some .int) Z) {out : Int32 × Hp} {ls : Array Slot} {H : Heap} {locs : List Loc} (hW : XW Z h g s.heap H locs) (hl : lv_has ls 2 [(0, .ref (Z.1 125)), (1, .int p1)]) (hf : J_X11_cutWord_27 p1 g s1 = some out) : W p l e (rmD 3) s m args below meth c H locs 0 0 (MQ below (va_Qi (fun r (_ : Unit) => r = out.1) (fun _ => Wd Z h out.2) (FR Z)) args s 0 0 (FR Z)) (F0 m 27 ls [.int s1, .ref (Z.1 125)]) := by
  rw [J_X11_cutWord_27] at hf
  refine lv_iconst (v := 2) C.1 C.2.1 dX11_cutWord_27 (by decide) ?_
  obtain ⟨u1, hcu1, hf⟩ := bnd_t hf
  refine x_calli hW (x_runV C hW hl (wk9 (k_125)) rfl rfl (c_X11_throwsIf hcu1) (cw_X11_216) ci_X11_throwsIf cs_X11_throwsIf (rm_ok (by decide) (by decide)) ⟨Nat.le_refl _, Nat.le_refl _⟩ (As := [.int s1, .int (2 : Int32)]) rfl rfl (Nat.le_of_ble_eq_true rfl) dX11_cutWord_28) (fun H locs hW => ?_)
  refine x_ifeq (tgt := 36) C hf dX11_cutWord_31 (by decide) (fun hf => ?_) (fun hf => ?_)
  · refine lv_aload_n C.1 C.2.1 dX11_cutWord_36 rfl (lv_at hl 0 rfl) ?_
    obtain ⟨u2, hcu2, hf⟩ := bnd_t hf
    refine x_callv hW (x_runV C hW hl (wk9 (k_125)) rfl rfl (c_X11_keeps hcu2) (cw_X11_390) ci_X11_keeps cs_X11_keeps (rm_ok (by decide) (by decide)) ⟨Nat.le_refl _, Nat.le_refl _⟩ (As := []) rfl rfl (Nat.le_of_ble_eq_true rfl) dX11_cutWord_37) (fun H locs hW => ?_)
    refine lv_aload_n C.1 C.2.1 dX11_cutWord_40 rfl (lv_at hl 0 rfl) ?_
    refine lv_iload_n C.1 C.2.1 dX11_cutWord_41 rfl (lv_at hl 1 rfl) ?_
    obtain ⟨u3, hcu3, hf⟩ := bnd_t hf
    refine x_callv hW (x_runV C hW hl (wk9 (k_125)) rfl rfl (c_X11_cutsWord hcu3) (cw_X11_365) ci_X11_cutsWord cs_X11_cutsWord (rm_ok (by decide) (by decide)) ⟨Nat.le_refl _, Nat.le_refl _⟩ (As := [.int p1]) rfl rfl (Nat.le_of_ble_eq_true rfl) dX11_cutWord_42) (fun H locs hW => ?_)
    refine lv_aload_n C.1 C.2.1 dX11_cutWord_45 rfl (lv_at hl 0 rfl) ?_
    refine lv_iload_n C.1 C.2.1 dX11_cutWord_46 rfl (lv_at hl 1 rfl) ?_
    obtain ⟨u4, hcu4, hf⟩ := bnd_t hf
    refine x_calli hW (x_runV C hW hl (wk9 (k_125)) rfl rfl (c_X11_stateOf hcu4) (cw_X11_287) ci_X11_stateOf cs_X11_stateOf (rm_ok (by decide) (by decide)) ⟨Nat.le_refl _, Nat.le_refl _⟩ (As := [.int p1]) rfl rfl (Nat.le_of_ble_eq_true rfl) dX11_cutWord_47) (fun H locs hW => ?_)
    obtain rfl := Option.some.inj hf
    exact x_iret C hW dX11_cutWord_50 rfl
  · refine lv_iconst (v := 0) C.1 C.2.1 dX11_cutWord_34 (by decide) ?_
    obtain rfl := Option.some.inj hf
    exact x_iret C hW dX11_cutWord_35 rfl
set_option maxRecDepth 20000 in
set_option maxHeartbeats 1000000 in
theorem c_X11_cutWord {l : Launch} {Z : ZT} {h : Hp} {g : Hp} {p1 : Int32} {out : Int32 × Hp} (hf : f_X11_cutWord g p1 = some out) : Met l yX11_cutWord (wY yX11_cutWord cX11_cutWord 2 (some .int)) (rmD 3) (va_Pc [.ref (Z.1 125), .int p1] (Wd Z h g)) (va_Qi (fun r (_ : Unit) => r = out.1) (fun _ => Wd Z h out.2) (FR Z)) 0 0 (FR Z) := by
  refine metX RX11 rfl (by decide +kernel) (Nat.le_of_ble_eq_true rfl) ?_
  intro p e s m args below meth c C hW ls hl
  have hl : lv_has ls 2 [(0, .ref (Z.1 125)), (1, .int p1)] := hl
  unfold f_X11_cutWord at hf
  refine lv_aload_n C.1 C.2.1 dX11_cutWord_0 rfl (lv_at hl 0 rfl) ?_
  refine lv_iconst (v := 0) C.1 C.2.1 dX11_cutWord_1 (by decide) ?_
  refine xp_X11_3 C hW (k_125) hf dX11_cutWord_2 (fun g5 H locs hf hW => ?_)
  refine lv_aload_n C.1 C.2.1 dX11_cutWord_5 rfl (lv_at hl 0 rfl) ?_
  refine lv_iload_n C.1 C.2.1 dX11_cutWord_6 rfl (lv_at hl 1 rfl) ?_
  obtain ⟨u6, hcu6, hf⟩ := bnd_t hf
  refine x_calli hW (x_runV C hW hl (wk9 (k_125)) rfl rfl (c_X11_noWord hcu6) (cw_X11_284) ci_X11_noWord cs_X11_noWord (rm_ok (by decide) (by decide)) ⟨Nat.le_refl _, Nat.le_refl _⟩ (As := [.int p1]) rfl rfl (Nat.le_of_ble_eq_true rfl) dX11_cutWord_7) (fun H locs hW => ?_)
  refine x_ifne (tgt := 34) C hf dX11_cutWord_10 (by decide) (fun hf => ?_) (fun hf => ?_)
  · refine lv_iconst (v := 0) C.1 C.2.1 dX11_cutWord_34 (by decide) ?_
    obtain rfl := Option.some.inj hf
    exact x_iret C hW dX11_cutWord_35 rfl
  · refine lv_aload_n C.1 C.2.1 dX11_cutWord_13 rfl (lv_at hl 0 rfl) ?_
    refine lv_aload_n C.1 C.2.1 dX11_cutWord_14 rfl (lv_at hl 0 rfl) ?_
    refine lv_iload_n C.1 C.2.1 dX11_cutWord_15 rfl (lv_at hl 1 rfl) ?_
    obtain ⟨u7, hcu7, hf⟩ := bnd_t hf
    refine x_calli hW (x_runV C hW hl (wk9 (k_125)) rfl rfl (c_X11_isKept hcu7) (cw_X11_275) ci_X11_isKept cs_X11_isKept (rm_ok (by decide) (by decide)) ⟨Nat.le_refl _, Nat.le_refl _⟩ (As := [.int p1]) rfl rfl (Nat.le_of_ble_eq_true rfl) dX11_cutWord_16) (fun H locs hW => ?_)
    refine x_ifne (tgt := 26) C hf dX11_cutWord_19 (by decide) (fun hf => ?_) (fun hf => ?_)
    · refine lv_iconst (v := 0) C.1 C.2.1 dX11_cutWord_26 (by decide) ?_
      exact j_X11_cutWord_27 C hW (lv_sub hl [0, 1] rfl) hf
    · refine lv_iconst (v := 1) C.1 C.2.1 dX11_cutWord_22 (by decide) ?_
      refine lv_goto (tgt := 27) C.1 C.2.1 dX11_cutWord_23 (by decide) ?_
      exact j_X11_cutWord_27 C hW (lv_sub hl [0, 1] rfl) hf
set_option maxRecDepth 20000 in
set_option maxHeartbeats 1000000 in
theorem j_X11_restore_32 {l : Launch} {Z : ZT} {h : Hp} {p1 : Int32} {p2 : Int32} {g : Hp} {s1 : Int32} {p : Program} {e : Env} {s : State} {m : MethodId} {args : Array Value} {below : List Frame} {meth : Method} {c : Code} (C : CX p s m args meth c cX11_restore RX11 3 (some .int) Z) {out : Int32 × Hp} {ls : Array Slot} {H : Heap} {locs : List Loc} (hW : XW Z h g s.heap H locs) (hl : lv_has ls 3 [(0, .ref (Z.1 125)), (1, .int p1), (2, .int p2)]) (hf : J_X11_restore_32 p1 p2 g s1 = some out) : W p l e (rmD 3) s m args below meth c H locs 0 0 (MQ below (va_Qi (fun r (_ : Unit) => r = out.1) (fun _ => Wd Z h out.2) (FR Z)) args s 0 0 (FR Z)) (F0 m 32 ls [.int s1, .ref (Z.1 125)]) := by
  rw [J_X11_restore_32] at hf
  refine lv_iconst (v := 2) C.1 C.2.1 dX11_restore_32 (by decide) ?_
  obtain ⟨u1, hcu1, hf⟩ := bnd_t hf
  refine x_calli hW (x_runV C hW hl (wk9 (k_125)) rfl rfl (c_X11_throwsIf hcu1) (cw_X11_216) ci_X11_throwsIf cs_X11_throwsIf (rm_ok (by decide) (by decide)) ⟨Nat.le_refl _, Nat.le_refl _⟩ (As := [.int s1, .int (2 : Int32)]) rfl rfl (Nat.le_of_ble_eq_true rfl) dX11_restore_33) (fun H locs hW => ?_)
  refine x_ifeq (tgt := 41) C hf dX11_restore_36 (by decide) (fun hf => ?_) (fun hf => ?_)
  · refine lv_aload_n C.1 C.2.1 dX11_restore_41 rfl (lv_at hl 0 rfl) ?_
    obtain ⟨u2, hcu2, hf⟩ := bnd_t hf
    refine x_callv hW (x_runV C hW hl (wk9 (k_125)) rfl rfl (c_X11_keeps hcu2) (cw_X11_390) ci_X11_keeps cs_X11_keeps (rm_ok (by decide) (by decide)) ⟨Nat.le_refl _, Nat.le_refl _⟩ (As := []) rfl rfl (Nat.le_of_ble_eq_true rfl) dX11_restore_42) (fun H locs hW => ?_)
    refine lv_aload_n C.1 C.2.1 dX11_restore_45 rfl (lv_at hl 0 rfl) ?_
    refine lv_iload_n C.1 C.2.1 dX11_restore_46 rfl (lv_at hl 1 rfl) ?_
    refine lv_iload_n C.1 C.2.1 dX11_restore_47 rfl (lv_at hl 2 rfl) ?_
    obtain ⟨u3, hcu3, hf⟩ := bnd_t hf
    refine x_calli hW (x_runV C hW hl (wk9 (k_125)) rfl rfl (c_X11_restoresAll hcu3) (cw_X11_387) ci_X11_restoresAll cs_X11_restoresAll (rm_ok (by decide) (by decide)) ⟨Nat.le_refl _, Nat.le_refl _⟩ (As := [.int p1, .int p2]) rfl rfl (Nat.le_of_ble_eq_true rfl) dX11_restore_48) (fun H locs hW => ?_)
    obtain rfl := Option.some.inj hf
    exact x_iret C hW dX11_restore_51 rfl
  · refine lv_iconst (v := 0) C.1 C.2.1 dX11_restore_39 (by decide) ?_
    obtain rfl := Option.some.inj hf
    exact x_iret C hW dX11_restore_40 rfl
set_option maxRecDepth 20000 in
set_option maxHeartbeats 1000000 in
theorem c_X11_restore {l : Launch} {Z : ZT} {h : Hp} {g : Hp} {p1 : Int32} {p2 : Int32} {out : Int32 × Hp} (hf : f_X11_restore g p1 p2 = some out) : Met l yX11_restore (wY yX11_restore cX11_restore 3 (some .int)) (rmD 3) (va_Pc [.ref (Z.1 125), .int p1, .int p2] (Wd Z h g)) (va_Qi (fun r (_ : Unit) => r = out.1) (fun _ => Wd Z h out.2) (FR Z)) 0 0 (FR Z) := by
  refine metX RX11 rfl (by decide +kernel) (Nat.le_of_ble_eq_true rfl) ?_
  intro p e s m args below meth c C hW ls hl
  have hl : lv_has ls 3 [(0, .ref (Z.1 125)), (1, .int p1), (2, .int p2)] := hl
  unfold f_X11_restore at hf
  refine lv_aload_n C.1 C.2.1 dX11_restore_0 rfl (lv_at hl 0 rfl) ?_
  refine lv_iconst (v := 0) C.1 C.2.1 dX11_restore_1 (by decide) ?_
  refine xp_X11_3 C hW (k_125) hf dX11_restore_2 (fun g4 H locs hf hW => ?_)
  refine lv_aload_n C.1 C.2.1 dX11_restore_5 rfl (lv_at hl 0 rfl) ?_
  refine lv_iload_n C.1 C.2.1 dX11_restore_6 rfl (lv_at hl 1 rfl) ?_
  obtain ⟨u5, hcu5, hf⟩ := bnd_t hf
  refine x_calli hW (x_runV C hW hl (wk9 (k_125)) rfl rfl (c_X11_noWord hcu5) (cw_X11_284) ci_X11_noWord cs_X11_noWord (rm_ok (by decide) (by decide)) ⟨Nat.le_refl _, Nat.le_refl _⟩ (As := [.int p1]) rfl rfl (Nat.le_of_ble_eq_true rfl) dX11_restore_7) (fun H locs hW => ?_)
  refine x_ifne (tgt := 39) C hf dX11_restore_10 (by decide) (fun hf => ?_) (fun hf => ?_)
  · refine lv_iconst (v := 0) C.1 C.2.1 dX11_restore_39 (by decide) ?_
    obtain rfl := Option.some.inj hf
    exact x_iret C hW dX11_restore_40 rfl
  · refine lv_aload_n C.1 C.2.1 dX11_restore_13 rfl (lv_at hl 0 rfl) ?_
    refine lv_iload_n C.1 C.2.1 dX11_restore_14 rfl (lv_at hl 2 rfl) ?_
    obtain ⟨u6, hcu6, hf⟩ := bnd_t hf
    refine x_calli hW (x_runV C hW hl (wk9 (k_125)) rfl rfl (c_X11_noWord hcu6) (cw_X11_284) ci_X11_noWord cs_X11_noWord (rm_ok (by decide) (by decide)) ⟨Nat.le_refl _, Nat.le_refl _⟩ (As := [.int p2]) rfl rfl (Nat.le_of_ble_eq_true rfl) dX11_restore_15) (fun H locs hW => ?_)
    refine x_ifne (tgt := 39) C hf dX11_restore_18 (by decide) (fun hf => ?_) (fun hf => ?_)
    · refine lv_iconst (v := 0) C.1 C.2.1 dX11_restore_39 (by decide) ?_
      obtain rfl := Option.some.inj hf
      exact x_iret C hW dX11_restore_40 rfl
    · refine lv_aload_n C.1 C.2.1 dX11_restore_21 rfl (lv_at hl 0 rfl) ?_
      refine lv_iload_n C.1 C.2.1 dX11_restore_22 rfl (lv_at hl 2 rfl) ?_
      refine lv_iload_n C.1 C.2.1 dX11_restore_23 rfl (lv_at hl 1 rfl) ?_
      refine x_cmpge (tgt := 31) C hf dX11_restore_24 (by decide) (fun hf => ?_) (fun hf => ?_)
      · refine lv_iconst (v := 0) C.1 C.2.1 dX11_restore_31 (by decide) ?_
        exact j_X11_restore_32 C hW (lv_sub hl [0, 1, 2] rfl) hf
      · refine lv_iconst (v := 1) C.1 C.2.1 dX11_restore_27 (by decide) ?_
        refine lv_goto (tgt := 32) C.1 C.2.1 dX11_restore_28 (by decide) ?_
        exact j_X11_restore_32 C hW (lv_sub hl [0, 1, 2] rfl) hf
set_option maxRecDepth 20000 in
set_option maxHeartbeats 1000000 in
theorem j_X11_move_58 {l : Launch} {Z : ZT} {h : Hp} {p1 : Int32} {p2 : Int32} {p3 : Int32} {g : Hp} {s1 : Int32} {p : Program} {e : Env} {s : State} {m : MethodId} {args : Array Value} {below : List Frame} {meth : Method} {c : Code} (C : CX p s m args meth c cX11_move RX11 4 (some .int) Z) {out : Int32 × Hp} {ls : Array Slot} {H : Heap} {locs : List Loc} (hW : XW Z h g s.heap H locs) (hl : lv_has ls 4 [(0, .ref (Z.1 125)), (1, .int p1), (2, .int p2), (3, .int p3)]) (hf : J_X11_move_58 p1 p2 p3 g s1 = some out) : W p l e (rmD 2) s m args below meth c H locs 0 0 (MQ below (va_Qi (fun r (_ : Unit) => r = out.1) (fun _ => Wd Z h out.2) (FR Z)) args s 0 0 (FR Z)) (F0 m 58 ls [.int s1, .ref (Z.1 125)]) := by
  rw [J_X11_move_58] at hf
  refine lv_iconst (v := 2) C.1 C.2.1 dX11_move_58 (by decide) ?_
  obtain ⟨u1, hcu1, hf⟩ := bnd_t hf
  refine x_calli hW (x_runV C hW hl (wk9 (k_125)) rfl rfl (c_X11_throwsIf hcu1) (cw_X11_216) ci_X11_throwsIf cs_X11_throwsIf (rm_ok (by decide) (by decide)) ⟨Nat.le_refl _, Nat.le_refl _⟩ (As := [.int s1, .int (2 : Int32)]) rfl rfl (Nat.le_of_ble_eq_true rfl) dX11_move_59) (fun H locs hW => ?_)
  refine x_ifeq (tgt := 67) C hf dX11_move_62 (by decide) (fun hf => ?_) (fun hf => ?_)
  · refine lv_aload_n C.1 C.2.1 dX11_move_67 rfl (lv_at hl 0 rfl) ?_
    obtain ⟨u2, hcu2, hf⟩ := bnd_t hf
    refine x_callv hW (x_runV C hW hl (wk9 (k_125)) rfl rfl (c_X11_keeps hcu2) (cw_X11_390) ci_X11_keeps cs_X11_keeps (rm_ok (by decide) (by decide)) ⟨Nat.le_refl _, Nat.le_refl _⟩ (As := []) rfl rfl (Nat.le_of_ble_eq_true rfl) dX11_move_68) (fun H locs hW => ?_)
    refine lv_aload_n C.1 C.2.1 dX11_move_71 rfl (lv_at hl 0 rfl) ?_
    refine lv_iload_n C.1 C.2.1 dX11_move_72 rfl (lv_at hl 1 rfl) ?_
    refine lv_iload_n C.1 C.2.1 dX11_move_73 rfl (lv_at hl 2 rfl) ?_
    refine lv_iload_n C.1 C.2.1 dX11_move_74 rfl (lv_at hl 3 rfl) ?_
    obtain ⟨u3, hcu3, hf⟩ := bnd_t hf
    refine x_calli hW (x_runV C hW hl (wk9 (k_125)) rfl rfl (c_X11_movesAll hcu3) (cw_X11_393) ci_X11_movesAll cs_X11_movesAll (rm_ok (by decide) (by decide)) ⟨Nat.le_refl _, Nat.le_refl _⟩ (As := [.int p1, .int p2, .int p3]) rfl rfl (Nat.le_of_ble_eq_true rfl) dX11_move_75) (fun H locs hW => ?_)
    obtain rfl := Option.some.inj hf
    exact x_iret C hW dX11_move_78 rfl
  · refine lv_iconst (v := 0) C.1 C.2.1 dX11_move_65 (by decide) ?_
    obtain rfl := Option.some.inj hf
    exact x_iret C hW dX11_move_66 rfl
set_option maxRecDepth 20000 in
set_option maxHeartbeats 1000000 in
theorem j_X11_move_53 {l : Launch} {Z : ZT} {h : Hp} {p1 : Int32} {p2 : Int32} {p3 : Int32} {g : Hp} {p : Program} {e : Env} {s : State} {m : MethodId} {args : Array Value} {below : List Frame} {meth : Method} {c : Code} (C : CX p s m args meth c cX11_move RX11 4 (some .int) Z) {out : Int32 × Hp} {ls : Array Slot} {H : Heap} {locs : List Loc} (hW : XW Z h g s.heap H locs) (hl : lv_has ls 4 [(0, .ref (Z.1 125)), (1, .int p1), (2, .int p2), (3, .int p3)]) (hf : J_X11_move_53 p1 p2 p3 g = some out) : W p l e (rmD 2) s m args below meth c H locs 0 0 (MQ below (va_Qi (fun r (_ : Unit) => r = out.1) (fun _ => Wd Z h out.2) (FR Z)) args s 0 0 (FR Z)) (F0 m 53 ls [.ref (Z.1 125)]) := by
  refine lv_iconst (v := 1) C.1 C.2.1 dX11_move_53 (by decide) ?_
  refine lv_goto (tgt := 58) C.1 C.2.1 dX11_move_54 (by decide) ?_
  exact j_X11_move_58 C hW (lv_sub hl [0, 1, 2, 3] rfl) hf
set_option maxRecDepth 20000 in
set_option maxHeartbeats 1000000 in
theorem c_X11_move {l : Launch} {Z : ZT} {h : Hp} {g : Hp} {p1 : Int32} {p2 : Int32} {p3 : Int32} {out : Int32 × Hp} (hf : f_X11_move g p1 p2 p3 = some out) : Met l yX11_move (wY yX11_move cX11_move 4 (some .int)) (rmD 2) (va_Pc [.ref (Z.1 125), .int p1, .int p2, .int p3] (Wd Z h g)) (va_Qi (fun r (_ : Unit) => r = out.1) (fun _ => Wd Z h out.2) (FR Z)) 0 0 (FR Z) := by
  refine metX RX11 rfl (by decide +kernel) (Nat.le_of_ble_eq_true rfl) ?_
  intro p e s m args below meth c C hW ls hl
  have hl : lv_has ls 4 [(0, .ref (Z.1 125)), (1, .int p1), (2, .int p2), (3, .int p3)] := hl
  unfold f_X11_move at hf
  refine lv_aload_n C.1 C.2.1 dX11_move_0 rfl (lv_at hl 0 rfl) ?_
  refine lv_iconst (v := 0) C.1 C.2.1 dX11_move_1 (by decide) ?_
  refine xp_X11_3 C hW (k_125) hf dX11_move_2 (fun g4 H locs hf hW => ?_)
  refine lv_aload_n C.1 C.2.1 dX11_move_5 rfl (lv_at hl 0 rfl) ?_
  refine lv_iload_n C.1 C.2.1 dX11_move_6 rfl (lv_at hl 1 rfl) ?_
  obtain ⟨u5, hcu5, hf⟩ := bnd_t hf
  refine x_calli hW (x_runV C hW hl (wk9 (k_125)) rfl rfl (c_X11_noShot hcu5) (cw_X11_320) ci_X11_noShot cs_X11_noShot (rm_ok (by decide) (by decide)) ⟨Nat.le_refl _, Nat.le_refl _⟩ (As := [.int p1]) rfl rfl (Nat.le_of_ble_eq_true rfl) dX11_move_7) (fun H locs hW => ?_)
  refine x_ifne (tgt := 65) C hf dX11_move_10 (by decide) (fun hf => ?_) (fun hf => ?_)
  · refine lv_iconst (v := 0) C.1 C.2.1 dX11_move_65 (by decide) ?_
    obtain rfl := Option.some.inj hf
    exact x_iret C hW dX11_move_66 rfl
  · refine lv_aload_n C.1 C.2.1 dX11_move_13 rfl (lv_at hl 0 rfl) ?_
    refine lv_iload_n C.1 C.2.1 dX11_move_14 rfl (lv_at hl 2 rfl) ?_
    obtain ⟨u6, hcu6, hf⟩ := bnd_t hf
    refine x_calli hW (x_runV C hW hl (wk9 (k_125)) rfl rfl (c_X11_noShot hcu6) (cw_X11_320) ci_X11_noShot cs_X11_noShot (rm_ok (by decide) (by decide)) ⟨Nat.le_refl _, Nat.le_refl _⟩ (As := [.int p2]) rfl rfl (Nat.le_of_ble_eq_true rfl) dX11_move_15) (fun H locs hW => ?_)
    refine x_ifne (tgt := 65) C hf dX11_move_18 (by decide) (fun hf => ?_) (fun hf => ?_)
    · refine lv_iconst (v := 0) C.1 C.2.1 dX11_move_65 (by decide) ?_
      obtain rfl := Option.some.inj hf
      exact x_iret C hW dX11_move_66 rfl
    · refine lv_aload_n C.1 C.2.1 dX11_move_21 rfl (lv_at hl 0 rfl) ?_
      refine lv_iload_n C.1 C.2.1 dX11_move_22 rfl (lv_at hl 2 rfl) ?_
      refine lv_iload_n C.1 C.2.1 dX11_move_23 rfl (lv_at hl 1 rfl) ?_
      refine x_cmplt (tgt := 53) C hf dX11_move_24 (by decide) (fun hf => ?_) (fun hf => ?_)
      · exact j_X11_move_53 C hW (lv_sub hl [0, 1, 2, 3] rfl) hf
      · refine lv_iload_n C.1 C.2.1 dX11_move_27 rfl (lv_at hl 3 rfl) ?_
        refine lv_iconst (v := -1) C.1 C.2.1 dX11_move_28 (by decide) ?_
        refine lv_aload_n C.1 C.2.1 dX11_move_29 rfl (lv_at hl 0 rfl) ?_
        refine xg_X11_38 C hW (k_125) dX11_move_30 ?_
        refine lv_bipush (v := 40) C.1 C.2.1 dX11_move_33 (by decide) ?_
        refine x_ialdM C hW a_134 hf dX11_move_35 (fun hf => ?_)
        refine lv_iconst (v := 1) C.1 C.2.1 dX11_move_36 (by decide) ?_
        refine lv_isub C.1 C.2.1 dX11_move_37 ?_
        obtain ⟨u7, hcu7, hf⟩ := bnd_t hf
        refine x_calli hW (x_runS C hW hl (c_X11_in hcu7) (cw_X11_166) ct_X11_in (rm_ok (by decide) (by decide)) ⟨Nat.le_refl _, Nat.le_refl _⟩ (As := [.int p3, .int (-1 : Int32), .int (u6.2 134 (ix (40 : Int32)) - (1 : Int32))]) rfl rfl (Nat.le_of_ble_eq_true rfl) dX11_move_38) (fun H locs hW => ?_)
        refine x_ifeq (tgt := 53) C hf dX11_move_41 (by decide) (fun hf => ?_) (fun hf => ?_)
        · exact j_X11_move_53 C hW (lv_sub hl [0, 1, 2, 3] rfl) hf
        · refine lv_iload_n C.1 C.2.1 dX11_move_44 rfl (lv_at hl 3 rfl) ?_
          refine lv_iload_n C.1 C.2.1 dX11_move_45 rfl (lv_at hl 1 rfl) ?_
          refine lv_iload_n C.1 C.2.1 dX11_move_46 rfl (lv_at hl 2 rfl) ?_
          obtain ⟨u8, hcu8, hf⟩ := bnd_t hf
          refine x_calli hW (x_runS C hW hl (c_X11_in hcu8) (cw_X11_166) ct_X11_in (rm_ok (by decide) (by decide)) ⟨Nat.le_refl _, Nat.le_refl _⟩ (As := [.int p3, .int p1, .int p2]) rfl rfl (Nat.le_of_ble_eq_true rfl) dX11_move_47) (fun H locs hW => ?_)
          refine x_ifeq (tgt := 57) C hf dX11_move_50 (by decide) (fun hf => ?_) (fun hf => ?_)
          · refine lv_iconst (v := 0) C.1 C.2.1 dX11_move_57 (by decide) ?_
            exact j_X11_move_58 C hW (lv_sub hl [0, 1, 2, 3] rfl) hf
          · exact j_X11_move_53 C hW (lv_sub hl [0, 1, 2, 3] rfl) hf
set_option maxRecDepth 20000 in
set_option maxHeartbeats 1000000 in
theorem j_X11_setHandles_41 {l : Launch} {Z : ZT} {h : Hp} {p1 : Int32} {p2 : Int32} {p3 : Int32} {g : Hp} {s1 : Int32} {p : Program} {e : Env} {s : State} {m : MethodId} {args : Array Value} {below : List Frame} {meth : Method} {c : Code} (C : CX p s m args meth c cX11_setHandles RX11 4 (some .int) Z) {out : Int32 × Hp} {ls : Array Slot} {H : Heap} {locs : List Loc} (hW : XW Z h g s.heap H locs) (hl : lv_has ls 4 [(0, .ref (Z.1 125)), (1, .int p1), (2, .int p2), (3, .int p3)]) (hf : J_X11_setHandles_41 p1 p2 p3 g s1 = some out) : W p l e (rmD 3) s m args below meth c H locs 0 0 (MQ below (va_Qi (fun r (_ : Unit) => r = out.1) (fun _ => Wd Z h out.2) (FR Z)) args s 0 0 (FR Z)) (F0 m 41 ls [.int s1, .ref (Z.1 125)]) := by
  rw [J_X11_setHandles_41] at hf
  refine lv_iconst (v := 2) C.1 C.2.1 dX11_setHandles_41 (by decide) ?_
  obtain ⟨u1, hcu1, hf⟩ := bnd_t hf
  refine x_calli hW (x_runV C hW hl (wk9 (k_125)) rfl rfl (c_X11_throwsIf hcu1) (cw_X11_216) ci_X11_throwsIf cs_X11_throwsIf (rm_ok (by decide) (by decide)) ⟨Nat.le_refl _, Nat.le_refl _⟩ (As := [.int s1, .int (2 : Int32)]) rfl rfl (Nat.le_of_ble_eq_true rfl) dX11_setHandles_42) (fun H locs hW => ?_)
  refine x_ifeq (tgt := 50) C hf dX11_setHandles_45 (by decide) (fun hf => ?_) (fun hf => ?_)
  · refine lv_aload_n C.1 C.2.1 dX11_setHandles_50 rfl (lv_at hl 0 rfl) ?_
    obtain ⟨u2, hcu2, hf⟩ := bnd_t hf
    refine x_callv hW (x_runV C hW hl (wk9 (k_125)) rfl rfl (c_X11_keeps hcu2) (cw_X11_390) ci_X11_keeps cs_X11_keeps (rm_ok (by decide) (by decide)) ⟨Nat.le_refl _, Nat.le_refl _⟩ (As := []) rfl rfl (Nat.le_of_ble_eq_true rfl) dX11_setHandles_51) (fun H locs hW => ?_)
    refine lv_aload_n C.1 C.2.1 dX11_setHandles_54 rfl (lv_at hl 0 rfl) ?_
    refine xg_X11_38 C hW (k_125) dX11_setHandles_55 ?_
    refine lv_bipush (v := 81) C.1 C.2.1 dX11_setHandles_58 (by decide) ?_
    refine lv_iload_n C.1 C.2.1 dX11_setHandles_60 rfl (lv_at hl 1 rfl) ?_
    refine lv_iadd C.1 C.2.1 dX11_setHandles_61 ?_
    refine lv_iload_n C.1 C.2.1 dX11_setHandles_62 rfl (lv_at hl 2 rfl) ?_
    refine x_iastM C hW a_134 hf dX11_setHandles_63 (fun g3 H locs hf hW => ?_)
    refine lv_aload_n C.1 C.2.1 dX11_setHandles_64 rfl (lv_at hl 0 rfl) ?_
    refine xg_X11_38 C hW (k_125) dX11_setHandles_65 ?_
    refine lv_bipush (v := 121) C.1 C.2.1 dX11_setHandles_68 (by decide) ?_
    refine lv_iload_n C.1 C.2.1 dX11_setHandles_70 rfl (lv_at hl 1 rfl) ?_
    refine lv_iadd C.1 C.2.1 dX11_setHandles_71 ?_
    refine lv_iload_n C.1 C.2.1 dX11_setHandles_72 rfl (lv_at hl 3 rfl) ?_
    refine x_iastM C hW a_134 hf dX11_setHandles_73 (fun g4 H locs hf hW => ?_)
    refine lv_aload_n C.1 C.2.1 dX11_setHandles_74 rfl (lv_at hl 0 rfl) ?_
    refine lv_iload_n C.1 C.2.1 dX11_setHandles_75 rfl (lv_at hl 1 rfl) ?_
    obtain ⟨u5, hcu5, hf⟩ := bnd_t hf
    refine x_calli hW (x_runV C hW hl (wk9 (k_125)) rfl rfl (c_X11_shotOf hcu5) (cw_X11_278) ci_X11_shotOf cs_X11_shotOf (rm_ok (by decide) (by decide)) ⟨Nat.le_refl _, Nat.le_refl _⟩ (As := [.int p1]) rfl rfl (Nat.le_of_ble_eq_true rfl) dX11_setHandles_76) (fun H locs hW => ?_)
    refine lv_iconst (v := -1) C.1 C.2.1 dX11_setHandles_79 (by decide) ?_
    refine x_cmpne (tgt := 87) C hf dX11_setHandles_80 (by decide) (fun hf => ?_) (fun hf => ?_)
    · refine lv_aload_n C.1 C.2.1 dX11_setHandles_87 rfl (lv_at hl 0 rfl) ?_
      refine lv_iload_n C.1 C.2.1 dX11_setHandles_88 rfl (lv_at hl 1 rfl) ?_
      obtain ⟨u6, hcu6, hf⟩ := bnd_t hf
      refine x_calli hW (x_runV C hW hl (wk9 (k_125)) rfl rfl (c_X11_plays hcu6) (cw_X11_314) ci_X11_plays cs_X11_plays (rm_ok (by decide) (by decide)) ⟨Nat.le_refl _, Nat.le_refl _⟩ (As := [.int p1]) rfl rfl (Nat.le_of_ble_eq_true rfl) dX11_setHandles_89) (fun H locs hW => ?_)
      obtain rfl := Option.some.inj hf
      exact x_iret C hW dX11_setHandles_92 rfl
    · refine lv_iconst (v := 0) C.1 C.2.1 dX11_setHandles_83 (by decide) ?_
      refine lv_goto (tgt := 92) C.1 C.2.1 dX11_setHandles_84 (by decide) ?_
      obtain rfl := Option.some.inj hf
      exact x_iret C hW dX11_setHandles_92 rfl
  · refine lv_iconst (v := 0) C.1 C.2.1 dX11_setHandles_48 (by decide) ?_
    obtain rfl := Option.some.inj hf
    exact x_iret C hW dX11_setHandles_49 rfl
set_option maxRecDepth 20000 in
set_option maxHeartbeats 1000000 in
theorem j_X11_setHandles_36 {l : Launch} {Z : ZT} {h : Hp} {p1 : Int32} {p2 : Int32} {p3 : Int32} {g : Hp} {p : Program} {e : Env} {s : State} {m : MethodId} {args : Array Value} {below : List Frame} {meth : Method} {c : Code} (C : CX p s m args meth c cX11_setHandles RX11 4 (some .int) Z) {out : Int32 × Hp} {ls : Array Slot} {H : Heap} {locs : List Loc} (hW : XW Z h g s.heap H locs) (hl : lv_has ls 4 [(0, .ref (Z.1 125)), (1, .int p1), (2, .int p2), (3, .int p3)]) (hf : J_X11_setHandles_36 p1 p2 p3 g = some out) : W p l e (rmD 3) s m args below meth c H locs 0 0 (MQ below (va_Qi (fun r (_ : Unit) => r = out.1) (fun _ => Wd Z h out.2) (FR Z)) args s 0 0 (FR Z)) (F0 m 36 ls [.ref (Z.1 125)]) := by
  refine lv_iconst (v := 1) C.1 C.2.1 dX11_setHandles_36 (by decide) ?_
  refine lv_goto (tgt := 41) C.1 C.2.1 dX11_setHandles_37 (by decide) ?_
  exact j_X11_setHandles_41 C hW (lv_sub hl [0, 1, 2, 3] rfl) hf
set_option maxRecDepth 20000 in
set_option maxHeartbeats 1000000 in
theorem c_X11_setHandles {l : Launch} {Z : ZT} {h : Hp} {g : Hp} {p1 : Int32} {p2 : Int32} {p3 : Int32} {out : Int32 × Hp} (hf : f_X11_setHandles g p1 p2 p3 = some out) : Met l yX11_setHandles (wY yX11_setHandles cX11_setHandles 4 (some .int)) (rmD 3) (va_Pc [.ref (Z.1 125), .int p1, .int p2, .int p3] (Wd Z h g)) (va_Qi (fun r (_ : Unit) => r = out.1) (fun _ => Wd Z h out.2) (FR Z)) 0 0 (FR Z) := by
  refine metX RX11 rfl (by decide +kernel) (Nat.le_of_ble_eq_true rfl) ?_
  intro p e s m args below meth c C hW ls hl
  have hl : lv_has ls 4 [(0, .ref (Z.1 125)), (1, .int p1), (2, .int p2), (3, .int p3)] := hl
  unfold f_X11_setHandles at hf
  refine lv_aload_n C.1 C.2.1 dX11_setHandles_0 rfl (lv_at hl 0 rfl) ?_
  refine lv_iconst (v := 0) C.1 C.2.1 dX11_setHandles_1 (by decide) ?_
  refine xp_X11_3 C hW (k_125) hf dX11_setHandles_2 (fun g7 H locs hf hW => ?_)
  refine lv_aload_n C.1 C.2.1 dX11_setHandles_5 rfl (lv_at hl 0 rfl) ?_
  refine lv_iload_n C.1 C.2.1 dX11_setHandles_6 rfl (lv_at hl 1 rfl) ?_
  obtain ⟨u8, hcu8, hf⟩ := bnd_t hf
  refine x_calli hW (x_runV C hW hl (wk9 (k_125)) rfl rfl (c_X11_noBlock hcu8) (cw_X11_293) ci_X11_noBlock cs_X11_noBlock (rm_ok (by decide) (by decide)) ⟨Nat.le_refl _, Nat.le_refl _⟩ (As := [.int p1]) rfl rfl (Nat.le_of_ble_eq_true rfl) dX11_setHandles_7) (fun H locs hW => ?_)
  refine x_ifne (tgt := 48) C hf dX11_setHandles_10 (by decide) (fun hf => ?_) (fun hf => ?_)
  · refine lv_iconst (v := 0) C.1 C.2.1 dX11_setHandles_48 (by decide) ?_
    obtain rfl := Option.some.inj hf
    exact x_iret C hW dX11_setHandles_49 rfl
  · refine lv_aload_n C.1 C.2.1 dX11_setHandles_13 rfl (lv_at hl 0 rfl) ?_
    refine lv_iload_n C.1 C.2.1 dX11_setHandles_14 rfl (lv_at hl 2 rfl) ?_
    refine lv_iconst (v := 0) C.1 C.2.1 dX11_setHandles_15 (by decide) ?_
    refine lv_sipush (v := 999) C.1 C.2.1 dX11_setHandles_16 (by decide) ?_
    obtain ⟨u9, hcu9, hf⟩ := bnd_t hf
    refine x_calli hW (x_runS C hW hl (c_X11_in hcu9) (cw_X11_166) ct_X11_in (rm_ok (by decide) (by decide)) ⟨Nat.le_refl _, Nat.le_refl _⟩ (As := [.int p2, .int (0 : Int32), .int (999 : Int32)]) rfl rfl (Nat.le_of_ble_eq_true rfl) dX11_setHandles_19) (fun H locs hW => ?_)
    refine x_ifeq (tgt := 36) C hf dX11_setHandles_22 (by decide) (fun hf => ?_) (fun hf => ?_)
    · exact j_X11_setHandles_36 C hW (lv_sub hl [0, 1, 2, 3] rfl) hf
    · refine lv_iload_n C.1 C.2.1 dX11_setHandles_25 rfl (lv_at hl 3 rfl) ?_
      refine lv_iconst (v := 0) C.1 C.2.1 dX11_setHandles_26 (by decide) ?_
      refine lv_sipush (v := 999) C.1 C.2.1 dX11_setHandles_27 (by decide) ?_
      obtain ⟨u10, hcu10, hf⟩ := bnd_t hf
      refine x_calli hW (x_runS C hW hl (c_X11_in hcu10) (cw_X11_166) ct_X11_in (rm_ok (by decide) (by decide)) ⟨Nat.le_refl _, Nat.le_refl _⟩ (As := [.int p3, .int (0 : Int32), .int (999 : Int32)]) rfl rfl (Nat.le_of_ble_eq_true rfl) dX11_setHandles_30) (fun H locs hW => ?_)
      refine x_ifne (tgt := 40) C hf dX11_setHandles_33 (by decide) (fun hf => ?_) (fun hf => ?_)
      · refine lv_iconst (v := 0) C.1 C.2.1 dX11_setHandles_40 (by decide) ?_
        exact j_X11_setHandles_41 C hW (lv_sub hl [0, 1, 2, 3] rfl) hf
      · exact j_X11_setHandles_36 C hW (lv_sub hl [0, 1, 2, 3] rfl) hf
set_option maxRecDepth 20000 in
set_option maxHeartbeats 1000000 in
theorem c_X11_phraseEnd {l : Launch} {Z : ZT} {h : Hp} {g : Hp} {p1 : Int32} {out : Int32} (hf : f_X11_phraseEnd g p1 = some out) : Met l yX11_phraseEnd (wY yX11_phraseEnd cX11_phraseEnd 2 (some .int)) (rmD 0) (va_Pc [.ref (Z.1 125), .int p1] (Wd Z h g)) (va_Qi (fun r (_ : Unit) => r = out) (fun _ => Wd Z h g) (FR Z)) 0 0 (FR Z) := by
  refine metX RX11 rfl (by decide +kernel) (Nat.le_of_ble_eq_true rfl) ?_
  intro p e s m args below meth c C hW ls hl
  have hl : lv_has ls 2 [(0, .ref (Z.1 125)), (1, .int p1)] := hl
  unfold f_X11_phraseEnd at hf
  refine lv_iload_n C.1 C.2.1 dX11_phraseEnd_0 rfl (lv_at hl 1 rfl) ?_
  refine lv_iconst (v := 1) C.1 C.2.1 dX11_phraseEnd_1 (by decide) ?_
  refine lv_iadd C.1 C.2.1 dX11_phraseEnd_2 ?_
  refine lv_aload_n C.1 C.2.1 dX11_phraseEnd_3 rfl (lv_at hl 0 rfl) ?_
  refine xg_X11_57 C hW (k_125) dX11_phraseEnd_4 ?_
  refine lv_iload_n C.1 C.2.1 dX11_phraseEnd_7 rfl (lv_at hl 1 rfl) ?_
  refine x_ialdM C hW a_139 hf dX11_phraseEnd_8 (fun hf => ?_)
  refine lv_iadd C.1 C.2.1 dX11_phraseEnd_9 ?_
  exact x_iret C hW dX11_phraseEnd_10 (Option.some.inj hf)
set_option maxRecDepth 20000 in
set_option maxHeartbeats 1000000 in
theorem j_X11_find_81 {l : Launch} {Z : ZT} {h : Hp} {p1 : Int32} {g : Hp} {r13 : Int32 → Option (Int32 × Hp)} {x2 : Int32} {x3 : Int32} {x4 : Int32} {p : Program} {e : Env} {s : State} {m : MethodId} {args : Array Value} {below : List Frame} {meth : Method} {c : Code} (C : CX p s m args meth c cX11_find RX11 6 (some .int) Z) {out : Int32 × Hp} (hr13 : ∀ (x3 : Int32) (ls : Array Slot) (H : Heap) (locs : List Loc), XW Z h g s.heap H locs → lv_has ls 6 [(0, .ref (Z.1 125)), (1, .int p1), (2, .int x2), (3, .int x3)] → r13 x3 = some out → W p l e (rmD 2) s m args below meth c H locs 0 0 (MQ below (va_Qi (fun r (_ : Unit) => r = out.1) (fun _ => Wd Z h out.2) (FR Z)) args s 0 0 (FR Z)) (F0 m 13 ls [])) {ls : Array Slot} {H : Heap} {locs : List Loc} (hW : XW Z h g s.heap H locs) (hl : lv_has ls 6 [(0, .ref (Z.1 125)), (1, .int p1), (2, .int x2), (3, .int x3), (4, .int x4)]) (hf : J_X11_find_81 p1 g r13 x2 x3 x4 = some out) : W p l e (rmD 2) s m args below meth c H locs 0 0 (MQ below (va_Qi (fun r (_ : Unit) => r = out.1) (fun _ => Wd Z h out.2) (FR Z)) args s 0 0 (FR Z)) (F0 m 81 ls []) := by
  refine lv_iload C.1 C.2.1 dX11_find_81 (lv_at hl 4 rfl) ?_
  refine x_ifeq (tgt := 88) C hf dX11_find_83 (by decide) (fun hf => ?_) (fun hf => ?_)
  · refine x_iinc (w := 1) C hf dX11_find_88 hl (k := 3) rfl (by decide) (by decide) (fun v1 => [(3, .int v1), (0, .ref (Z.1 125)), (1, .int p1), (2, .int x2), (4, .int x4)]) (fun _ => rfl) (fun v1 ls hf hl => ?_)
    refine lv_goto (tgt := 13) C.1 C.2.1 dX11_find_91 (by decide) ?_
    exact hr13 v1 ls _ _ hW (lv_sub hl [1, 2, 3, 0] rfl) hf
  · refine lv_iload_n C.1 C.2.1 dX11_find_86 rfl (lv_at hl 3 rfl) ?_
    obtain rfl := Option.some.inj hf
    exact x_iret C hW dX11_find_87 rfl
set_option maxRecDepth 20000 in
set_option maxHeartbeats 1000000 in
theorem j_X11_find_73 {l : Launch} {Z : ZT} {h : Hp} {p1 : Int32} {g : Hp} {r13 : Int32 → Option (Int32 × Hp)} {r29 : Int32 × Int32 → Option (Int32 × Hp)} {x2 : Int32} {x3 : Int32} {x5 : Int32} {s0 : Int32} {p : Program} {e : Env} {s : State} {m : MethodId} {args : Array Value} {below : List Frame} {meth : Method} {c : Code} (C : CX p s m args meth c cX11_find RX11 6 (some .int) Z) {out : Int32 × Hp} (hr13 : ∀ (x3 : Int32) (ls : Array Slot) (H : Heap) (locs : List Loc), XW Z h g s.heap H locs → lv_has ls 6 [(0, .ref (Z.1 125)), (1, .int p1), (2, .int x2), (3, .int x3)] → r13 x3 = some out → W p l e (rmD 2) s m args below meth c H locs 0 0 (MQ below (va_Qi (fun r (_ : Unit) => r = out.1) (fun _ => Wd Z h out.2) (FR Z)) args s 0 0 (FR Z)) (F0 m 13 ls [])) (hr29 : ∀ (x4 : Int32) (x5 : Int32) (ls : Array Slot) (H : Heap) (locs : List Loc), XW Z h g s.heap H locs → lv_has ls 6 [(0, .ref (Z.1 125)), (1, .int p1), (2, .int x2), (3, .int x3), (4, .int x4), (5, .int x5)] → r29 (x4, x5) = some out → W p l e (rmD 2) s m args below meth c H locs 0 0 (MQ below (va_Qi (fun r (_ : Unit) => r = out.1) (fun _ => Wd Z h out.2) (FR Z)) args s 0 0 (FR Z)) (F0 m 29 ls [])) {ls : Array Slot} {H : Heap} {locs : List Loc} (hW : XW Z h g s.heap H locs) (hl : lv_has ls 6 [(0, .ref (Z.1 125)), (1, .int p1), (2, .int x2), (3, .int x3), (5, .int x5)]) (hf : J_X11_find_73 p1 g r13 r29 x2 x3 x5 s0 = some out) : W p l e (rmD 2) s m args below meth c H locs 0 0 (MQ below (va_Qi (fun r (_ : Unit) => r = out.1) (fun _ => Wd Z h out.2) (FR Z)) args s 0 0 (FR Z)) (F0 m 73 ls [.int s0]) := by
  rw [J_X11_find_73] at hf
  refine lv_istore (lv' := [(4, .int s0), (0, .ref (Z.1 125)), (1, .int p1), (2, .int x2), (3, .int x3), (5, .int x5)]) C.1 C.2.1 dX11_find_73 hl (by decide) rfl (fun ls hl => ?_)
  refine x_iinc (w := 1) C hf dX11_find_75 hl (k := 5) rfl (by decide) (by decide) (fun v2 => [(5, .int v2), (4, .int s0), (0, .ref (Z.1 125)), (1, .int p1), (2, .int x2), (3, .int x3)]) (fun _ => rfl) (fun v2 ls hf hl => ?_)
  refine lv_goto (tgt := 29) C.1 C.2.1 dX11_find_78 (by decide) ?_
  exact hr29 s0 v2 ls _ _ hW (lv_sub hl [2, 3, 4, 5, 1, 0] rfl) hf
set_option maxRecDepth 20000 in
set_option maxHeartbeats 1000000 in
theorem j_X11_find_72 {l : Launch} {Z : ZT} {h : Hp} {p1 : Int32} {g : Hp} {r13 : Int32 → Option (Int32 × Hp)} {r29 : Int32 × Int32 → Option (Int32 × Hp)} {x2 : Int32} {x3 : Int32} {x5 : Int32} {p : Program} {e : Env} {s : State} {m : MethodId} {args : Array Value} {below : List Frame} {meth : Method} {c : Code} (C : CX p s m args meth c cX11_find RX11 6 (some .int) Z) {out : Int32 × Hp} (hr13 : ∀ (x3 : Int32) (ls : Array Slot) (H : Heap) (locs : List Loc), XW Z h g s.heap H locs → lv_has ls 6 [(0, .ref (Z.1 125)), (1, .int p1), (2, .int x2), (3, .int x3)] → r13 x3 = some out → W p l e (rmD 2) s m args below meth c H locs 0 0 (MQ below (va_Qi (fun r (_ : Unit) => r = out.1) (fun _ => Wd Z h out.2) (FR Z)) args s 0 0 (FR Z)) (F0 m 13 ls [])) (hr29 : ∀ (x4 : Int32) (x5 : Int32) (ls : Array Slot) (H : Heap) (locs : List Loc), XW Z h g s.heap H locs → lv_has ls 6 [(0, .ref (Z.1 125)), (1, .int p1), (2, .int x2), (3, .int x3), (4, .int x4), (5, .int x5)] → r29 (x4, x5) = some out → W p l e (rmD 2) s m args below meth c H locs 0 0 (MQ below (va_Qi (fun r (_ : Unit) => r = out.1) (fun _ => Wd Z h out.2) (FR Z)) args s 0 0 (FR Z)) (F0 m 29 ls [])) {ls : Array Slot} {H : Heap} {locs : List Loc} (hW : XW Z h g s.heap H locs) (hl : lv_has ls 6 [(0, .ref (Z.1 125)), (1, .int p1), (2, .int x2), (3, .int x3), (5, .int x5)]) (hf : J_X11_find_72 p1 g r13 r29 x2 x3 x5 = some out) : W p l e (rmD 2) s m args below meth c H locs 0 0 (MQ below (va_Qi (fun r (_ : Unit) => r = out.1) (fun _ => Wd Z h out.2) (FR Z)) args s 0 0 (FR Z)) (F0 m 72 ls []) := by
  refine lv_iconst (v := 0) C.1 C.2.1 dX11_find_72 (by decide) ?_
  exact j_X11_find_73 C hr13 hr29 hW (lv_sub hl [0, 1, 2, 3, 4] rfl) hf
set_option maxRecDepth 20000 in
set_option maxHeartbeats 1000000 in
theorem l_X11_find_29 {l : Launch} {Z : ZT} {h : Hp} {p1 : Int32} {g : Hp} {r13 : Int32 → Option (Int32 × Hp)} {x2 : Int32} {x3 : Int32} {p : Program} {e : Env} {s : State} {m : MethodId} {args : Array Value} {below : List Frame} {meth : Method} {c : Code} (C : CX p s m args meth c cX11_find RX11 6 (some .int) Z) {out : Int32 × Hp} (hr13 : ∀ (x3 : Int32) (ls : Array Slot) (H : Heap) (locs : List Loc), XW Z h g s.heap H locs → lv_has ls 6 [(0, .ref (Z.1 125)), (1, .int p1), (2, .int x2), (3, .int x3)] → r13 x3 = some out → W p l e (rmD 2) s m args below meth c H locs 0 0 (MQ below (va_Qi (fun r (_ : Unit) => r = out.1) (fun _ => Wd Z h out.2) (FR Z)) args s 0 0 (FR Z)) (F0 m 13 ls [])) : ∀ (n : Nat) (x4 : Int32) (x5 : Int32) (ls : Array Slot) (H : Heap) (locs : List Loc), XW Z h g s.heap H locs → lv_has ls 6 [(0, .ref (Z.1 125)), (1, .int p1), (2, .int x2), (3, .int x3), (4, .int x4), (5, .int x5)] → Lp (F_X11_find_29 p1 g r13 x2 x3) n (x4, x5) = some out → W p l e (rmD 2) s m args below meth c H locs 0 0 (MQ below (va_Qi (fun r (_ : Unit) => r = out.1) (fun _ => Wd Z h out.2) (FR Z)) args s 0 0 (FR Z)) (F0 m 29 ls []) := by
  intro n
  induction n with
  | zero => intro x4 x5 ls H locs hW hl hf; cases hf
  | succ n ih =>
    intro x4 x5 ls H locs hW hl hf
    rw [Lp_s] at hf
    refine lv_iload C.1 C.2.1 dX11_find_29 (lv_at hl 5 rfl) ?_
    refine lv_iload_n C.1 C.2.1 dX11_find_31 rfl (lv_at hl 2 rfl) ?_
    refine x_cmpge (tgt := 81) C hf dX11_find_32 (by decide) (fun hf => ?_) (fun hf => ?_)
    · exact j_X11_find_81 C hr13 hW (lv_sub hl [0, 1, 2, 3, 4] rfl) hf
    · refine lv_iload C.1 C.2.1 dX11_find_35 (lv_at hl 4 rfl) ?_
      refine x_ifeq (tgt := 72) C hf dX11_find_37 (by decide) (fun hf => ?_) (fun hf => ?_)
      · exact j_X11_find_72 C hr13 (fun z0 z1 => ih z0 z1) hW (lv_sub hl [0, 1, 2, 3, 5] rfl) hf
      · refine lv_aload_n C.1 C.2.1 dX11_find_40 rfl (lv_at hl 0 rfl) ?_
        refine lv_aload_n C.1 C.2.1 dX11_find_41 rfl (lv_at hl 0 rfl) ?_
        refine xg_X11_63 C hW (k_125) dX11_find_42 ?_
        refine lv_iload_n C.1 C.2.1 dX11_find_45 rfl (lv_at hl 3 rfl) ?_
        refine lv_iload C.1 C.2.1 dX11_find_46 (lv_at hl 5 rfl) ?_
        refine lv_iadd C.1 C.2.1 dX11_find_48 ?_
        refine x_ialdM C hW a_141 hf dX11_find_49 (fun hf => ?_)
        refine lv_iconst (v := 1) C.1 C.2.1 dX11_find_50 (by decide) ?_
        obtain ⟨u3, hcu3, hf⟩ := bnd_t hf
        refine x_calli hW (x_runV C hW hl (wk9 (k_125)) rfl rfl (c_X11_of hcu3) (cw_X11_94) ci_X11_of cs_X11_of (rm_ok (by decide) (by decide)) ⟨Nat.le_refl _, Nat.le_refl _⟩ (As := [.int (g 141 (ix (x3 + x5))), .int (1 : Int32)]) rfl rfl (Nat.le_of_ble_eq_true rfl) dX11_find_51) (fun H locs hW => ?_)
        refine lv_aload_n C.1 C.2.1 dX11_find_54 rfl (lv_at hl 0 rfl) ?_
        refine xg_X11_57 C hW (k_125) dX11_find_55 ?_
        refine lv_iload_n C.1 C.2.1 dX11_find_58 rfl (lv_at hl 1 rfl) ?_
        refine lv_iconst (v := 1) C.1 C.2.1 dX11_find_59 (by decide) ?_
        refine lv_iadd C.1 C.2.1 dX11_find_60 ?_
        refine lv_iload C.1 C.2.1 dX11_find_61 (lv_at hl 5 rfl) ?_
        refine lv_iadd C.1 C.2.1 dX11_find_63 ?_
        refine x_ialdM C hW a_139 hf dX11_find_64 (fun hf => ?_)
        refine x_cmpne (tgt := 72) C hf dX11_find_65 (by decide) (fun hf => ?_) (fun hf => ?_)
        · exact j_X11_find_72 C hr13 (fun z0 z1 => ih z0 z1) hW (lv_sub hl [0, 1, 2, 3, 5] rfl) hf
        · refine lv_iconst (v := 1) C.1 C.2.1 dX11_find_68 (by decide) ?_
          refine lv_goto (tgt := 73) C.1 C.2.1 dX11_find_69 (by decide) ?_
          exact j_X11_find_73 C hr13 (fun z0 z1 => ih z0 z1) hW (lv_sub hl [0, 1, 2, 3, 5] rfl) hf
set_option maxRecDepth 20000 in
set_option maxHeartbeats 1000000 in
theorem l_X11_find_13 {l : Launch} {Z : ZT} {h : Hp} {p1 : Int32} {g : Hp} {x2 : Int32} {p : Program} {e : Env} {s : State} {m : MethodId} {args : Array Value} {below : List Frame} {meth : Method} {c : Code} (C : CX p s m args meth c cX11_find RX11 6 (some .int) Z) {out : Int32 × Hp} : ∀ (n : Nat) (x3 : Int32) (ls : Array Slot) (H : Heap) (locs : List Loc), XW Z h g s.heap H locs → lv_has ls 6 [(0, .ref (Z.1 125)), (1, .int p1), (2, .int x2), (3, .int x3)] → Lp (F_X11_find_13 p1 g x2) n x3 = some out → W p l e (rmD 2) s m args below meth c H locs 0 0 (MQ below (va_Qi (fun r (_ : Unit) => r = out.1) (fun _ => Wd Z h out.2) (FR Z)) args s 0 0 (FR Z)) (F0 m 13 ls []) := by
  intro n
  induction n with
  | zero => intro x3 ls H locs hW hl hf; cases hf
  | succ n ih =>
    intro x3 ls H locs hW hl hf
    rw [Lp_s] at hf
    refine lv_iload_n C.1 C.2.1 dX11_find_13 rfl (lv_at hl 3 rfl) ?_
    refine lv_iload_n C.1 C.2.1 dX11_find_14 rfl (lv_at hl 2 rfl) ?_
    refine lv_iadd C.1 C.2.1 dX11_find_15 ?_
    refine lv_aload_n C.1 C.2.1 dX11_find_16 rfl (lv_at hl 0 rfl) ?_
    refine xg_X11_356 C hW (k_125) dX11_find_17 ?_
    refine x_cmpgt (tgt := 94) C hf dX11_find_20 (by decide) (fun hf => ?_) (fun hf => ?_)
    · refine lv_iconst (v := -1) C.1 C.2.1 dX11_find_94 (by decide) ?_
      obtain rfl := Option.some.inj hf
      exact x_iret C hW dX11_find_95 rfl
    · refine lv_iconst (v := 1) C.1 C.2.1 dX11_find_23 (by decide) ?_
      refine lv_istore (lv' := [(4, .int (1 : Int32)), (0, .ref (Z.1 125)), (1, .int p1), (2, .int x2), (3, .int x3)]) C.1 C.2.1 dX11_find_24 hl (by decide) rfl (fun ls hl => ?_)
      refine lv_iconst (v := 0) C.1 C.2.1 dX11_find_26 (by decide) ?_
      refine lv_istore (lv' := [(5, .int (0 : Int32)), (4, .int (1 : Int32)), (0, .ref (Z.1 125)), (1, .int p1), (2, .int x2), (3, .int x3)]) C.1 C.2.1 dX11_find_27 hl (by decide) rfl (fun ls hl => ?_)
      exact l_X11_find_29 C (fun z0 => ih z0) FU (1 : Int32) (0 : Int32) ls _ _ hW (lv_sub hl [2, 3, 4, 5, 1, 0] rfl) hf
set_option maxRecDepth 20000 in
set_option maxHeartbeats 1000000 in
theorem c_X11_find {l : Launch} {Z : ZT} {h : Hp} {g : Hp} {p1 : Int32} {out : Int32 × Hp} (hf : f_X11_find g p1 = some out) : Met l yX11_find (wY yX11_find cX11_find 6 (some .int)) (rmD 2) (va_Pc [.ref (Z.1 125), .int p1] (Wd Z h g)) (va_Qi (fun r (_ : Unit) => r = out.1) (fun _ => Wd Z h out.2) (FR Z)) 0 0 (FR Z) := by
  refine metX RX11 rfl (by decide +kernel) (Nat.le_of_ble_eq_true rfl) ?_
  intro p e s m args below meth c C hW ls hl
  have hl : lv_has ls 6 [(0, .ref (Z.1 125)), (1, .int p1)] := hl
  unfold f_X11_find at hf
  refine lv_aload_n C.1 C.2.1 dX11_find_0 rfl (lv_at hl 0 rfl) ?_
  obtain ⟨u4, hcu4, hf⟩ := bnd_t hf
  refine x_callv hW (x_runV C hW hl (wk9 (k_125)) rfl rfl (c_X11_laysRow hcu4) (cw_X11_359) ci_X11_laysRow cs_X11_laysRow (rm_ok (by decide) (by decide)) ⟨Nat.le_refl _, Nat.le_refl _⟩ (As := []) rfl rfl (Nat.le_of_ble_eq_true rfl) dX11_find_1) (fun H locs hW => ?_)
  refine lv_aload_n C.1 C.2.1 dX11_find_4 rfl (lv_at hl 0 rfl) ?_
  refine xg_X11_57 C hW (k_125) dX11_find_5 ?_
  refine lv_iload_n C.1 C.2.1 dX11_find_8 rfl (lv_at hl 1 rfl) ?_
  refine x_ialdM C hW a_139 hf dX11_find_9 (fun hf => ?_)
  refine x_istn C hf dX11_find_10 rfl hl (by decide) (fun v5 => [(2, .int v5), (0, .ref (Z.1 125)), (1, .int p1)]) (fun _ => rfl) (fun v5 ls hf hl => ?_)
  refine lv_iconst (v := 0) C.1 C.2.1 dX11_find_11 (by decide) ?_
  refine lv_istore_n (lv' := [(3, .int (0 : Int32)), (2, .int v5), (0, .ref (Z.1 125)), (1, .int p1)]) C.1 C.2.1 dX11_find_12 rfl hl (by decide) rfl (fun ls hl => ?_)
  exact l_X11_find_13 C FU (0 : Int32) ls _ _ hW (lv_sub hl [2, 3, 1, 0] rfl) hf
set_option maxRecDepth 20000 in
set_option maxHeartbeats 1000000 in
theorem j_X11_cutsPhrase_26 {l : Launch} {Z : ZT} {h : Hp} {p1 : Int32} {g : Hp} {x2 : Int32} {p : Program} {e : Env} {s : State} {m : MethodId} {args : Array Value} {below : List Frame} {meth : Method} {c : Code} (C : CX p s m args meth c cX11_cutsPhrase RX11 3 (some .boolean) Z) {out : Int32 × Hp} {ls : Array Slot} {H : Heap} {locs : List Loc} (hW : XW Z h g s.heap H locs) (hl : lv_has ls 3 [(0, .ref (Z.1 125)), (1, .int p1), (2, .int x2)]) (hf : J_X11_cutsPhrase_26 p1 g x2 = some out) : W p l e (rmD 4) s m args below meth c H locs 0 0 (MQ below (va_Qi (fun r (_ : Unit) => r = out.1) (fun _ => Wd Z h out.2) (FR Z)) args s 0 0 (FR Z)) (F0 m 26 ls []) := by
  refine lv_iload_n C.1 C.2.1 dX11_cutsPhrase_26 rfl (lv_at hl 2 rfl) ?_
  refine lv_iconst (v := -1) C.1 C.2.1 dX11_cutsPhrase_27 (by decide) ?_
  refine x_cmpeq (tgt := 35) C hf dX11_cutsPhrase_28 (by decide) (fun hf => ?_) (fun hf => ?_)
  · refine lv_iconst (v := 0) C.1 C.2.1 dX11_cutsPhrase_35 (by decide) ?_
    obtain rfl := Option.some.inj hf
    exact x_zret C hW (by decide) dX11_cutsPhrase_36 rfl
  · refine lv_iconst (v := 1) C.1 C.2.1 dX11_cutsPhrase_31 (by decide) ?_
    refine lv_goto (tgt := 36) C.1 C.2.1 dX11_cutsPhrase_32 (by decide) ?_
    obtain rfl := Option.some.inj hf
    exact x_zret C hW (by decide) dX11_cutsPhrase_36 rfl
set_option maxRecDepth 20000 in
set_option maxHeartbeats 1000000 in
theorem c_X11_cutsPhrase {l : Launch} {Z : ZT} {h : Hp} {g : Hp} {p1 : Int32} {out : Int32 × Hp} (hf : f_X11_cutsPhrase g p1 = some out) : Met l yX11_cutsPhrase (wY yX11_cutsPhrase cX11_cutsPhrase 3 (some .boolean)) (rmD 4) (va_Pc [.ref (Z.1 125), .int p1] (Wd Z h g)) (va_Qi (fun r (_ : Unit) => r = out.1) (fun _ => Wd Z h out.2) (FR Z)) 0 0 (FR Z) := by
  refine metX RX11 rfl (by decide +kernel) (Nat.le_of_ble_eq_true rfl) ?_
  intro p e s m args below meth c C hW ls hl
  have hl : lv_has ls 3 [(0, .ref (Z.1 125)), (1, .int p1)] := hl
  unfold f_X11_cutsPhrase at hf
  refine lv_aload_n C.1 C.2.1 dX11_cutsPhrase_0 rfl (lv_at hl 0 rfl) ?_
  refine lv_iload_n C.1 C.2.1 dX11_cutsPhrase_1 rfl (lv_at hl 1 rfl) ?_
  obtain ⟨u1, hcu1, hf⟩ := bnd_t hf
  refine x_calli hW (x_runV C hW hl (wk9 (k_125)) rfl rfl (c_X11_find hcu1) (cw_X11_397) ci_X11_find cs_X11_find (rm_ok (by decide) (by decide)) ⟨Nat.le_refl _, Nat.le_refl _⟩ (As := [.int p1]) rfl rfl (Nat.le_of_ble_eq_true rfl) dX11_cutsPhrase_2) (fun H locs hW => ?_)
  refine lv_istore_n (lv' := [(2, .int u1.1), (0, .ref (Z.1 125)), (1, .int p1)]) C.1 C.2.1 dX11_cutsPhrase_5 rfl hl (by decide) rfl (fun ls hl => ?_)
  refine lv_iload_n C.1 C.2.1 dX11_cutsPhrase_6 rfl (lv_at hl 0 rfl) ?_
  refine lv_iconst (v := -1) C.1 C.2.1 dX11_cutsPhrase_7 (by decide) ?_
  refine x_cmpeq (tgt := 26) C hf dX11_cutsPhrase_8 (by decide) (fun hf => ?_) (fun hf => ?_)
  · exact j_X11_cutsPhrase_26 C hW (lv_sub hl [1, 2, 0] rfl) hf
  · refine lv_aload_n C.1 C.2.1 dX11_cutsPhrase_11 rfl (lv_at hl 1 rfl) ?_
    refine lv_iload_n C.1 C.2.1 dX11_cutsPhrase_12 rfl (lv_at hl 0 rfl) ?_
    refine lv_iload_n C.1 C.2.1 dX11_cutsPhrase_13 rfl (lv_at hl 0 rfl) ?_
    refine lv_aload_n C.1 C.2.1 dX11_cutsPhrase_14 rfl (lv_at hl 1 rfl) ?_
    refine xg_X11_57 C hW (k_125) dX11_cutsPhrase_15 ?_
    refine lv_iload_n C.1 C.2.1 dX11_cutsPhrase_18 rfl (lv_at hl 2 rfl) ?_
    refine x_ialdM C hW a_139 hf dX11_cutsPhrase_19 (fun hf => ?_)
    refine lv_iadd C.1 C.2.1 dX11_cutsPhrase_20 ?_
    refine lv_iconst (v := 1) C.1 C.2.1 dX11_cutsPhrase_21 (by decide) ?_
    refine lv_isub C.1 C.2.1 dX11_cutsPhrase_22 ?_
    obtain ⟨u2, hcu2, hf⟩ := bnd_t hf
    refine x_callv hW (x_runV C hW hl (wk9 (k_125)) rfl rfl (c_X11_cutsPlaces hcu2) (cw_X11_381) ci_X11_cutsPlaces cs_X11_cutsPlaces (rm_ok (by decide) (by decide)) ⟨Nat.le_refl _, Nat.le_refl _⟩ (As := [.int u1.1, .int ((u1.1 + u1.2 139 (ix p1)) - (1 : Int32))]) rfl rfl (Nat.le_of_ble_eq_true rfl) dX11_cutsPhrase_23) (fun H locs hW => ?_)
    exact j_X11_cutsPhrase_26 C hW (lv_sub hl [1, 2, 0] rfl) hf
set_option maxRecDepth 20000 in
set_option maxHeartbeats 1000000 in
theorem l_X11_cleans_2 {l : Launch} {Z : ZT} {h : Hp} {p1 : Int32} {p : Program} {e : Env} {s : State} {m : MethodId} {args : Array Value} {below : List Frame} {meth : Method} {c : Code} (C : CX p s m args meth c cX11_cleans RX11 3 (some .boolean) Z) {out : Int32 × Hp} : ∀ (n : Nat) (x2 : Int32) (g : Hp) (ls : Array Slot) (H : Heap) (locs : List Loc), XW Z h g s.heap H locs → lv_has ls 3 [(0, .ref (Z.1 125)), (1, .int p1), (2, .int x2)] → Lp (F_X11_cleans_2 p1) n (x2, g) = some out → W p l e (rmD 5) s m args below meth c H locs 0 0 (MQ below (va_Qi (fun r (_ : Unit) => r = out.1) (fun _ => Wd Z h out.2) (FR Z)) args s 0 0 (FR Z)) (F0 m 2 ls []) := by
  intro n
  induction n with
  | zero => intro x2 g ls H locs hW hl hf; cases hf
  | succ n ih =>
    intro x2 g ls H locs hW hl hf
    rw [Lp_s] at hf
    rw [F_X11_cleans_2] at hf
    try dsimp only at hf
    refine lv_aload_n C.1 C.2.1 dX11_cleans_2 rfl (lv_at hl 0 rfl) ?_
    refine lv_iload_n C.1 C.2.1 dX11_cleans_3 rfl (lv_at hl 1 rfl) ?_
    obtain ⟨u1, hcu1, hf⟩ := bnd_t hf
    refine x_calli hW (x_runV C hW hl (wk9 (k_125)) rfl rfl (c_X11_cutsPhrase hcu1) (cw_X11_400) ci_X11_cutsPhrase cs_X11_cutsPhrase (rm_ok (by decide) (by decide)) ⟨Nat.le_refl _, Nat.le_refl _⟩ (As := [.int p1]) rfl rfl (Nat.le_of_ble_eq_true rfl) dX11_cleans_4) (fun H locs hW => ?_)
    refine x_ifeq (tgt := 15) C hf dX11_cleans_7 (by decide) (fun hf => ?_) (fun hf => ?_)
    · refine lv_iload_n C.1 C.2.1 dX11_cleans_15 rfl (lv_at hl 2 rfl) ?_
      obtain ⟨hz, hf⟩ := ck_t hf
      obtain rfl := Option.some.inj hf
      exact x_zret C hW hz dX11_cleans_16 rfl
    · refine lv_iconst (v := 1) C.1 C.2.1 dX11_cleans_10 (by decide) ?_
      refine lv_istore_n (lv' := [(2, .int (1 : Int32)), (0, .ref (Z.1 125)), (1, .int p1)]) C.1 C.2.1 dX11_cleans_11 rfl hl (by decide) rfl (fun ls hl => ?_)
      refine lv_goto (tgt := 2) C.1 C.2.1 dX11_cleans_12 (by decide) ?_
      exact ih (1 : Int32) u1.2 ls _ _ hW (lv_sub hl [1, 2, 0] rfl) hf
set_option maxRecDepth 20000 in
set_option maxHeartbeats 1000000 in
theorem c_X11_cleans {l : Launch} {Z : ZT} {h : Hp} {g : Hp} {p1 : Int32} {out : Int32 × Hp} (hf : f_X11_cleans g p1 = some out) : Met l yX11_cleans (wY yX11_cleans cX11_cleans 3 (some .boolean)) (rmD 5) (va_Pc [.ref (Z.1 125), .int p1] (Wd Z h g)) (va_Qi (fun r (_ : Unit) => r = out.1) (fun _ => Wd Z h out.2) (FR Z)) 0 0 (FR Z) := by
  refine metX RX11 rfl (by decide +kernel) (Nat.le_of_ble_eq_true rfl) ?_
  intro p e s m args below meth c C hW ls hl
  have hl : lv_has ls 3 [(0, .ref (Z.1 125)), (1, .int p1)] := hl
  unfold f_X11_cleans at hf
  refine lv_iconst (v := 0) C.1 C.2.1 dX11_cleans_0 (by decide) ?_
  refine lv_istore_n (lv' := [(2, .int (0 : Int32)), (0, .ref (Z.1 125)), (1, .int p1)]) C.1 C.2.1 dX11_cleans_1 rfl hl (by decide) rfl (fun ls hl => ?_)
  exact l_X11_cleans_2 C FU (0 : Int32) g ls _ _ hW (lv_sub hl [1, 2, 0] rfl) hf
set_option maxRecDepth 20000 in
set_option maxHeartbeats 1000000 in
theorem j_X11_restoresPhrase_127 {l : Launch} {Z : ZT} {h : Hp} {p1 : Int32} {g : Hp} {r9 : Int32 → Option (Int32 × Hp)} {x2 : Int32} {x3 : Int32} {p : Program} {e : Env} {s : State} {m : MethodId} {args : Array Value} {below : List Frame} {meth : Method} {c : Code} (C : CX p s m args meth c cX11_restoresPhrase RX11 7 (some .boolean) Z) {out : Int32 × Hp} (hr9 : ∀ (x3 : Int32) (ls : Array Slot) (H : Heap) (locs : List Loc), XW Z h g s.heap H locs → lv_has ls 7 [(0, .ref (Z.1 125)), (1, .int p1), (2, .int x2), (3, .int x3)] → r9 x3 = some out → W p l e (rmD 3) s m args below meth c H locs 0 0 (MQ below (va_Qi (fun r (_ : Unit) => r = out.1) (fun _ => Wd Z h out.2) (FR Z)) args s 0 0 (FR Z)) (F0 m 9 ls [])) {ls : Array Slot} {H : Heap} {locs : List Loc} (hW : XW Z h g s.heap H locs) (hl : lv_has ls 7 [(0, .ref (Z.1 125)), (1, .int p1), (2, .int x2), (3, .int x3)]) (hf : J_X11_restoresPhrase_127 p1 g r9 x2 x3 = some out) : W p l e (rmD 3) s m args below meth c H locs 0 0 (MQ below (va_Qi (fun r (_ : Unit) => r = out.1) (fun _ => Wd Z h out.2) (FR Z)) args s 0 0 (FR Z)) (F0 m 127 ls []) := by
  rw [J_X11_restoresPhrase_127] at hf
  refine x_iinc (w := 1) C hf dX11_restoresPhrase_127 hl (k := 3) rfl (by decide) (by decide) (fun v1 => [(3, .int v1), (0, .ref (Z.1 125)), (1, .int p1), (2, .int x2)]) (fun _ => rfl) (fun v1 ls hf hl => ?_)
  refine lv_goto (tgt := 9) C.1 C.2.1 dX11_restoresPhrase_130 (by decide) ?_
  exact hr9 v1 ls _ _ hW (lv_sub hl [1, 2, 3, 0] rfl) hf
set_option maxRecDepth 20000 in
set_option maxHeartbeats 1000000 in
theorem j_X11_restoresPhrase_108 {l : Launch} {Z : ZT} {h : Hp} {p1 : Int32} {g : Hp} {x2 : Int32} {x3 : Int32} {p : Program} {e : Env} {s : State} {m : MethodId} {args : Array Value} {below : List Frame} {meth : Method} {c : Code} (C : CX p s m args meth c cX11_restoresPhrase RX11 7 (some .boolean) Z) {out : Int32 × Hp} {ls : Array Slot} {H : Heap} {locs : List Loc} (hW : XW Z h g s.heap H locs) (hl : lv_has ls 7 [(0, .ref (Z.1 125)), (1, .int p1), (2, .int x2), (3, .int x3)]) (hf : J_X11_restoresPhrase_108 p1 g x2 x3 = some out) : W p l e (rmD 3) s m args below meth c H locs 0 0 (MQ below (va_Qi (fun r (_ : Unit) => r = out.1) (fun _ => Wd Z h out.2) (FR Z)) args s 0 0 (FR Z)) (F0 m 108 ls []) := by
  rw [J_X11_restoresPhrase_108] at hf
  refine lv_aload_n C.1 C.2.1 dX11_restoresPhrase_108 rfl (lv_at hl 0 rfl) ?_
  refine lv_iload_n C.1 C.2.1 dX11_restoresPhrase_109 rfl (lv_at hl 3 rfl) ?_
  refine lv_iload_n C.1 C.2.1 dX11_restoresPhrase_110 rfl (lv_at hl 3 rfl) ?_
  refine lv_iload_n C.1 C.2.1 dX11_restoresPhrase_111 rfl (lv_at hl 2 rfl) ?_
  refine lv_iadd C.1 C.2.1 dX11_restoresPhrase_112 ?_
  refine lv_iconst (v := 1) C.1 C.2.1 dX11_restoresPhrase_113 (by decide) ?_
  refine lv_isub C.1 C.2.1 dX11_restoresPhrase_114 ?_
  obtain ⟨u2, hcu2, hf⟩ := bnd_t hf
  refine x_calli hW (x_runV C hW hl (wk9 (k_125)) rfl rfl (c_X11_restoresAll hcu2) (cw_X11_387) ci_X11_restoresAll cs_X11_restoresAll (rm_ok (by decide) (by decide)) ⟨Nat.le_refl _, Nat.le_refl _⟩ (As := [.int x3, .int ((x3 + x2) - (1 : Int32))]) rfl rfl (Nat.le_of_ble_eq_true rfl) dX11_restoresPhrase_115) (fun H locs hW => ?_)
  refine x_ifle (tgt := 125) C hf dX11_restoresPhrase_118 (by decide) (fun hf => ?_) (fun hf => ?_)
  · refine lv_iconst (v := 0) C.1 C.2.1 dX11_restoresPhrase_125 (by decide) ?_
    obtain rfl := Option.some.inj hf
    exact x_zret C hW (by decide) dX11_restoresPhrase_126 rfl
  · refine lv_iconst (v := 1) C.1 C.2.1 dX11_restoresPhrase_121 (by decide) ?_
    refine lv_goto (tgt := 126) C.1 C.2.1 dX11_restoresPhrase_122 (by decide) ?_
    obtain rfl := Option.some.inj hf
    exact x_zret C hW (by decide) dX11_restoresPhrase_126 rfl
set_option maxRecDepth 20000 in
set_option maxHeartbeats 1000000 in
theorem j_X11_restoresPhrase_98 {l : Launch} {Z : ZT} {h : Hp} {p1 : Int32} {g : Hp} {r9 : Int32 → Option (Int32 × Hp)} {x2 : Int32} {x3 : Int32} {x4 : Int32} {x5 : Int32} {p : Program} {e : Env} {s : State} {m : MethodId} {args : Array Value} {below : List Frame} {meth : Method} {c : Code} (C : CX p s m args meth c cX11_restoresPhrase RX11 7 (some .boolean) Z) {out : Int32 × Hp} (hr9 : ∀ (x3 : Int32) (ls : Array Slot) (H : Heap) (locs : List Loc), XW Z h g s.heap H locs → lv_has ls 7 [(0, .ref (Z.1 125)), (1, .int p1), (2, .int x2), (3, .int x3)] → r9 x3 = some out → W p l e (rmD 3) s m args below meth c H locs 0 0 (MQ below (va_Qi (fun r (_ : Unit) => r = out.1) (fun _ => Wd Z h out.2) (FR Z)) args s 0 0 (FR Z)) (F0 m 9 ls [])) {ls : Array Slot} {H : Heap} {locs : List Loc} (hW : XW Z h g s.heap H locs) (hl : lv_has ls 7 [(0, .ref (Z.1 125)), (1, .int p1), (2, .int x2), (3, .int x3), (4, .int x4), (5, .int x5)]) (hf : J_X11_restoresPhrase_98 p1 g r9 x2 x3 x4 x5 = some out) : W p l e (rmD 3) s m args below meth c H locs 0 0 (MQ below (va_Qi (fun r (_ : Unit) => r = out.1) (fun _ => Wd Z h out.2) (FR Z)) args s 0 0 (FR Z)) (F0 m 98 ls []) := by
  refine lv_iload C.1 C.2.1 dX11_restoresPhrase_98 (lv_at hl 4 rfl) ?_
  refine x_ifeq (tgt := 127) C hf dX11_restoresPhrase_100 (by decide) (fun hf => ?_) (fun hf => ?_)
  · exact j_X11_restoresPhrase_127 C hr9 hW (lv_sub hl [0, 1, 2, 3] rfl) hf
  · refine lv_iload C.1 C.2.1 dX11_restoresPhrase_103 (lv_at hl 5 rfl) ?_
    refine x_ifeq (tgt := 127) C hf dX11_restoresPhrase_105 (by decide) (fun hf => ?_) (fun hf => ?_)
    · exact j_X11_restoresPhrase_127 C hr9 hW (lv_sub hl [0, 1, 2, 3] rfl) hf
    · exact j_X11_restoresPhrase_108 C hW (lv_sub hl [0, 1, 2, 3] rfl) hf
set_option maxRecDepth 20000 in
set_option maxHeartbeats 1000000 in
theorem j_X11_restoresPhrase_90 {l : Launch} {Z : ZT} {h : Hp} {p1 : Int32} {g : Hp} {r9 : Int32 → Option (Int32 × Hp)} {r28 : Int32 × Int32 × Int32 → Option (Int32 × Hp)} {x2 : Int32} {x3 : Int32} {x4 : Int32} {x6 : Int32} {s0 : Int32} {p : Program} {e : Env} {s : State} {m : MethodId} {args : Array Value} {below : List Frame} {meth : Method} {c : Code} (C : CX p s m args meth c cX11_restoresPhrase RX11 7 (some .boolean) Z) {out : Int32 × Hp} (hr9 : ∀ (x3 : Int32) (ls : Array Slot) (H : Heap) (locs : List Loc), XW Z h g s.heap H locs → lv_has ls 7 [(0, .ref (Z.1 125)), (1, .int p1), (2, .int x2), (3, .int x3)] → r9 x3 = some out → W p l e (rmD 3) s m args below meth c H locs 0 0 (MQ below (va_Qi (fun r (_ : Unit) => r = out.1) (fun _ => Wd Z h out.2) (FR Z)) args s 0 0 (FR Z)) (F0 m 9 ls [])) (hr28 : ∀ (x4 : Int32) (x5 : Int32) (x6 : Int32) (ls : Array Slot) (H : Heap) (locs : List Loc), XW Z h g s.heap H locs → lv_has ls 7 [(0, .ref (Z.1 125)), (1, .int p1), (2, .int x2), (3, .int x3), (4, .int x4), (5, .int x5), (6, .int x6)] → r28 (x4, x5, x6) = some out → W p l e (rmD 3) s m args below meth c H locs 0 0 (MQ below (va_Qi (fun r (_ : Unit) => r = out.1) (fun _ => Wd Z h out.2) (FR Z)) args s 0 0 (FR Z)) (F0 m 28 ls [])) {ls : Array Slot} {H : Heap} {locs : List Loc} (hW : XW Z h g s.heap H locs) (hl : lv_has ls 7 [(0, .ref (Z.1 125)), (1, .int p1), (2, .int x2), (3, .int x3), (4, .int x4), (6, .int x6)]) (hf : J_X11_restoresPhrase_90 p1 g r9 r28 x2 x3 x4 x6 s0 = some out) : W p l e (rmD 3) s m args below meth c H locs 0 0 (MQ below (va_Qi (fun r (_ : Unit) => r = out.1) (fun _ => Wd Z h out.2) (FR Z)) args s 0 0 (FR Z)) (F0 m 90 ls [.int s0]) := by
  rw [J_X11_restoresPhrase_90] at hf
  refine lv_istore (lv' := [(5, .int s0), (0, .ref (Z.1 125)), (1, .int p1), (2, .int x2), (3, .int x3), (4, .int x4), (6, .int x6)]) C.1 C.2.1 dX11_restoresPhrase_90 hl (by decide) rfl (fun ls hl => ?_)
  refine x_iinc (w := 1) C hf dX11_restoresPhrase_92 hl (k := 6) rfl (by decide) (by decide) (fun v3 => [(6, .int v3), (5, .int s0), (0, .ref (Z.1 125)), (1, .int p1), (2, .int x2), (3, .int x3), (4, .int x4)]) (fun _ => rfl) (fun v3 ls hf hl => ?_)
  refine lv_goto (tgt := 28) C.1 C.2.1 dX11_restoresPhrase_95 (by decide) ?_
  exact hr28 x4 s0 v3 ls _ _ hW (lv_sub hl [2, 3, 4, 5, 6, 1, 0] rfl) hf
set_option maxRecDepth 20000 in
set_option maxHeartbeats 1000000 in
theorem j_X11_restoresPhrase_85 {l : Launch} {Z : ZT} {h : Hp} {p1 : Int32} {g : Hp} {r9 : Int32 → Option (Int32 × Hp)} {r28 : Int32 × Int32 × Int32 → Option (Int32 × Hp)} {x2 : Int32} {x3 : Int32} {x4 : Int32} {x6 : Int32} {p : Program} {e : Env} {s : State} {m : MethodId} {args : Array Value} {below : List Frame} {meth : Method} {c : Code} (C : CX p s m args meth c cX11_restoresPhrase RX11 7 (some .boolean) Z) {out : Int32 × Hp} (hr9 : ∀ (x3 : Int32) (ls : Array Slot) (H : Heap) (locs : List Loc), XW Z h g s.heap H locs → lv_has ls 7 [(0, .ref (Z.1 125)), (1, .int p1), (2, .int x2), (3, .int x3)] → r9 x3 = some out → W p l e (rmD 3) s m args below meth c H locs 0 0 (MQ below (va_Qi (fun r (_ : Unit) => r = out.1) (fun _ => Wd Z h out.2) (FR Z)) args s 0 0 (FR Z)) (F0 m 9 ls [])) (hr28 : ∀ (x4 : Int32) (x5 : Int32) (x6 : Int32) (ls : Array Slot) (H : Heap) (locs : List Loc), XW Z h g s.heap H locs → lv_has ls 7 [(0, .ref (Z.1 125)), (1, .int p1), (2, .int x2), (3, .int x3), (4, .int x4), (5, .int x5), (6, .int x6)] → r28 (x4, x5, x6) = some out → W p l e (rmD 3) s m args below meth c H locs 0 0 (MQ below (va_Qi (fun r (_ : Unit) => r = out.1) (fun _ => Wd Z h out.2) (FR Z)) args s 0 0 (FR Z)) (F0 m 28 ls [])) {ls : Array Slot} {H : Heap} {locs : List Loc} (hW : XW Z h g s.heap H locs) (hl : lv_has ls 7 [(0, .ref (Z.1 125)), (1, .int p1), (2, .int x2), (3, .int x3), (4, .int x4), (6, .int x6)]) (hf : J_X11_restoresPhrase_85 p1 g r9 r28 x2 x3 x4 x6 = some out) : W p l e (rmD 3) s m args below meth c H locs 0 0 (MQ below (va_Qi (fun r (_ : Unit) => r = out.1) (fun _ => Wd Z h out.2) (FR Z)) args s 0 0 (FR Z)) (F0 m 85 ls []) := by
  refine lv_iconst (v := 1) C.1 C.2.1 dX11_restoresPhrase_85 (by decide) ?_
  refine lv_goto (tgt := 90) C.1 C.2.1 dX11_restoresPhrase_86 (by decide) ?_
  exact j_X11_restoresPhrase_90 C hr9 hr28 hW (lv_sub hl [0, 1, 2, 3, 4, 5] rfl) hf
set_option maxRecDepth 20000 in
set_option maxHeartbeats 1000000 in
theorem j_X11_restoresPhrase_67 {l : Launch} {Z : ZT} {h : Hp} {p1 : Int32} {g : Hp} {r9 : Int32 → Option (Int32 × Hp)} {r28 : Int32 × Int32 × Int32 → Option (Int32 × Hp)} {x2 : Int32} {x3 : Int32} {x5 : Int32} {x6 : Int32} {s0 : Int32} {p : Program} {e : Env} {s : State} {m : MethodId} {args : Array Value} {below : List Frame} {meth : Method} {c : Code} (C : CX p s m args meth c cX11_restoresPhrase RX11 7 (some .boolean) Z) {out : Int32 × Hp} (hr9 : ∀ (x3 : Int32) (ls : Array Slot) (H : Heap) (locs : List Loc), XW Z h g s.heap H locs → lv_has ls 7 [(0, .ref (Z.1 125)), (1, .int p1), (2, .int x2), (3, .int x3)] → r9 x3 = some out → W p l e (rmD 3) s m args below meth c H locs 0 0 (MQ below (va_Qi (fun r (_ : Unit) => r = out.1) (fun _ => Wd Z h out.2) (FR Z)) args s 0 0 (FR Z)) (F0 m 9 ls [])) (hr28 : ∀ (x4 : Int32) (x5 : Int32) (x6 : Int32) (ls : Array Slot) (H : Heap) (locs : List Loc), XW Z h g s.heap H locs → lv_has ls 7 [(0, .ref (Z.1 125)), (1, .int p1), (2, .int x2), (3, .int x3), (4, .int x4), (5, .int x5), (6, .int x6)] → r28 (x4, x5, x6) = some out → W p l e (rmD 3) s m args below meth c H locs 0 0 (MQ below (va_Qi (fun r (_ : Unit) => r = out.1) (fun _ => Wd Z h out.2) (FR Z)) args s 0 0 (FR Z)) (F0 m 28 ls [])) {ls : Array Slot} {H : Heap} {locs : List Loc} (hW : XW Z h g s.heap H locs) (hl : lv_has ls 7 [(0, .ref (Z.1 125)), (1, .int p1), (2, .int x2), (3, .int x3), (5, .int x5), (6, .int x6)]) (hf : J_X11_restoresPhrase_67 p1 g r9 r28 x2 x3 x5 x6 s0 = some out) : W p l e (rmD 3) s m args below meth c H locs 0 0 (MQ below (va_Qi (fun r (_ : Unit) => r = out.1) (fun _ => Wd Z h out.2) (FR Z)) args s 0 0 (FR Z)) (F0 m 67 ls [.int s0]) := by
  refine lv_istore (lv' := [(4, .int s0), (0, .ref (Z.1 125)), (1, .int p1), (2, .int x2), (3, .int x3), (5, .int x5), (6, .int x6)]) C.1 C.2.1 dX11_restoresPhrase_67 hl (by decide) rfl (fun ls hl => ?_)
  refine lv_iload C.1 C.2.1 dX11_restoresPhrase_69 (lv_at hl 5 rfl) ?_
  refine x_ifne (tgt := 85) C hf dX11_restoresPhrase_71 (by decide) (fun hf => ?_) (fun hf => ?_)
  · exact j_X11_restoresPhrase_85 C hr9 hr28 hW (lv_sub hl [1, 2, 3, 4, 0, 6] rfl) hf
  · refine lv_aload_n C.1 C.2.1 dX11_restoresPhrase_74 rfl (lv_at hl 1 rfl) ?_
    refine lv_iload_n C.1 C.2.1 dX11_restoresPhrase_75 rfl (lv_at hl 4 rfl) ?_
    refine lv_iload C.1 C.2.1 dX11_restoresPhrase_76 (lv_at hl 6 rfl) ?_
    refine lv_iadd C.1 C.2.1 dX11_restoresPhrase_78 ?_
    obtain ⟨u4, hcu4, hf⟩ := bnd_t hf
    refine x_calli hW (x_runV C hW hl (wk9 (k_125)) rfl rfl (c_X11_isKept hcu4) (cw_X11_275) ci_X11_isKept cs_X11_isKept (rm_ok (by decide) (by decide)) ⟨Nat.le_refl _, Nat.le_refl _⟩ (As := [.int (x3 + x6)]) rfl rfl (Nat.le_of_ble_eq_true rfl) dX11_restoresPhrase_79) (fun H locs hW => ?_)
    refine x_ifne (tgt := 89) C hf dX11_restoresPhrase_82 (by decide) (fun hf => ?_) (fun hf => ?_)
    · refine lv_iconst (v := 0) C.1 C.2.1 dX11_restoresPhrase_89 (by decide) ?_
      exact j_X11_restoresPhrase_90 C hr9 hr28 hW (lv_sub hl [1, 2, 3, 4, 0, 6] rfl) hf
    · exact j_X11_restoresPhrase_85 C hr9 hr28 hW (lv_sub hl [1, 2, 3, 4, 0, 6] rfl) hf
set_option maxRecDepth 20000 in
set_option maxHeartbeats 1000000 in
theorem j_X11_restoresPhrase_66 {l : Launch} {Z : ZT} {h : Hp} {p1 : Int32} {g : Hp} {r9 : Int32 → Option (Int32 × Hp)} {r28 : Int32 × Int32 × Int32 → Option (Int32 × Hp)} {x2 : Int32} {x3 : Int32} {x5 : Int32} {x6 : Int32} {p : Program} {e : Env} {s : State} {m : MethodId} {args : Array Value} {below : List Frame} {meth : Method} {c : Code} (C : CX p s m args meth c cX11_restoresPhrase RX11 7 (some .boolean) Z) {out : Int32 × Hp} (hr9 : ∀ (x3 : Int32) (ls : Array Slot) (H : Heap) (locs : List Loc), XW Z h g s.heap H locs → lv_has ls 7 [(0, .ref (Z.1 125)), (1, .int p1), (2, .int x2), (3, .int x3)] → r9 x3 = some out → W p l e (rmD 3) s m args below meth c H locs 0 0 (MQ below (va_Qi (fun r (_ : Unit) => r = out.1) (fun _ => Wd Z h out.2) (FR Z)) args s 0 0 (FR Z)) (F0 m 9 ls [])) (hr28 : ∀ (x4 : Int32) (x5 : Int32) (x6 : Int32) (ls : Array Slot) (H : Heap) (locs : List Loc), XW Z h g s.heap H locs → lv_has ls 7 [(0, .ref (Z.1 125)), (1, .int p1), (2, .int x2), (3, .int x3), (4, .int x4), (5, .int x5), (6, .int x6)] → r28 (x4, x5, x6) = some out → W p l e (rmD 3) s m args below meth c H locs 0 0 (MQ below (va_Qi (fun r (_ : Unit) => r = out.1) (fun _ => Wd Z h out.2) (FR Z)) args s 0 0 (FR Z)) (F0 m 28 ls [])) {ls : Array Slot} {H : Heap} {locs : List Loc} (hW : XW Z h g s.heap H locs) (hl : lv_has ls 7 [(0, .ref (Z.1 125)), (1, .int p1), (2, .int x2), (3, .int x3), (5, .int x5), (6, .int x6)]) (hf : J_X11_restoresPhrase_66 p1 g r9 r28 x2 x3 x5 x6 = some out) : W p l e (rmD 3) s m args below meth c H locs 0 0 (MQ below (va_Qi (fun r (_ : Unit) => r = out.1) (fun _ => Wd Z h out.2) (FR Z)) args s 0 0 (FR Z)) (F0 m 66 ls []) := by
  refine lv_iconst (v := 0) C.1 C.2.1 dX11_restoresPhrase_66 (by decide) ?_
  exact j_X11_restoresPhrase_67 C hr9 hr28 hW (lv_sub hl [0, 1, 2, 3, 4, 5] rfl) hf
set_option maxRecDepth 20000 in
set_option maxHeartbeats 1000000 in
theorem l_X11_restoresPhrase_28 {l : Launch} {Z : ZT} {h : Hp} {p1 : Int32} {g : Hp} {r9 : Int32 → Option (Int32 × Hp)} {x2 : Int32} {x3 : Int32} {p : Program} {e : Env} {s : State} {m : MethodId} {args : Array Value} {below : List Frame} {meth : Method} {c : Code} (C : CX p s m args meth c cX11_restoresPhrase RX11 7 (some .boolean) Z) {out : Int32 × Hp} (hr9 : ∀ (x3 : Int32) (ls : Array Slot) (H : Heap) (locs : List Loc), XW Z h g s.heap H locs → lv_has ls 7 [(0, .ref (Z.1 125)), (1, .int p1), (2, .int x2), (3, .int x3)] → r9 x3 = some out → W p l e (rmD 3) s m args below meth c H locs 0 0 (MQ below (va_Qi (fun r (_ : Unit) => r = out.1) (fun _ => Wd Z h out.2) (FR Z)) args s 0 0 (FR Z)) (F0 m 9 ls [])) : ∀ (n : Nat) (x4 : Int32) (x5 : Int32) (x6 : Int32) (ls : Array Slot) (H : Heap) (locs : List Loc), XW Z h g s.heap H locs → lv_has ls 7 [(0, .ref (Z.1 125)), (1, .int p1), (2, .int x2), (3, .int x3), (4, .int x4), (5, .int x5), (6, .int x6)] → Lp (F_X11_restoresPhrase_28 p1 g r9 x2 x3) n (x4, x5, x6) = some out → W p l e (rmD 3) s m args below meth c H locs 0 0 (MQ below (va_Qi (fun r (_ : Unit) => r = out.1) (fun _ => Wd Z h out.2) (FR Z)) args s 0 0 (FR Z)) (F0 m 28 ls []) := by
  intro n
  induction n with
  | zero => intro x4 x5 x6 ls H locs hW hl hf; cases hf
  | succ n ih =>
    intro x4 x5 x6 ls H locs hW hl hf
    rw [Lp_s] at hf
    refine lv_iload C.1 C.2.1 dX11_restoresPhrase_28 (lv_at hl 6 rfl) ?_
    refine lv_iload_n C.1 C.2.1 dX11_restoresPhrase_30 rfl (lv_at hl 2 rfl) ?_
    refine x_cmpge (tgt := 98) C hf dX11_restoresPhrase_31 (by decide) (fun hf => ?_) (fun hf => ?_)
    · exact j_X11_restoresPhrase_98 C hr9 hW (lv_sub hl [0, 1, 2, 3, 4, 5] rfl) hf
    · refine lv_iload C.1 C.2.1 dX11_restoresPhrase_34 (lv_at hl 4 rfl) ?_
      refine x_ifeq (tgt := 66) C hf dX11_restoresPhrase_36 (by decide) (fun hf => ?_) (fun hf => ?_)
      · exact j_X11_restoresPhrase_66 C hr9 (fun z0 z1 z2 => ih z0 z1 z2) hW (lv_sub hl [0, 1, 2, 3, 5, 6] rfl) hf
      · refine lv_aload_n C.1 C.2.1 dX11_restoresPhrase_39 rfl (lv_at hl 0 rfl) ?_
        refine lv_iload_n C.1 C.2.1 dX11_restoresPhrase_40 rfl (lv_at hl 3 rfl) ?_
        refine lv_iload C.1 C.2.1 dX11_restoresPhrase_41 (lv_at hl 6 rfl) ?_
        refine lv_iadd C.1 C.2.1 dX11_restoresPhrase_43 ?_
        refine lv_iconst (v := 1) C.1 C.2.1 dX11_restoresPhrase_44 (by decide) ?_
        obtain ⟨u5, hcu5, hf⟩ := bnd_t hf
        refine x_calli hW (x_runV C hW hl (wk9 (k_125)) rfl rfl (c_X11_of hcu5) (cw_X11_94) ci_X11_of cs_X11_of (rm_ok (by decide) (by decide)) ⟨Nat.le_refl _, Nat.le_refl _⟩ (As := [.int (x3 + x6), .int (1 : Int32)]) rfl rfl (Nat.le_of_ble_eq_true rfl) dX11_restoresPhrase_45) (fun H locs hW => ?_)
        refine lv_aload_n C.1 C.2.1 dX11_restoresPhrase_48 rfl (lv_at hl 0 rfl) ?_
        refine xg_X11_57 C hW (k_125) dX11_restoresPhrase_49 ?_
        refine lv_iload_n C.1 C.2.1 dX11_restoresPhrase_52 rfl (lv_at hl 1 rfl) ?_
        refine lv_iconst (v := 1) C.1 C.2.1 dX11_restoresPhrase_53 (by decide) ?_
        refine lv_iadd C.1 C.2.1 dX11_restoresPhrase_54 ?_
        refine lv_iload C.1 C.2.1 dX11_restoresPhrase_55 (lv_at hl 6 rfl) ?_
        refine lv_iadd C.1 C.2.1 dX11_restoresPhrase_57 ?_
        refine x_ialdM C hW a_139 hf dX11_restoresPhrase_58 (fun hf => ?_)
        refine x_cmpne (tgt := 66) C hf dX11_restoresPhrase_59 (by decide) (fun hf => ?_) (fun hf => ?_)
        · exact j_X11_restoresPhrase_66 C hr9 (fun z0 z1 z2 => ih z0 z1 z2) hW (lv_sub hl [0, 1, 2, 3, 5, 6] rfl) hf
        · refine lv_iconst (v := 1) C.1 C.2.1 dX11_restoresPhrase_62 (by decide) ?_
          refine lv_goto (tgt := 67) C.1 C.2.1 dX11_restoresPhrase_63 (by decide) ?_
          exact j_X11_restoresPhrase_67 C hr9 (fun z0 z1 z2 => ih z0 z1 z2) hW (lv_sub hl [0, 1, 2, 3, 5, 6] rfl) hf
set_option maxRecDepth 20000 in
set_option maxHeartbeats 1000000 in
theorem l_X11_restoresPhrase_9 {l : Launch} {Z : ZT} {h : Hp} {p1 : Int32} {g : Hp} {x2 : Int32} {p : Program} {e : Env} {s : State} {m : MethodId} {args : Array Value} {below : List Frame} {meth : Method} {c : Code} (C : CX p s m args meth c cX11_restoresPhrase RX11 7 (some .boolean) Z) {out : Int32 × Hp} : ∀ (n : Nat) (x3 : Int32) (ls : Array Slot) (H : Heap) (locs : List Loc), XW Z h g s.heap H locs → lv_has ls 7 [(0, .ref (Z.1 125)), (1, .int p1), (2, .int x2), (3, .int x3)] → Lp (F_X11_restoresPhrase_9 p1 g x2) n x3 = some out → W p l e (rmD 3) s m args below meth c H locs 0 0 (MQ below (va_Qi (fun r (_ : Unit) => r = out.1) (fun _ => Wd Z h out.2) (FR Z)) args s 0 0 (FR Z)) (F0 m 9 ls []) := by
  intro n
  induction n with
  | zero => intro x3 ls H locs hW hl hf; cases hf
  | succ n ih =>
    intro x3 ls H locs hW hl hf
    rw [Lp_s] at hf
    rw [F_X11_restoresPhrase_9] at hf
    try dsimp only at hf
    refine lv_iload_n C.1 C.2.1 dX11_restoresPhrase_9 rfl (lv_at hl 3 rfl) ?_
    refine lv_iload_n C.1 C.2.1 dX11_restoresPhrase_10 rfl (lv_at hl 2 rfl) ?_
    refine lv_iadd C.1 C.2.1 dX11_restoresPhrase_11 ?_
    refine lv_aload_n C.1 C.2.1 dX11_restoresPhrase_12 rfl (lv_at hl 0 rfl) ?_
    obtain ⟨u6, hcu6, hf⟩ := bnd_t hf
    refine x_calli hW (x_runV C hW hl (wk9 (k_125)) rfl rfl (c_X11_words hcu6) (cw_X11_90) ci_X11_words cs_X11_words (rm_ok (by decide) (by decide)) ⟨Nat.le_refl _, Nat.le_refl _⟩ (As := []) rfl rfl (Nat.le_of_ble_eq_true rfl) dX11_restoresPhrase_13) (fun H locs hW => ?_)
    refine x_cmpgt (tgt := 133) C hf dX11_restoresPhrase_16 (by decide) (fun hf => ?_) (fun hf => ?_)
    · refine lv_iconst (v := 0) C.1 C.2.1 dX11_restoresPhrase_133 (by decide) ?_
      obtain rfl := Option.some.inj hf
      exact x_zret C hW (by decide) dX11_restoresPhrase_134 rfl
    · refine lv_iconst (v := 1) C.1 C.2.1 dX11_restoresPhrase_19 (by decide) ?_
      refine lv_istore (lv' := [(4, .int (1 : Int32)), (0, .ref (Z.1 125)), (1, .int p1), (2, .int x2), (3, .int x3)]) C.1 C.2.1 dX11_restoresPhrase_20 hl (by decide) rfl (fun ls hl => ?_)
      refine lv_iconst (v := 0) C.1 C.2.1 dX11_restoresPhrase_22 (by decide) ?_
      refine lv_istore (lv' := [(5, .int (0 : Int32)), (4, .int (1 : Int32)), (0, .ref (Z.1 125)), (1, .int p1), (2, .int x2), (3, .int x3)]) C.1 C.2.1 dX11_restoresPhrase_23 hl (by decide) rfl (fun ls hl => ?_)
      refine lv_iconst (v := 0) C.1 C.2.1 dX11_restoresPhrase_25 (by decide) ?_
      refine lv_istore (lv' := [(6, .int (0 : Int32)), (5, .int (0 : Int32)), (4, .int (1 : Int32)), (0, .ref (Z.1 125)), (1, .int p1), (2, .int x2), (3, .int x3)]) C.1 C.2.1 dX11_restoresPhrase_26 hl (by decide) rfl (fun ls hl => ?_)
      exact l_X11_restoresPhrase_28 C (fun z0 => ih z0) FU (1 : Int32) (0 : Int32) (0 : Int32) ls _ _ hW (lv_sub hl [3, 4, 5, 6, 2, 1, 0] rfl) hf
set_option maxRecDepth 20000 in
set_option maxHeartbeats 1000000 in
theorem c_X11_restoresPhrase {l : Launch} {Z : ZT} {h : Hp} {g : Hp} {p1 : Int32} {out : Int32 × Hp} (hf : f_X11_restoresPhrase g p1 = some out) : Met l yX11_restoresPhrase (wY yX11_restoresPhrase cX11_restoresPhrase 7 (some .boolean)) (rmD 3) (va_Pc [.ref (Z.1 125), .int p1] (Wd Z h g)) (va_Qi (fun r (_ : Unit) => r = out.1) (fun _ => Wd Z h out.2) (FR Z)) 0 0 (FR Z) := by
  refine metX RX11 rfl (by decide +kernel) (Nat.le_of_ble_eq_true rfl) ?_
  intro p e s m args below meth c C hW ls hl
  have hl : lv_has ls 7 [(0, .ref (Z.1 125)), (1, .int p1)] := hl
  unfold f_X11_restoresPhrase at hf
  refine lv_aload_n C.1 C.2.1 dX11_restoresPhrase_0 rfl (lv_at hl 0 rfl) ?_
  refine xg_X11_57 C hW (k_125) dX11_restoresPhrase_1 ?_
  refine lv_iload_n C.1 C.2.1 dX11_restoresPhrase_4 rfl (lv_at hl 1 rfl) ?_
  refine x_ialdM C hW a_139 hf dX11_restoresPhrase_5 (fun hf => ?_)
  refine x_istn C hf dX11_restoresPhrase_6 rfl hl (by decide) (fun v7 => [(2, .int v7), (0, .ref (Z.1 125)), (1, .int p1)]) (fun _ => rfl) (fun v7 ls hf hl => ?_)
  refine lv_iconst (v := 0) C.1 C.2.1 dX11_restoresPhrase_7 (by decide) ?_
  refine lv_istore_n (lv' := [(3, .int (0 : Int32)), (2, .int v7), (0, .ref (Z.1 125)), (1, .int p1)]) C.1 C.2.1 dX11_restoresPhrase_8 rfl hl (by decide) rfl (fun ls hl => ?_)
  exact l_X11_restoresPhrase_9 C FU (0 : Int32) ls _ _ hW (lv_sub hl [2, 3, 1, 0] rfl) hf
