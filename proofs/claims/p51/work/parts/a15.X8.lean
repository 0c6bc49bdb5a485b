abbrev cX8_readBreath : ByteArray := prog_10_method_8_code
def yX8_readBreath : MethodName := ⟨RX8, "readBreath", "(LTranscriptCutter$Tokens;LTranscriptCutter$Recording;)Z"⟩
theorem dX8_readBreath_0 : decode cX8_readBreath 0 = .ok (.aload_n 1, 1) := by decide +kernel
theorem dX8_readBreath_1 : decode cX8_readBreath 1 = .ok (.getfield 112, 3) := by decide +kernel
theorem dX8_readBreath_4 : decode cX8_readBreath 4 = .ok (.bipush 12, 2) := by decide +kernel
theorem dX8_readBreath_6 : decode cX8_readBreath 6 = .ok (.if_icmp .lt 9, 3) := by decide +kernel
theorem dX8_readBreath_9 : decode cX8_readBreath 9 = .ok (.aload_n 0, 1) := by decide +kernel
theorem dX8_readBreath_10 : decode cX8_readBreath 10 = .ok (.iconst 4, 1) := by decide +kernel
theorem dX8_readBreath_11 : decode cX8_readBreath 11 = .ok (.invokevirtual 36, 3) := by decide +kernel
theorem dX8_readBreath_14 : decode cX8_readBreath 14 = .ok (.ireturn, 1) := by decide +kernel
theorem dX8_readBreath_15 : decode cX8_readBreath 15 = .ok (.aload_n 0, 1) := by decide +kernel
theorem dX8_readBreath_16 : decode cX8_readBreath 16 = .ok (.invokevirtual 72, 3) := by decide +kernel
theorem dX8_readBreath_19 : decode cX8_readBreath 19 = .ok (.aload_n 0, 1) := by decide +kernel
theorem dX8_readBreath_20 : decode cX8_readBreath 20 = .ok (.iconst 0, 1) := by decide +kernel
theorem dX8_readBreath_21 : decode cX8_readBreath 21 = .ok (.ldc 103, 2) := by decide +kernel
theorem dX8_readBreath_23 : decode cX8_readBreath 23 = .ok (.invokevirtual 76, 3) := by decide +kernel
theorem dX8_readBreath_26 : decode cX8_readBreath 26 = .ok (.istore_n 2, 1) := by decide +kernel
theorem dX8_readBreath_27 : decode cX8_readBreath 27 = .ok (.iload_n 2, 1) := by decide +kernel
theorem dX8_readBreath_28 : decode cX8_readBreath 28 = .ok (.iconst (-1), 1) := by decide +kernel
theorem dX8_readBreath_29 : decode cX8_readBreath 29 = .ok (.if_icmp .ne 5, 3) := by decide +kernel
theorem dX8_readBreath_32 : decode cX8_readBreath 32 = .ok (.iconst 0, 1) := by decide +kernel
theorem dX8_readBreath_33 : decode cX8_readBreath 33 = .ok (.ireturn, 1) := by decide +kernel
theorem dX8_readBreath_34 : decode cX8_readBreath 34 = .ok (.aload_n 0, 1) := by decide +kernel
theorem dX8_readBreath_35 : decode cX8_readBreath 35 = .ok (.invokevirtual 72, 3) := by decide +kernel
theorem dX8_readBreath_38 : decode cX8_readBreath 38 = .ok (.aload_n 0, 1) := by decide +kernel
theorem dX8_readBreath_39 : decode cX8_readBreath 39 = .ok (.iload_n 2, 1) := by decide +kernel
theorem dX8_readBreath_40 : decode cX8_readBreath 40 = .ok (.iconst 1, 1) := by decide +kernel
theorem dX8_readBreath_41 : decode cX8_readBreath 41 = .ok (.iadd, 1) := by decide +kernel
theorem dX8_readBreath_42 : decode cX8_readBreath 42 = .ok (.ldc 75, 2) := by decide +kernel
theorem dX8_readBreath_44 : decode cX8_readBreath 44 = .ok (.invokevirtual 76, 3) := by decide +kernel
theorem dX8_readBreath_47 : decode cX8_readBreath 47 = .ok (.istore_n 3, 1) := by decide +kernel
theorem dX8_readBreath_48 : decode cX8_readBreath 48 = .ok (.iload_n 3, 1) := by decide +kernel
theorem dX8_readBreath_49 : decode cX8_readBreath 49 = .ok (.iconst (-1), 1) := by decide +kernel
theorem dX8_readBreath_50 : decode cX8_readBreath 50 = .ok (.if_icmp .ne 5, 3) := by decide +kernel
theorem dX8_readBreath_53 : decode cX8_readBreath 53 = .ok (.iconst 0, 1) := by decide +kernel
theorem dX8_readBreath_54 : decode cX8_readBreath 54 = .ok (.ireturn, 1) := by decide +kernel
theorem dX8_readBreath_55 : decode cX8_readBreath 55 = .ok (.aload_n 0, 1) := by decide +kernel
theorem dX8_readBreath_56 : decode cX8_readBreath 56 = .ok (.invokevirtual 72, 3) := by decide +kernel
theorem dX8_readBreath_59 : decode cX8_readBreath 59 = .ok (.aload_n 1, 1) := by decide +kernel
theorem dX8_readBreath_60 : decode cX8_readBreath 60 = .ok (.iload_n 2, 1) := by decide +kernel
theorem dX8_readBreath_61 : decode cX8_readBreath 61 = .ok (.iload_n 3, 1) := by decide +kernel
theorem dX8_readBreath_62 : decode cX8_readBreath 62 = .ok (.invokevirtual 115, 3) := by decide +kernel
theorem dX8_readBreath_65 : decode cX8_readBreath 65 = .ok (.iconst 1, 1) := by decide +kernel
theorem dX8_readBreath_66 : decode cX8_readBreath 66 = .ok (.ireturn, 1) := by decide +kernel
theorem ct_X8_readBreath : Cond.static yX8_readBreath ∈ TW := TW_of 933 (by decide +kernel) (by decide +kernel)
abbrev cX8_readHandle : ByteArray := prog_10_method_5_code
def yX8_readHandle : MethodName := ⟨RX8, "readHandle", "(LTranscriptCutter$Tokens;LTranscriptCutter$Recording;)Z"⟩
theorem dX8_readHandle_0 : decode cX8_readHandle 0 = .ok (.aload_n 0, 1) := by decide +kernel
theorem dX8_readHandle_1 : decode cX8_readHandle 1 = .ok (.invokevirtual 72, 3) := by decide +kernel
theorem dX8_readHandle_4 : decode cX8_readHandle 4 = .ok (.aload_n 0, 1) := by decide +kernel
theorem dX8_readHandle_5 : decode cX8_readHandle 5 = .ok (.iconst 0, 1) := by decide +kernel
theorem dX8_readHandle_6 : decode cX8_readHandle 6 = .ok (.sipush 999, 3) := by decide +kernel
theorem dX8_readHandle_9 : decode cX8_readHandle 9 = .ok (.invokevirtual 76, 3) := by decide +kernel
theorem dX8_readHandle_12 : decode cX8_readHandle 12 = .ok (.istore_n 2, 1) := by decide +kernel
theorem dX8_readHandle_13 : decode cX8_readHandle 13 = .ok (.iload_n 2, 1) := by decide +kernel
theorem dX8_readHandle_14 : decode cX8_readHandle 14 = .ok (.iconst (-1), 1) := by decide +kernel
theorem dX8_readHandle_15 : decode cX8_readHandle 15 = .ok (.if_icmp .ne 5, 3) := by decide +kernel
theorem dX8_readHandle_18 : decode cX8_readHandle 18 = .ok (.iconst 0, 1) := by decide +kernel
theorem dX8_readHandle_19 : decode cX8_readHandle 19 = .ok (.ireturn, 1) := by decide +kernel
theorem dX8_readHandle_20 : decode cX8_readHandle 20 = .ok (.aload_n 0, 1) := by decide +kernel
theorem dX8_readHandle_21 : decode cX8_readHandle 21 = .ok (.invokevirtual 72, 3) := by decide +kernel
theorem dX8_readHandle_24 : decode cX8_readHandle 24 = .ok (.aload_n 1, 1) := by decide +kernel
theorem dX8_readHandle_25 : decode cX8_readHandle 25 = .ok (.iload_n 2, 1) := by decide +kernel
theorem dX8_readHandle_26 : decode cX8_readHandle 26 = .ok (.putfield 83, 3) := by decide +kernel
theorem dX8_readHandle_29 : decode cX8_readHandle 29 = .ok (.iconst 1, 1) := by decide +kernel
theorem dX8_readHandle_30 : decode cX8_readHandle 30 = .ok (.ireturn, 1) := by decide +kernel
theorem ct_X8_readHandle : Cond.static yX8_readHandle ∈ TW := TW_of 941 (by decide +kernel) (by decide +kernel)
abbrev cX8_readLength : ByteArray := prog_10_method_4_code
def yX8_readLength : MethodName := ⟨RX8, "readLength", "(LTranscriptCutter$Tokens;LTranscriptCutter$Recording;)Z"⟩
theorem dX8_readLength_0 : decode cX8_readLength 0 = .ok (.aload_n 0, 1) := by decide +kernel
theorem dX8_readLength_1 : decode cX8_readLength 1 = .ok (.invokevirtual 72, 3) := by decide +kernel
theorem dX8_readLength_4 : decode cX8_readLength 4 = .ok (.aload_n 0, 1) := by decide +kernel
theorem dX8_readLength_5 : decode cX8_readLength 5 = .ok (.iconst 1, 1) := by decide +kernel
theorem dX8_readLength_6 : decode cX8_readLength 6 = .ok (.ldc 75, 2) := by decide +kernel
theorem dX8_readLength_8 : decode cX8_readLength 8 = .ok (.invokevirtual 76, 3) := by decide +kernel
theorem dX8_readLength_11 : decode cX8_readLength 11 = .ok (.istore_n 2, 1) := by decide +kernel
theorem dX8_readLength_12 : decode cX8_readLength 12 = .ok (.iload_n 2, 1) := by decide +kernel
theorem dX8_readLength_13 : decode cX8_readLength 13 = .ok (.iconst (-1), 1) := by decide +kernel
theorem dX8_readLength_14 : decode cX8_readLength 14 = .ok (.if_icmp .ne 5, 3) := by decide +kernel
theorem dX8_readLength_17 : decode cX8_readLength 17 = .ok (.iconst 0, 1) := by decide +kernel
theorem dX8_readLength_18 : decode cX8_readLength 18 = .ok (.ireturn, 1) := by decide +kernel
theorem dX8_readLength_19 : decode cX8_readLength 19 = .ok (.aload_n 0, 1) := by decide +kernel
theorem dX8_readLength_20 : decode cX8_readLength 20 = .ok (.invokevirtual 72, 3) := by decide +kernel
theorem dX8_readLength_23 : decode cX8_readLength 23 = .ok (.aload_n 1, 1) := by decide +kernel
theorem dX8_readLength_24 : decode cX8_readLength 24 = .ok (.iload_n 2, 1) := by decide +kernel
theorem dX8_readLength_25 : decode cX8_readLength 25 = .ok (.putfield 80, 3) := by decide +kernel
theorem dX8_readLength_28 : decode cX8_readLength 28 = .ok (.iconst 1, 1) := by decide +kernel
theorem dX8_readLength_29 : decode cX8_readLength 29 = .ok (.ireturn, 1) := by decide +kernel
theorem ct_X8_readLength : Cond.static yX8_readLength ∈ TW := TW_of 885 (by decide +kernel) (by decide +kernel)
abbrev cX8_readSpeaker : ByteArray := prog_10_method_6_code
def yX8_readSpeaker : MethodName := ⟨RX8, "readSpeaker", "(LTranscriptCutter$Tokens;LTranscriptCutter$Recording;)Z"⟩
theorem dX8_readSpeaker_0 : decode cX8_readSpeaker 0 = .ok (.aload_n 1, 1) := by decide +kernel
theorem dX8_readSpeaker_1 : decode cX8_readSpeaker 1 = .ok (.getfield 85, 3) := by decide +kernel
theorem dX8_readSpeaker_4 : decode cX8_readSpeaker 4 = .ok (.iconst 4, 1) := by decide +kernel
theorem dX8_readSpeaker_5 : decode cX8_readSpeaker 5 = .ok (.if_icmp .lt 9, 3) := by decide +kernel
theorem dX8_readSpeaker_8 : decode cX8_readSpeaker 8 = .ok (.aload_n 0, 1) := by decide +kernel
theorem dX8_readSpeaker_9 : decode cX8_readSpeaker 9 = .ok (.iconst 4, 1) := by decide +kernel
theorem dX8_readSpeaker_10 : decode cX8_readSpeaker 10 = .ok (.invokevirtual 36, 3) := by decide +kernel
theorem dX8_readSpeaker_13 : decode cX8_readSpeaker 13 = .ok (.ireturn, 1) := by decide +kernel
theorem dX8_readSpeaker_14 : decode cX8_readSpeaker 14 = .ok (.aload_n 0, 1) := by decide +kernel
theorem dX8_readSpeaker_15 : decode cX8_readSpeaker 15 = .ok (.invokevirtual 72, 3) := by decide +kernel
theorem dX8_readSpeaker_18 : decode cX8_readSpeaker 18 = .ok (.aload_n 0, 1) := by decide +kernel
theorem dX8_readSpeaker_19 : decode cX8_readSpeaker 19 = .ok (.invokevirtual 88, 3) := by decide +kernel
theorem dX8_readSpeaker_22 : decode cX8_readSpeaker 22 = .ok (.istore_n 2, 1) := by decide +kernel
theorem dX8_readSpeaker_23 : decode cX8_readSpeaker 23 = .ok (.iload_n 2, 1) := by decide +kernel
theorem dX8_readSpeaker_24 : decode cX8_readSpeaker 24 = .ok (.iconst (-1), 1) := by decide +kernel
theorem dX8_readSpeaker_25 : decode cX8_readSpeaker 25 = .ok (.if_icmp .ne 5, 3) := by decide +kernel
theorem dX8_readSpeaker_28 : decode cX8_readSpeaker 28 = .ok (.iconst 0, 1) := by decide +kernel
theorem dX8_readSpeaker_29 : decode cX8_readSpeaker 29 = .ok (.ireturn, 1) := by decide +kernel
theorem dX8_readSpeaker_30 : decode cX8_readSpeaker 30 = .ok (.aload_n 1, 1) := by decide +kernel
theorem dX8_readSpeaker_31 : decode cX8_readSpeaker 31 = .ok (.iload_n 2, 1) := by decide +kernel
theorem dX8_readSpeaker_32 : decode cX8_readSpeaker 32 = .ok (.invokevirtual 92, 3) := by decide +kernel
theorem dX8_readSpeaker_35 : decode cX8_readSpeaker 35 = .ok (.iconst (-1), 1) := by decide +kernel
theorem dX8_readSpeaker_36 : decode cX8_readSpeaker 36 = .ok (.if_icmp .eq 9, 3) := by decide +kernel
theorem dX8_readSpeaker_39 : decode cX8_readSpeaker 39 = .ok (.aload_n 0, 1) := by decide +kernel
theorem dX8_readSpeaker_40 : decode cX8_readSpeaker 40 = .ok (.iconst 3, 1) := by decide +kernel
theorem dX8_readSpeaker_41 : decode cX8_readSpeaker 41 = .ok (.invokevirtual 36, 3) := by decide +kernel
theorem dX8_readSpeaker_44 : decode cX8_readSpeaker 44 = .ok (.ireturn, 1) := by decide +kernel
theorem dX8_readSpeaker_45 : decode cX8_readSpeaker 45 = .ok (.aload_n 0, 1) := by decide +kernel
theorem dX8_readSpeaker_46 : decode cX8_readSpeaker 46 = .ok (.invokevirtual 72, 3) := by decide +kernel
theorem dX8_readSpeaker_49 : decode cX8_readSpeaker 49 = .ok (.aload_n 1, 1) := by decide +kernel
theorem dX8_readSpeaker_50 : decode cX8_readSpeaker 50 = .ok (.iload_n 2, 1) := by decide +kernel
theorem dX8_readSpeaker_51 : decode cX8_readSpeaker 51 = .ok (.invokevirtual 96, 3) := by decide +kernel
theorem dX8_readSpeaker_54 : decode cX8_readSpeaker 54 = .ok (.iconst 1, 1) := by decide +kernel
theorem dX8_readSpeaker_55 : decode cX8_readSpeaker 55 = .ok (.ireturn, 1) := by decide +kernel
theorem ct_X8_readSpeaker : Cond.static yX8_readSpeaker ∈ TW := TW_of 899 (by decide +kernel) (by decide +kernel)
abbrev cX8_readWord : ByteArray := prog_10_method_7_code
def yX8_readWord : MethodName := ⟨RX8, "readWord", "(LTranscriptCutter$Tokens;LTranscriptCutter$Recording;)Z"⟩
theorem dX8_readWord_0 : decode cX8_readWord 0 = .ok (.aload_n 1, 1) := by decide +kernel
theorem dX8_readWord_1 : decode cX8_readWord 1 = .ok (.getfield 100, 3) := by decide +kernel
theorem dX8_readWord_4 : decode cX8_readWord 4 = .ok (.bipush 40, 2) := by decide +kernel
theorem dX8_readWord_6 : decode cX8_readWord 6 = .ok (.if_icmp .lt 9, 3) := by decide +kernel
theorem dX8_readWord_9 : decode cX8_readWord 9 = .ok (.aload_n 0, 1) := by decide +kernel
theorem dX8_readWord_10 : decode cX8_readWord 10 = .ok (.iconst 4, 1) := by decide +kernel
theorem dX8_readWord_11 : decode cX8_readWord 11 = .ok (.invokevirtual 36, 3) := by decide +kernel
theorem dX8_readWord_14 : decode cX8_readWord 14 = .ok (.ireturn, 1) := by decide +kernel
theorem dX8_readWord_15 : decode cX8_readWord 15 = .ok (.aload_n 0, 1) := by decide +kernel
theorem dX8_readWord_16 : decode cX8_readWord 16 = .ok (.invokevirtual 72, 3) := by decide +kernel
theorem dX8_readWord_19 : decode cX8_readWord 19 = .ok (.aload_n 0, 1) := by decide +kernel
theorem dX8_readWord_20 : decode cX8_readWord 20 = .ok (.invokevirtual 88, 3) := by decide +kernel
theorem dX8_readWord_23 : decode cX8_readWord 23 = .ok (.istore_n 2, 1) := by decide +kernel
theorem dX8_readWord_24 : decode cX8_readWord 24 = .ok (.iload_n 2, 1) := by decide +kernel
theorem dX8_readWord_25 : decode cX8_readWord 25 = .ok (.iconst (-1), 1) := by decide +kernel
theorem dX8_readWord_26 : decode cX8_readWord 26 = .ok (.if_icmp .ne 5, 3) := by decide +kernel
theorem dX8_readWord_29 : decode cX8_readWord 29 = .ok (.iconst 0, 1) := by decide +kernel
theorem dX8_readWord_30 : decode cX8_readWord 30 = .ok (.ireturn, 1) := by decide +kernel
theorem dX8_readWord_31 : decode cX8_readWord 31 = .ok (.aload_n 1, 1) := by decide +kernel
theorem dX8_readWord_32 : decode cX8_readWord 32 = .ok (.iload_n 2, 1) := by decide +kernel
theorem dX8_readWord_33 : decode cX8_readWord 33 = .ok (.invokevirtual 92, 3) := by decide +kernel
theorem dX8_readWord_36 : decode cX8_readWord 36 = .ok (.istore_n 3, 1) := by decide +kernel
theorem dX8_readWord_37 : decode cX8_readWord 37 = .ok (.iload_n 3, 1) := by decide +kernel
theorem dX8_readWord_38 : decode cX8_readWord 38 = .ok (.iconst (-1), 1) := by decide +kernel
theorem dX8_readWord_39 : decode cX8_readWord 39 = .ok (.if_icmp .ne 9, 3) := by decide +kernel
theorem dX8_readWord_42 : decode cX8_readWord 42 = .ok (.aload_n 0, 1) := by decide +kernel
theorem dX8_readWord_43 : decode cX8_readWord 43 = .ok (.iconst 3, 1) := by decide +kernel
theorem dX8_readWord_44 : decode cX8_readWord 44 = .ok (.invokevirtual 36, 3) := by decide +kernel
theorem dX8_readWord_47 : decode cX8_readWord 47 = .ok (.ireturn, 1) := by decide +kernel
theorem dX8_readWord_48 : decode cX8_readWord 48 = .ok (.aload_n 0, 1) := by decide +kernel
theorem dX8_readWord_49 : decode cX8_readWord 49 = .ok (.invokevirtual 72, 3) := by decide +kernel
theorem dX8_readWord_52 : decode cX8_readWord 52 = .ok (.aload_n 0, 1) := by decide +kernel
theorem dX8_readWord_53 : decode cX8_readWord 53 = .ok (.invokevirtual 88, 3) := by decide +kernel
theorem dX8_readWord_56 : decode cX8_readWord 56 = .ok (.istore 4, 2) := by decide +kernel
theorem dX8_readWord_58 : decode cX8_readWord 58 = .ok (.iload 4, 2) := by decide +kernel
theorem dX8_readWord_60 : decode cX8_readWord 60 = .ok (.iconst (-1), 1) := by decide +kernel
theorem dX8_readWord_61 : decode cX8_readWord 61 = .ok (.if_icmp .ne 5, 3) := by decide +kernel
theorem dX8_readWord_64 : decode cX8_readWord 64 = .ok (.iconst 0, 1) := by decide +kernel
theorem dX8_readWord_65 : decode cX8_readWord 65 = .ok (.ireturn, 1) := by decide +kernel
theorem dX8_readWord_66 : decode cX8_readWord 66 = .ok (.aload_n 0, 1) := by decide +kernel
theorem dX8_readWord_67 : decode cX8_readWord 67 = .ok (.invokevirtual 72, 3) := by decide +kernel
theorem dX8_readWord_70 : decode cX8_readWord 70 = .ok (.aload_n 0, 1) := by decide +kernel
theorem dX8_readWord_71 : decode cX8_readWord 71 = .ok (.iconst 0, 1) := by decide +kernel
theorem dX8_readWord_72 : decode cX8_readWord 72 = .ok (.ldc 103, 2) := by decide +kernel
theorem dX8_readWord_74 : decode cX8_readWord 74 = .ok (.invokevirtual 76, 3) := by decide +kernel
theorem dX8_readWord_77 : decode cX8_readWord 77 = .ok (.istore 5, 2) := by decide +kernel
theorem dX8_readWord_79 : decode cX8_readWord 79 = .ok (.iload 5, 2) := by decide +kernel
theorem dX8_readWord_81 : decode cX8_readWord 81 = .ok (.iconst (-1), 1) := by decide +kernel
theorem dX8_readWord_82 : decode cX8_readWord 82 = .ok (.if_icmp .ne 5, 3) := by decide +kernel
theorem dX8_readWord_85 : decode cX8_readWord 85 = .ok (.iconst 0, 1) := by decide +kernel
theorem dX8_readWord_86 : decode cX8_readWord 86 = .ok (.ireturn, 1) := by decide +kernel
theorem dX8_readWord_87 : decode cX8_readWord 87 = .ok (.aload_n 1, 1) := by decide +kernel
theorem dX8_readWord_88 : decode cX8_readWord 88 = .ok (.iload_n 3, 1) := by decide +kernel
theorem dX8_readWord_89 : decode cX8_readWord 89 = .ok (.iload 5, 2) := by decide +kernel
theorem dX8_readWord_91 : decode cX8_readWord 91 = .ok (.iload 5, 2) := by decide +kernel
theorem dX8_readWord_93 : decode cX8_readWord 93 = .ok (.iconst 1, 1) := by decide +kernel
theorem dX8_readWord_94 : decode cX8_readWord 94 = .ok (.iadd, 1) := by decide +kernel
theorem dX8_readWord_95 : decode cX8_readWord 95 = .ok (.invokevirtual 104, 3) := by decide +kernel
theorem dX8_readWord_98 : decode cX8_readWord 98 = .ok (.ifCond .eq 9, 3) := by decide +kernel
theorem dX8_readWord_101 : decode cX8_readWord 101 = .ok (.aload_n 0, 1) := by decide +kernel
theorem dX8_readWord_102 : decode cX8_readWord 102 = .ok (.iconst 2, 1) := by decide +kernel
theorem dX8_readWord_103 : decode cX8_readWord 103 = .ok (.invokevirtual 36, 3) := by decide +kernel
theorem dX8_readWord_106 : decode cX8_readWord 106 = .ok (.ireturn, 1) := by decide +kernel
theorem dX8_readWord_107 : decode cX8_readWord 107 = .ok (.aload_n 0, 1) := by decide +kernel
theorem dX8_readWord_108 : decode cX8_readWord 108 = .ok (.invokevirtual 72, 3) := by decide +kernel
theorem dX8_readWord_111 : decode cX8_readWord 111 = .ok (.aload_n 0, 1) := by decide +kernel
theorem dX8_readWord_112 : decode cX8_readWord 112 = .ok (.iload 5, 2) := by decide +kernel
theorem dX8_readWord_114 : decode cX8_readWord 114 = .ok (.iconst 1, 1) := by decide +kernel
theorem dX8_readWord_115 : decode cX8_readWord 115 = .ok (.iadd, 1) := by decide +kernel
theorem dX8_readWord_116 : decode cX8_readWord 116 = .ok (.ldc 75, 2) := by decide +kernel
theorem dX8_readWord_118 : decode cX8_readWord 118 = .ok (.invokevirtual 76, 3) := by decide +kernel
theorem dX8_readWord_121 : decode cX8_readWord 121 = .ok (.istore 6, 2) := by decide +kernel
theorem dX8_readWord_123 : decode cX8_readWord 123 = .ok (.iload 6, 2) := by decide +kernel
theorem dX8_readWord_125 : decode cX8_readWord 125 = .ok (.iconst (-1), 1) := by decide +kernel
theorem dX8_readWord_126 : decode cX8_readWord 126 = .ok (.if_icmp .ne 5, 3) := by decide +kernel
theorem dX8_readWord_129 : decode cX8_readWord 129 = .ok (.iconst 0, 1) := by decide +kernel
theorem dX8_readWord_130 : decode cX8_readWord 130 = .ok (.ireturn, 1) := by decide +kernel
theorem dX8_readWord_131 : decode cX8_readWord 131 = .ok (.aload_n 1, 1) := by decide +kernel
theorem dX8_readWord_132 : decode cX8_readWord 132 = .ok (.iload_n 3, 1) := by decide +kernel
theorem dX8_readWord_133 : decode cX8_readWord 133 = .ok (.iload 5, 2) := by decide +kernel
theorem dX8_readWord_135 : decode cX8_readWord 135 = .ok (.iload 6, 2) := by decide +kernel
theorem dX8_readWord_137 : decode cX8_readWord 137 = .ok (.invokevirtual 104, 3) := by decide +kernel
theorem dX8_readWord_140 : decode cX8_readWord 140 = .ok (.ifCond .eq 9, 3) := by decide +kernel
theorem dX8_readWord_143 : decode cX8_readWord 143 = .ok (.aload_n 0, 1) := by decide +kernel
theorem dX8_readWord_144 : decode cX8_readWord 144 = .ok (.iconst 2, 1) := by decide +kernel
theorem dX8_readWord_145 : decode cX8_readWord 145 = .ok (.invokevirtual 36, 3) := by decide +kernel
theorem dX8_readWord_148 : decode cX8_readWord 148 = .ok (.ireturn, 1) := by decide +kernel
theorem dX8_readWord_149 : decode cX8_readWord 149 = .ok (.aload_n 0, 1) := by decide +kernel
theorem dX8_readWord_150 : decode cX8_readWord 150 = .ok (.invokevirtual 72, 3) := by decide +kernel
theorem dX8_readWord_153 : decode cX8_readWord 153 = .ok (.aload_n 1, 1) := by decide +kernel
theorem dX8_readWord_154 : decode cX8_readWord 154 = .ok (.iload 4, 2) := by decide +kernel
theorem dX8_readWord_156 : decode cX8_readWord 156 = .ok (.iload_n 3, 1) := by decide +kernel
theorem dX8_readWord_157 : decode cX8_readWord 157 = .ok (.iload 5, 2) := by decide +kernel
theorem dX8_readWord_159 : decode cX8_readWord 159 = .ok (.iload 6, 2) := by decide +kernel
theorem dX8_readWord_161 : decode cX8_readWord 161 = .ok (.invokevirtual 108, 3) := by decide +kernel
theorem dX8_readWord_164 : decode cX8_readWord 164 = .ok (.iconst 1, 1) := by decide +kernel
theorem dX8_readWord_165 : decode cX8_readWord 165 = .ok (.ireturn, 1) := by decide +kernel
theorem ct_X8_readWord : Cond.static yX8_readWord ∈ TW := TW_of 916 (by decide +kernel) (by decide +kernel)
abbrev cX8_readLine : ByteArray := prog_10_method_3_code
def yX8_readLine : MethodName := ⟨RX8, "readLine", "(LTranscriptCutter$Tokens;LTranscriptCutter$Recording;)Z"⟩
theorem dX8_readLine_0 : decode cX8_readLine 0 = .ok (.aload_n 0, 1) := by decide +kernel
theorem dX8_readLine_1 : decode cX8_readLine 1 = .ok (.ldc 43, 2) := by decide +kernel
theorem dX8_readLine_3 : decode cX8_readLine 3 = .ok (.invokevirtual 45, 3) := by decide +kernel
theorem dX8_readLine_6 : decode cX8_readLine 6 = .ok (.ifCond .eq 9, 3) := by decide +kernel
theorem dX8_readLine_9 : decode cX8_readLine 9 = .ok (.aload_n 0, 1) := by decide +kernel
theorem dX8_readLine_10 : decode cX8_readLine 10 = .ok (.aload_n 1, 1) := by decide +kernel
theorem dX8_readLine_11 : decode cX8_readLine 11 = .ok (.invokestatic 49, 3) := by decide +kernel
theorem dX8_readLine_14 : decode cX8_readLine 14 = .ok (.ireturn, 1) := by decide +kernel
theorem dX8_readLine_15 : decode cX8_readLine 15 = .ok (.aload_n 0, 1) := by decide +kernel
theorem dX8_readLine_16 : decode cX8_readLine 16 = .ok (.ldc 52, 2) := by decide +kernel
theorem dX8_readLine_18 : decode cX8_readLine 18 = .ok (.invokevirtual 45, 3) := by decide +kernel
theorem dX8_readLine_21 : decode cX8_readLine 21 = .ok (.ifCond .eq 9, 3) := by decide +kernel
theorem dX8_readLine_24 : decode cX8_readLine 24 = .ok (.aload_n 0, 1) := by decide +kernel
theorem dX8_readLine_25 : decode cX8_readLine 25 = .ok (.aload_n 1, 1) := by decide +kernel
theorem dX8_readLine_26 : decode cX8_readLine 26 = .ok (.invokestatic 54, 3) := by decide +kernel
theorem dX8_readLine_29 : decode cX8_readLine 29 = .ok (.ireturn, 1) := by decide +kernel
theorem dX8_readLine_30 : decode cX8_readLine 30 = .ok (.aload_n 0, 1) := by decide +kernel
theorem dX8_readLine_31 : decode cX8_readLine 31 = .ok (.ldc 57, 2) := by decide +kernel
theorem dX8_readLine_33 : decode cX8_readLine 33 = .ok (.invokevirtual 45, 3) := by decide +kernel
theorem dX8_readLine_36 : decode cX8_readLine 36 = .ok (.ifCond .eq 9, 3) := by decide +kernel
theorem dX8_readLine_39 : decode cX8_readLine 39 = .ok (.aload_n 0, 1) := by decide +kernel
theorem dX8_readLine_40 : decode cX8_readLine 40 = .ok (.aload_n 1, 1) := by decide +kernel
theorem dX8_readLine_41 : decode cX8_readLine 41 = .ok (.invokestatic 59, 3) := by decide +kernel
theorem dX8_readLine_44 : decode cX8_readLine 44 = .ok (.ireturn, 1) := by decide +kernel
theorem dX8_readLine_45 : decode cX8_readLine 45 = .ok (.aload_n 0, 1) := by decide +kernel
theorem dX8_readLine_46 : decode cX8_readLine 46 = .ok (.ldc 62, 2) := by decide +kernel
theorem dX8_readLine_48 : decode cX8_readLine 48 = .ok (.invokevirtual 45, 3) := by decide +kernel
theorem dX8_readLine_51 : decode cX8_readLine 51 = .ok (.ifCond .eq 9, 3) := by decide +kernel
theorem dX8_readLine_54 : decode cX8_readLine 54 = .ok (.aload_n 0, 1) := by decide +kernel
theorem dX8_readLine_55 : decode cX8_readLine 55 = .ok (.aload_n 1, 1) := by decide +kernel
theorem dX8_readLine_56 : decode cX8_readLine 56 = .ok (.invokestatic 64, 3) := by decide +kernel
theorem dX8_readLine_59 : decode cX8_readLine 59 = .ok (.ireturn, 1) := by decide +kernel
theorem dX8_readLine_60 : decode cX8_readLine 60 = .ok (.aload_n 0, 1) := by decide +kernel
theorem dX8_readLine_61 : decode cX8_readLine 61 = .ok (.ldc 67, 2) := by decide +kernel
theorem dX8_readLine_63 : decode cX8_readLine 63 = .ok (.invokevirtual 45, 3) := by decide +kernel
theorem dX8_readLine_66 : decode cX8_readLine 66 = .ok (.ifCond .eq 9, 3) := by decide +kernel
theorem dX8_readLine_69 : decode cX8_readLine 69 = .ok (.aload_n 0, 1) := by decide +kernel
theorem dX8_readLine_70 : decode cX8_readLine 70 = .ok (.aload_n 1, 1) := by decide +kernel
theorem dX8_readLine_71 : decode cX8_readLine 71 = .ok (.invokestatic 69, 3) := by decide +kernel
theorem dX8_readLine_74 : decode cX8_readLine 74 = .ok (.ireturn, 1) := by decide +kernel
theorem dX8_readLine_75 : decode cX8_readLine 75 = .ok (.aload_n 0, 1) := by decide +kernel
theorem dX8_readLine_76 : decode cX8_readLine 76 = .ok (.iconst 1, 1) := by decide +kernel
theorem dX8_readLine_77 : decode cX8_readLine 77 = .ok (.invokevirtual 36, 3) := by decide +kernel
theorem dX8_readLine_80 : decode cX8_readLine 80 = .ok (.ireturn, 1) := by decide +kernel
theorem ct_X8_readLine : Cond.static yX8_readLine ∈ TW := TW_of 861 (by decide +kernel) (by decide +kernel)
abbrev cX8_read : ByteArray := prog_10_method_2_code
def yX8_read : MethodName := ⟨RX8, "read", "(LTranscriptCutter$Tokens;LTranscriptCutter$Recording;)Z"⟩
theorem dX8_read_0 : decode cX8_read 0 = .ok (.aload_n 1, 1) := by decide +kernel
theorem dX8_read_1 : decode cX8_read 1 = .ok (.invokevirtual 9, 3) := by decide +kernel
theorem dX8_read_4 : decode cX8_read 4 = .ok (.aload_n 0, 1) := by decide +kernel
theorem dX8_read_5 : decode cX8_read 5 = .ok (.invokevirtual 14, 3) := by decide +kernel
theorem dX8_read_8 : decode cX8_read 8 = .ok (.iconst 0, 1) := by decide +kernel
theorem dX8_read_9 : decode cX8_read 9 = .ok (.istore_n 2, 1) := by decide +kernel
theorem dX8_read_10 : decode cX8_read 10 = .ok (.iload_n 2, 1) := by decide +kernel
theorem dX8_read_11 : decode cX8_read 11 = .ok (.sipush 900, 3) := by decide +kernel
theorem dX8_read_14 : decode cX8_read 14 = .ok (.if_icmp .ge 35, 3) := by decide +kernel
theorem dX8_read_17 : decode cX8_read 17 = .ok (.aload_n 0, 1) := by decide +kernel
theorem dX8_read_18 : decode cX8_read 18 = .ok (.invokevirtual 19, 3) := by decide +kernel
theorem dX8_read_21 : decode cX8_read 21 = .ok (.ifCond .ne 28, 3) := by decide +kernel
theorem dX8_read_24 : decode cX8_read 24 = .ok (.aload_n 0, 1) := by decide +kernel
theorem dX8_read_25 : decode cX8_read 25 = .ok (.aload_n 1, 1) := by decide +kernel
theorem dX8_read_26 : decode cX8_read 26 = .ok (.invokestatic 23, 3) := by decide +kernel
theorem dX8_read_29 : decode cX8_read 29 = .ok (.ifCond .eq 12, 3) := by decide +kernel
theorem dX8_read_32 : decode cX8_read 32 = .ok (.aload_n 0, 1) := by decide +kernel
theorem dX8_read_33 : decode cX8_read 33 = .ok (.bipush 59, 2) := by decide +kernel
theorem dX8_read_35 : decode cX8_read 35 = .ok (.invokevirtual 29, 3) := by decide +kernel
theorem dX8_read_38 : decode cX8_read 38 = .ok (.ifCond .ne 5, 3) := by decide +kernel
theorem dX8_read_41 : decode cX8_read 41 = .ok (.iconst 0, 1) := by decide +kernel
theorem dX8_read_42 : decode cX8_read 42 = .ok (.ireturn, 1) := by decide +kernel
theorem dX8_read_43 : decode cX8_read 43 = .ok (.iinc 2 1, 3) := by decide +kernel
theorem dX8_read_46 : decode cX8_read 46 = .ok (.goto (-36), 3) := by decide +kernel
theorem dX8_read_49 : decode cX8_read 49 = .ok (.aload_n 1, 1) := by decide +kernel
theorem dX8_read_50 : decode cX8_read 50 = .ok (.invokevirtual 33, 3) := by decide +kernel
theorem dX8_read_53 : decode cX8_read 53 = .ok (.ifCond .ne 9, 3) := by decide +kernel
theorem dX8_read_56 : decode cX8_read 56 = .ok (.aload_n 0, 1) := by decide +kernel
theorem dX8_read_57 : decode cX8_read 57 = .ok (.iconst 2, 1) := by decide +kernel
theorem dX8_read_58 : decode cX8_read 58 = .ok (.invokevirtual 36, 3) := by decide +kernel
theorem dX8_read_61 : decode cX8_read 61 = .ok (.ireturn, 1) := by decide +kernel
theorem dX8_read_62 : decode cX8_read 62 = .ok (.aload_n 1, 1) := by decide +kernel
theorem dX8_read_63 : decode cX8_read 63 = .ok (.invokevirtual 40, 3) := by decide +kernel
theorem dX8_read_66 : decode cX8_read 66 = .ok (.iconst 1, 1) := by decide +kernel
theorem dX8_read_67 : decode cX8_read 67 = .ok (.ireturn, 1) := by decide +kernel
theorem ct_X8_read : Cond.static yX8_read ∈ TW := TW_of 841 (by decide +kernel) (by decide +kernel)
theorem cw_X8_36 : CWd RX8 36 yX9_fail cX9_fail 2 (some .boolean) 1 := ⟨TW_of 901 (by decide +kernel) (by decide +kernel), TW_of 896 (by decide +kernel) (by decide +kernel), TW_of 17 (by decide +kernel) (by decide +kernel), by decide +kernel⟩
theorem cw_X8_72 : CWd RX8 72 yX9_advance cX9_advance 2 none 0 := ⟨TW_of 887 (by decide +kernel) (by decide +kernel), TW_of 854 (by decide +kernel) (by decide +kernel), TW_of 17 (by decide +kernel) (by decide +kernel), by decide +kernel⟩
theorem mc_X8_75 : Cond.constant RX8 75 99999 ∈ TW := TW_of 888 (by decide +kernel) (by decide +kernel)
theorem cw_X8_76 : CWd RX8 76 yX9_numberHere cX9_numberHere 5 (some .int) 2 := ⟨TW_of 889 (by decide +kernel) (by decide +kernel), TW_of 892 (by decide +kernel) (by decide +kernel), TW_of 17 (by decide +kernel) (by decide +kernel), by decide +kernel⟩
theorem mc_X8_103 : Cond.constant RX8 103 99998 ∈ TW := TW_of 918 (by decide +kernel) (by decide +kernel)
theorem cw_X8_115 : CWd RX8 115 yX4_addBreath cX4_addBreath 3 none 2 := ⟨TW_of 935 (by decide +kernel) (by decide +kernel), TW_of 938 (by decide +kernel) (by decide +kernel), TW_of 19 (by decide +kernel) (by decide +kernel), by decide +kernel⟩
theorem cw_X8_88 : CWd RX8 88 yX9_nameHere cX9_nameHere 3 (some .int) 0 := ⟨TW_of 902 (by decide +kernel) (by decide +kernel), TW_of 905 (by decide +kernel) (by decide +kernel), TW_of 17 (by decide +kernel) (by decide +kernel), by decide +kernel⟩
theorem cw_X8_92 : CWd RX8 92 yX4_speakerNamed cX4_speakerNamed 3 (some .int) 1 := ⟨TW_of 906 (by decide +kernel) (by decide +kernel), TW_of 909 (by decide +kernel) (by decide +kernel), TW_of 19 (by decide +kernel) (by decide +kernel), by decide +kernel⟩
theorem cw_X8_96 : CWd RX8 96 yX4_addSpeaker cX4_addSpeaker 2 none 1 := ⟨TW_of 910 (by decide +kernel) (by decide +kernel), TW_of 913 (by decide +kernel) (by decide +kernel), TW_of 19 (by decide +kernel) (by decide +kernel), by decide +kernel⟩
theorem cw_X8_104 : CWd RX8 104 yX4_speaksBetween cX4_speaksBetween 5 (some .boolean) 3 := ⟨TW_of 919 (by decide +kernel) (by decide +kernel), TW_of 922 (by decide +kernel) (by decide +kernel), TW_of 19 (by decide +kernel) (by decide +kernel), by decide +kernel⟩
theorem cw_X8_108 : CWd RX8 108 yX4_addWord cX4_addWord 6 none 4 := ⟨TW_of 923 (by decide +kernel) (by decide +kernel), TW_of 926 (by decide +kernel) (by decide +kernel), TW_of 19 (by decide +kernel) (by decide +kernel), by decide +kernel⟩
theorem cw_X8_45 : CWd RX8 45 yX9_isKeyword cX9_isKeyword 3 (some .boolean) 1 := ⟨TW_of 864 (by decide +kernel) (by decide +kernel), TW_of 867 (by decide +kernel) (by decide +kernel), TW_of 17 (by decide +kernel) (by decide +kernel), by decide +kernel⟩
theorem cw_X8_49 : CWd RX8 49 yX8_readLength cX8_readLength 3 (some .boolean) 2 := ⟨TW_of 884 (by decide +kernel) (by decide +kernel), TW_of 886 (by decide +kernel) (by decide +kernel), TW_of 42 (by decide +kernel) (by decide +kernel), by decide +kernel⟩
theorem cw_X8_54 : CWd RX8 54 yX8_readSpeaker cX8_readSpeaker 3 (some .boolean) 2 := ⟨TW_of 898 (by decide +kernel) (by decide +kernel), TW_of 900 (by decide +kernel) (by decide +kernel), TW_of 42 (by decide +kernel) (by decide +kernel), by decide +kernel⟩
theorem cw_X8_59 : CWd RX8 59 yX8_readWord cX8_readWord 7 (some .boolean) 2 := ⟨TW_of 915 (by decide +kernel) (by decide +kernel), TW_of 917 (by decide +kernel) (by decide +kernel), TW_of 42 (by decide +kernel) (by decide +kernel), by decide +kernel⟩
theorem cw_X8_64 : CWd RX8 64 yX8_readBreath cX8_readBreath 4 (some .boolean) 2 := ⟨TW_of 932 (by decide +kernel) (by decide +kernel), TW_of 934 (by decide +kernel) (by decide +kernel), TW_of 42 (by decide +kernel) (by decide +kernel), by decide +kernel⟩
theorem cw_X8_69 : CWd RX8 69 yX8_readHandle cX8_readHandle 3 (some .boolean) 2 := ⟨TW_of 940 (by decide +kernel) (by decide +kernel), TW_of 942 (by decide +kernel) (by decide +kernel), TW_of 42 (by decide +kernel) (by decide +kernel), by decide +kernel⟩
theorem cw_X8_9 : CWd RX8 9 yX4_clear cX4_clear 1 none 0 := ⟨TW_of 843 (by decide +kernel) (by decide +kernel), TW_of 846 (by decide +kernel) (by decide +kernel), TW_of 19 (by decide +kernel) (by decide +kernel), by decide +kernel⟩
theorem cw_X8_14 : CWd RX8 14 yX9_begin cX9_begin 1 none 0 := ⟨TW_of 847 (by decide +kernel) (by decide +kernel), TW_of 850 (by decide +kernel) (by decide +kernel), TW_of 17 (by decide +kernel) (by decide +kernel), by decide +kernel⟩
theorem cw_X8_19 : CWd RX8 19 yX9_isEnd cX9_isEnd 1 (some .boolean) 0 := ⟨TW_of 856 (by decide +kernel) (by decide +kernel), TW_of 859 (by decide +kernel) (by decide +kernel), TW_of 17 (by decide +kernel) (by decide +kernel), by decide +kernel⟩
theorem cw_X8_23 : CWd RX8 23 yX8_readLine cX8_readLine 2 (some .boolean) 2 := ⟨TW_of 860 (by decide +kernel) (by decide +kernel), TW_of 862 (by decide +kernel) (by decide +kernel), TW_of 42 (by decide +kernel) (by decide +kernel), by decide +kernel⟩
theorem cw_X8_29 : CWd RX8 29 yX9_takeSign cX9_takeSign 2 (some .boolean) 1 := ⟨TW_of 943 (by decide +kernel) (by decide +kernel), TW_of 946 (by decide +kernel) (by decide +kernel), TW_of 17 (by decide +kernel) (by decide +kernel), by decide +kernel⟩
theorem cw_X8_33 : CWd RX8 33 yX4_holdsAllWords cX4_holdsAllWords 2 (some .boolean) 0 := ⟨TW_of 951 (by decide +kernel) (by decide +kernel), TW_of 954 (by decide +kernel) (by decide +kernel), TW_of 19 (by decide +kernel) (by decide +kernel), by decide +kernel⟩
theorem cw_X8_40 : CWd RX8 40 yX4_findBlocks cX4_findBlocks 3 none 0 := ⟨TW_of 955 (by decide +kernel) (by decide +kernel), TW_of 958 (by decide +kernel) (by decide +kernel), TW_of 19 (by decide +kernel) (by decide +kernel), by decide +kernel⟩
set_option maxRecDepth 20000 in
set_option maxHeartbeats 1000000 in
theorem c_X8_readBreath {l : Launch} {Z : ZT} {g : va_W} {h : Hp} {p1 : Nat} (hk_p1 : knd p1 = 4) {out : Int32 × Hp} (hf : f_X8_readBreath h p1 = some out) : Met l yX8_readBreath (wY yX8_readBreath cX8_readBreath 4 (some .boolean)) (rmD 2) (va_Pc [.ref (Z.1 1), .ref (Z.1 p1)] (Wd Z h g)) (va_Qi (fun r (_ : Unit) => r = out.1) (fun _ => Wd Z out.2 g) (FR Z)) 0 0 (FR Z) := by
  refine metX RX8 rfl (by decide +kernel) (Nat.le_of_ble_eq_true rfl) ?_
  intro p e s m args below meth c C hW ls hl
  have hl : lv_has ls 4 [(0, .ref (Z.1 1)), (1, .ref (Z.1 p1))] := hl
  unfold f_X8_readBreath at hf
  refine lv_aload_n C.1 C.2.1 dX8_readBreath_0 rfl (lv_at hl 1 rfl) ?_
  refine xg_X8_112 C hW hk_p1 dX8_readBreath_1 ?_
  refine lv_bipush (v := 12) C.1 C.2.1 dX8_readBreath_4 (by decide) ?_
  refine x_cmplt (tgt := 15) C hf dX8_readBreath_6 (by decide) (fun hf => ?_) (fun hf => ?_)
  · refine lv_aload_n C.1 C.2.1 dX8_readBreath_15 rfl (lv_at hl 0 rfl) ?_
    obtain ⟨u1, hcu1, hf⟩ := bnd_t hf
    refine x_callv hW (x_runV C hW hl (wk7 (k_1)) rfl rfl (c_X9_advance hcu1) (cw_X8_72) ci_X9_advance cs_X9_advance (rm_ok (by decide) (by decide)) ⟨Nat.le_refl _, Nat.le_refl _⟩ (As := []) rfl rfl (Nat.le_of_ble_eq_true rfl) dX8_readBreath_16) (fun H locs hW => ?_)
    refine lv_aload_n C.1 C.2.1 dX8_readBreath_19 rfl (lv_at hl 0 rfl) ?_
    refine lv_iconst (v := 0) C.1 C.2.1 dX8_readBreath_20 (by decide) ?_
    refine lv_ldc (v := 99998) C.1 C.2.1 C.2.2.2.1 (C.2.2.1 _ mc_X8_103) dX8_readBreath_21 ?_
    obtain ⟨u2, hcu2, hf⟩ := bnd_t hf
    refine x_calli hW (x_runV C hW hl (wk7 (k_1)) rfl rfl (c_X9_numberHere hcu2) (cw_X8_76) ci_X9_numberHere cs_X9_numberHere (rm_ok (by decide) (by decide)) ⟨Nat.le_refl _, Nat.le_refl _⟩ (As := [.int (0 : Int32), .int (99998 : Int32)]) rfl rfl (Nat.le_of_ble_eq_true rfl) dX8_readBreath_23) (fun H locs hW => ?_)
    refine lv_istore_n (lv' := [(2, .int u2.1), (0, .ref (Z.1 1)), (1, .ref (Z.1 p1))]) C.1 C.2.1 dX8_readBreath_26 rfl hl (by decide) rfl (fun ls hl => ?_)
    refine lv_iload_n C.1 C.2.1 dX8_readBreath_27 rfl (lv_at hl 0 rfl) ?_
    refine lv_iconst (v := -1) C.1 C.2.1 dX8_readBreath_28 (by decide) ?_
    refine x_cmpne (tgt := 34) C hf dX8_readBreath_29 (by decide) (fun hf => ?_) (fun hf => ?_)
    · refine lv_aload_n C.1 C.2.1 dX8_readBreath_34 rfl (lv_at hl 1 rfl) ?_
      obtain ⟨u3, hcu3, hf⟩ := bnd_t hf
      refine x_callv hW (x_runV C hW hl (wk7 (k_1)) rfl rfl (c_X9_advance hcu3) (cw_X8_72) ci_X9_advance cs_X9_advance (rm_ok (by decide) (by decide)) ⟨Nat.le_refl _, Nat.le_refl _⟩ (As := []) rfl rfl (Nat.le_of_ble_eq_true rfl) dX8_readBreath_35) (fun H locs hW => ?_)
      refine lv_aload_n C.1 C.2.1 dX8_readBreath_38 rfl (lv_at hl 1 rfl) ?_
      refine lv_iload_n C.1 C.2.1 dX8_readBreath_39 rfl (lv_at hl 0 rfl) ?_
      refine lv_iconst (v := 1) C.1 C.2.1 dX8_readBreath_40 (by decide) ?_
      refine lv_iadd C.1 C.2.1 dX8_readBreath_41 ?_
      refine lv_ldc (v := 99999) C.1 C.2.1 C.2.2.2.1 (C.2.2.1 _ mc_X8_75) dX8_readBreath_42 ?_
      obtain ⟨u4, hcu4, hf⟩ := bnd_t hf
      refine x_calli hW (x_runV C hW hl (wk7 (k_1)) rfl rfl (c_X9_numberHere hcu4) (cw_X8_76) ci_X9_numberHere cs_X9_numberHere (rm_ok (by decide) (by decide)) ⟨Nat.le_refl _, Nat.le_refl _⟩ (As := [.int (u2.1 + (1 : Int32)), .int (99999 : Int32)]) rfl rfl (Nat.le_of_ble_eq_true rfl) dX8_readBreath_44) (fun H locs hW => ?_)
      refine lv_istore_n (lv' := [(3, .int u4.1), (2, .int u2.1), (0, .ref (Z.1 1)), (1, .ref (Z.1 p1))]) C.1 C.2.1 dX8_readBreath_47 rfl hl (by decide) rfl (fun ls hl => ?_)
      refine lv_iload_n C.1 C.2.1 dX8_readBreath_48 rfl (lv_at hl 0 rfl) ?_
      refine lv_iconst (v := -1) C.1 C.2.1 dX8_readBreath_49 (by decide) ?_
      refine x_cmpne (tgt := 55) C hf dX8_readBreath_50 (by decide) (fun hf => ?_) (fun hf => ?_)
      · refine lv_aload_n C.1 C.2.1 dX8_readBreath_55 rfl (lv_at hl 2 rfl) ?_
        obtain ⟨u5, hcu5, hf⟩ := bnd_t hf
        refine x_callv hW (x_runV C hW hl (wk7 (k_1)) rfl rfl (c_X9_advance hcu5) (cw_X8_72) ci_X9_advance cs_X9_advance (rm_ok (by decide) (by decide)) ⟨Nat.le_refl _, Nat.le_refl _⟩ (As := []) rfl rfl (Nat.le_of_ble_eq_true rfl) dX8_readBreath_56) (fun H locs hW => ?_)
        refine lv_aload_n C.1 C.2.1 dX8_readBreath_59 rfl (lv_at hl 3 rfl) ?_
        refine lv_iload_n C.1 C.2.1 dX8_readBreath_60 rfl (lv_at hl 1 rfl) ?_
        refine lv_iload_n C.1 C.2.1 dX8_readBreath_61 rfl (lv_at hl 0 rfl) ?_
        obtain ⟨u6, hcu6, hf⟩ := bnd_t hf
        refine x_callv hW (x_runV C hW hl (wk4 hk_p1) rfl rfl (c_X4_addBreath hk_p1 hcu6) (cw_X8_115) ci_X4_addBreath cs_X4_addBreath (rm_ok (by decide) (by decide)) ⟨Nat.le_refl _, Nat.le_refl _⟩ (As := [.int u2.1, .int u4.1]) rfl rfl (Nat.le_of_ble_eq_true rfl) dX8_readBreath_62) (fun H locs hW => ?_)
        refine lv_iconst (v := 1) C.1 C.2.1 dX8_readBreath_65 (by decide) ?_
        obtain rfl := Option.some.inj hf
        exact x_zret C hW (by decide) dX8_readBreath_66 rfl
      · refine lv_iconst (v := 0) C.1 C.2.1 dX8_readBreath_53 (by decide) ?_
        obtain rfl := Option.some.inj hf
        exact x_zret C hW (by decide) dX8_readBreath_54 rfl
    · refine lv_iconst (v := 0) C.1 C.2.1 dX8_readBreath_32 (by decide) ?_
      obtain rfl := Option.some.inj hf
      exact x_zret C hW (by decide) dX8_readBreath_33 rfl
  · refine lv_aload_n C.1 C.2.1 dX8_readBreath_9 rfl (lv_at hl 0 rfl) ?_
    refine lv_iconst (v := 4) C.1 C.2.1 dX8_readBreath_10 (by decide) ?_
    obtain ⟨u7, hcu7, hf⟩ := bnd_t hf
    refine x_calli hW (x_runV C hW hl (wk7 (k_1)) rfl rfl (c_X9_fail hcu7) (cw_X8_36) ci_X9_fail cs_X9_fail (rm_ok (by decide) (by decide)) ⟨Nat.le_refl _, Nat.le_refl _⟩ (As := [.int (4 : Int32)]) rfl rfl (Nat.le_of_ble_eq_true rfl) dX8_readBreath_11) (fun H locs hW => ?_)
    obtain ⟨hz, hf⟩ := ck_t hf
    obtain rfl := Option.some.inj hf
    exact x_zret C hW hz dX8_readBreath_14 rfl
set_option maxRecDepth 20000 in
set_option maxHeartbeats 1000000 in
theorem c_X8_readHandle {l : Launch} {Z : ZT} {g : va_W} {h : Hp} {p1 : Nat} (hk_p1 : knd p1 = 4) {out : Int32 × Hp} (hf : f_X8_readHandle h p1 = some out) : Met l yX8_readHandle (wY yX8_readHandle cX8_readHandle 3 (some .boolean)) (rmD 2) (va_Pc [.ref (Z.1 1), .ref (Z.1 p1)] (Wd Z h g)) (va_Qi (fun r (_ : Unit) => r = out.1) (fun _ => Wd Z out.2 g) (FR Z)) 0 0 (FR Z) := by
  refine metX RX8 rfl (by decide +kernel) (Nat.le_of_ble_eq_true rfl) ?_
  intro p e s m args below meth c C hW ls hl
  have hl : lv_has ls 3 [(0, .ref (Z.1 1)), (1, .ref (Z.1 p1))] := hl
  unfold f_X8_readHandle at hf
  refine lv_aload_n C.1 C.2.1 dX8_readHandle_0 rfl (lv_at hl 0 rfl) ?_
  obtain ⟨u1, hcu1, hf⟩ := bnd_t hf
  refine x_callv hW (x_runV C hW hl (wk7 (k_1)) rfl rfl (c_X9_advance hcu1) (cw_X8_72) ci_X9_advance cs_X9_advance (rm_ok (by decide) (by decide)) ⟨Nat.le_refl _, Nat.le_refl _⟩ (As := []) rfl rfl (Nat.le_of_ble_eq_true rfl) dX8_readHandle_1) (fun H locs hW => ?_)
  refine lv_aload_n C.1 C.2.1 dX8_readHandle_4 rfl (lv_at hl 0 rfl) ?_
  refine lv_iconst (v := 0) C.1 C.2.1 dX8_readHandle_5 (by decide) ?_
  refine lv_sipush (v := 999) C.1 C.2.1 dX8_readHandle_6 (by decide) ?_
  obtain ⟨u2, hcu2, hf⟩ := bnd_t hf
  refine x_calli hW (x_runV C hW hl (wk7 (k_1)) rfl rfl (c_X9_numberHere hcu2) (cw_X8_76) ci_X9_numberHere cs_X9_numberHere (rm_ok (by decide) (by decide)) ⟨Nat.le_refl _, Nat.le_refl _⟩ (As := [.int (0 : Int32), .int (999 : Int32)]) rfl rfl (Nat.le_of_ble_eq_true rfl) dX8_readHandle_9) (fun H locs hW => ?_)
  refine lv_istore_n (lv' := [(2, .int u2.1), (0, .ref (Z.1 1)), (1, .ref (Z.1 p1))]) C.1 C.2.1 dX8_readHandle_12 rfl hl (by decide) rfl (fun ls hl => ?_)
  refine lv_iload_n C.1 C.2.1 dX8_readHandle_13 rfl (lv_at hl 0 rfl) ?_
  refine lv_iconst (v := -1) C.1 C.2.1 dX8_readHandle_14 (by decide) ?_
  refine x_cmpne (tgt := 20) C hf dX8_readHandle_15 (by decide) (fun hf => ?_) (fun hf => ?_)
  · refine lv_aload_n C.1 C.2.1 dX8_readHandle_20 rfl (lv_at hl 1 rfl) ?_
    obtain ⟨u3, hcu3, hf⟩ := bnd_t hf
    refine x_callv hW (x_runV C hW hl (wk7 (k_1)) rfl rfl (c_X9_advance hcu3) (cw_X8_72) ci_X9_advance cs_X9_advance (rm_ok (by decide) (by decide)) ⟨Nat.le_refl _, Nat.le_refl _⟩ (As := []) rfl rfl (Nat.le_of_ble_eq_true rfl) dX8_readHandle_21) (fun H locs hW => ?_)
    refine lv_aload_n C.1 C.2.1 dX8_readHandle_24 rfl (lv_at hl 2 rfl) ?_
    refine lv_iload_n C.1 C.2.1 dX8_readHandle_25 rfl (lv_at hl 0 rfl) ?_
    refine xp_X8_83 C hW hk_p1 hf dX8_readHandle_26 (fun h4 H locs hf hW => ?_)
    refine lv_iconst (v := 1) C.1 C.2.1 dX8_readHandle_29 (by decide) ?_
    obtain rfl := Option.some.inj hf
    exact x_zret C hW (by decide) dX8_readHandle_30 rfl
  · refine lv_iconst (v := 0) C.1 C.2.1 dX8_readHandle_18 (by decide) ?_
    obtain rfl := Option.some.inj hf
    exact x_zret C hW (by decide) dX8_readHandle_19 rfl
set_option maxRecDepth 20000 in
set_option maxHeartbeats 1000000 in
theorem c_X8_readLength {l : Launch} {Z : ZT} {g : va_W} {h : Hp} {p1 : Nat} (hk_p1 : knd p1 = 4) {out : Int32 × Hp} (hf : f_X8_readLength h p1 = some out) : Met l yX8_readLength (wY yX8_readLength cX8_readLength 3 (some .boolean)) (rmD 2) (va_Pc [.ref (Z.1 1), .ref (Z.1 p1)] (Wd Z h g)) (va_Qi (fun r (_ : Unit) => r = out.1) (fun _ => Wd Z out.2 g) (FR Z)) 0 0 (FR Z) := by
  refine metX RX8 rfl (by decide +kernel) (Nat.le_of_ble_eq_true rfl) ?_
  intro p e s m args below meth c C hW ls hl
  have hl : lv_has ls 3 [(0, .ref (Z.1 1)), (1, .ref (Z.1 p1))] := hl
  unfold f_X8_readLength at hf
  refine lv_aload_n C.1 C.2.1 dX8_readLength_0 rfl (lv_at hl 0 rfl) ?_
  obtain ⟨u1, hcu1, hf⟩ := bnd_t hf
  refine x_callv hW (x_runV C hW hl (wk7 (k_1)) rfl rfl (c_X9_advance hcu1) (cw_X8_72) ci_X9_advance cs_X9_advance (rm_ok (by decide) (by decide)) ⟨Nat.le_refl _, Nat.le_refl _⟩ (As := []) rfl rfl (Nat.le_of_ble_eq_true rfl) dX8_readLength_1) (fun H locs hW => ?_)
  refine lv_aload_n C.1 C.2.1 dX8_readLength_4 rfl (lv_at hl 0 rfl) ?_
  refine lv_iconst (v := 1) C.1 C.2.1 dX8_readLength_5 (by decide) ?_
  refine lv_ldc (v := 99999) C.1 C.2.1 C.2.2.2.1 (C.2.2.1 _ mc_X8_75) dX8_readLength_6 ?_
  obtain ⟨u2, hcu2, hf⟩ := bnd_t hf
  refine x_calli hW (x_runV C hW hl (wk7 (k_1)) rfl rfl (c_X9_numberHere hcu2) (cw_X8_76) ci_X9_numberHere cs_X9_numberHere (rm_ok (by decide) (by decide)) ⟨Nat.le_refl _, Nat.le_refl _⟩ (As := [.int (1 : Int32), .int (99999 : Int32)]) rfl rfl (Nat.le_of_ble_eq_true rfl) dX8_readLength_8) (fun H locs hW => ?_)
  refine lv_istore_n (lv' := [(2, .int u2.1), (0, .ref (Z.1 1)), (1, .ref (Z.1 p1))]) C.1 C.2.1 dX8_readLength_11 rfl hl (by decide) rfl (fun ls hl => ?_)
  refine lv_iload_n C.1 C.2.1 dX8_readLength_12 rfl (lv_at hl 0 rfl) ?_
  refine lv_iconst (v := -1) C.1 C.2.1 dX8_readLength_13 (by decide) ?_
  refine x_cmpne (tgt := 19) C hf dX8_readLength_14 (by decide) (fun hf => ?_) (fun hf => ?_)
  · refine lv_aload_n C.1 C.2.1 dX8_readLength_19 rfl (lv_at hl 1 rfl) ?_
    obtain ⟨u3, hcu3, hf⟩ := bnd_t hf
    refine x_callv hW (x_runV C hW hl (wk7 (k_1)) rfl rfl (c_X9_advance hcu3) (cw_X8_72) ci_X9_advance cs_X9_advance (rm_ok (by decide) (by decide)) ⟨Nat.le_refl _, Nat.le_refl _⟩ (As := []) rfl rfl (Nat.le_of_ble_eq_true rfl) dX8_readLength_20) (fun H locs hW => ?_)
    refine lv_aload_n C.1 C.2.1 dX8_readLength_23 rfl (lv_at hl 2 rfl) ?_
    refine lv_iload_n C.1 C.2.1 dX8_readLength_24 rfl (lv_at hl 0 rfl) ?_
    refine xp_X8_80 C hW hk_p1 hf dX8_readLength_25 (fun h4 H locs hf hW => ?_)
    refine lv_iconst (v := 1) C.1 C.2.1 dX8_readLength_28 (by decide) ?_
    obtain rfl := Option.some.inj hf
    exact x_zret C hW (by decide) dX8_readLength_29 rfl
  · refine lv_iconst (v := 0) C.1 C.2.1 dX8_readLength_17 (by decide) ?_
    obtain rfl := Option.some.inj hf
    exact x_zret C hW (by decide) dX8_readLength_18 rfl
set_option maxRecDepth 20000 in
set_option maxHeartbeats 1000000 in
theorem c_X8_readSpeaker {l : Launch} {Z : ZT} {g : va_W} {h : Hp} {p1 : Nat} (hk_p1 : knd p1 = 4) {out : Int32 × Hp} (hf : f_X8_readSpeaker h p1 = some out) : Met l yX8_readSpeaker (wY yX8_readSpeaker cX8_readSpeaker 3 (some .boolean)) (rmD 2) (va_Pc [.ref (Z.1 1), .ref (Z.1 p1)] (Wd Z h g)) (va_Qi (fun r (_ : Unit) => r = out.1) (fun _ => Wd Z out.2 g) (FR Z)) 0 0 (FR Z) := by
  refine metX RX8 rfl (by decide +kernel) (Nat.le_of_ble_eq_true rfl) ?_
  intro p e s m args below meth c C hW ls hl
  have hl : lv_has ls 3 [(0, .ref (Z.1 1)), (1, .ref (Z.1 p1))] := hl
  unfold f_X8_readSpeaker at hf
  refine lv_aload_n C.1 C.2.1 dX8_readSpeaker_0 rfl (lv_at hl 1 rfl) ?_
  refine xg_X8_85 C hW hk_p1 dX8_readSpeaker_1 ?_
  refine lv_iconst (v := 4) C.1 C.2.1 dX8_readSpeaker_4 (by decide) ?_
  refine x_cmplt (tgt := 14) C hf dX8_readSpeaker_5 (by decide) (fun hf => ?_) (fun hf => ?_)
  · refine lv_aload_n C.1 C.2.1 dX8_readSpeaker_14 rfl (lv_at hl 0 rfl) ?_
    obtain ⟨u1, hcu1, hf⟩ := bnd_t hf
    refine x_callv hW (x_runV C hW hl (wk7 (k_1)) rfl rfl (c_X9_advance hcu1) (cw_X8_72) ci_X9_advance cs_X9_advance (rm_ok (by decide) (by decide)) ⟨Nat.le_refl _, Nat.le_refl _⟩ (As := []) rfl rfl (Nat.le_of_ble_eq_true rfl) dX8_readSpeaker_15) (fun H locs hW => ?_)
    refine lv_aload_n C.1 C.2.1 dX8_readSpeaker_18 rfl (lv_at hl 0 rfl) ?_
    obtain ⟨u2, hcu2, hf⟩ := bnd_t hf
    refine x_calli hW (x_runV C hW hl (wk7 (k_1)) rfl rfl (c_X9_nameHere hcu2) (cw_X8_88) ci_X9_nameHere cs_X9_nameHere (rm_ok (by decide) (by decide)) ⟨Nat.le_refl _, Nat.le_refl _⟩ (As := []) rfl rfl (Nat.le_of_ble_eq_true rfl) dX8_readSpeaker_19) (fun H locs hW => ?_)
    refine lv_istore_n (lv' := [(2, .int u2.1), (0, .ref (Z.1 1)), (1, .ref (Z.1 p1))]) C.1 C.2.1 dX8_readSpeaker_22 rfl hl (by decide) rfl (fun ls hl => ?_)
    refine lv_iload_n C.1 C.2.1 dX8_readSpeaker_23 rfl (lv_at hl 0 rfl) ?_
    refine lv_iconst (v := -1) C.1 C.2.1 dX8_readSpeaker_24 (by decide) ?_
    refine x_cmpne (tgt := 30) C hf dX8_readSpeaker_25 (by decide) (fun hf => ?_) (fun hf => ?_)
    · refine lv_aload_n C.1 C.2.1 dX8_readSpeaker_30 rfl (lv_at hl 2 rfl) ?_
      refine lv_iload_n C.1 C.2.1 dX8_readSpeaker_31 rfl (lv_at hl 0 rfl) ?_
      obtain ⟨u3, hcu3, hf⟩ := bnd_t hf
      refine x_calli hW (x_runV C hW hl (wk4 hk_p1) rfl rfl (c_X4_speakerNamed hk_p1 hcu3) (cw_X8_92) ci_X4_speakerNamed cs_X4_speakerNamed (rm_ok (by decide) (by decide)) ⟨Nat.le_refl _, Nat.le_refl _⟩ (As := [.int u2.1]) rfl rfl (Nat.le_of_ble_eq_true rfl) dX8_readSpeaker_32) (fun H locs hW => ?_)
      refine lv_iconst (v := -1) C.1 C.2.1 dX8_readSpeaker_35 (by decide) ?_
      refine x_cmpeq (tgt := 45) C hf dX8_readSpeaker_36 (by decide) (fun hf => ?_) (fun hf => ?_)
      · refine lv_aload_n C.1 C.2.1 dX8_readSpeaker_45 rfl (lv_at hl 1 rfl) ?_
        obtain ⟨u4, hcu4, hf⟩ := bnd_t hf
        refine x_callv hW (x_runV C hW hl (wk7 (k_1)) rfl rfl (c_X9_advance hcu4) (cw_X8_72) ci_X9_advance cs_X9_advance (rm_ok (by decide) (by decide)) ⟨Nat.le_refl _, Nat.le_refl _⟩ (As := []) rfl rfl (Nat.le_of_ble_eq_true rfl) dX8_readSpeaker_46) (fun H locs hW => ?_)
        refine lv_aload_n C.1 C.2.1 dX8_readSpeaker_49 rfl (lv_at hl 2 rfl) ?_
        refine lv_iload_n C.1 C.2.1 dX8_readSpeaker_50 rfl (lv_at hl 0 rfl) ?_
        obtain ⟨u5, hcu5, hf⟩ := bnd_t hf
        refine x_callv hW (x_runV C hW hl (wk4 hk_p1) rfl rfl (c_X4_addSpeaker hk_p1 hcu5) (cw_X8_96) ci_X4_addSpeaker cs_X4_addSpeaker (rm_ok (by decide) (by decide)) ⟨Nat.le_refl _, Nat.le_refl _⟩ (As := [.int u2.1]) rfl rfl (Nat.le_of_ble_eq_true rfl) dX8_readSpeaker_51) (fun H locs hW => ?_)
        refine lv_iconst (v := 1) C.1 C.2.1 dX8_readSpeaker_54 (by decide) ?_
        obtain rfl := Option.some.inj hf
        exact x_zret C hW (by decide) dX8_readSpeaker_55 rfl
      · refine lv_aload_n C.1 C.2.1 dX8_readSpeaker_39 rfl (lv_at hl 1 rfl) ?_
        refine lv_iconst (v := 3) C.1 C.2.1 dX8_readSpeaker_40 (by decide) ?_
        obtain ⟨u6, hcu6, hf⟩ := bnd_t hf
        refine x_calli hW (x_runV C hW hl (wk7 (k_1)) rfl rfl (c_X9_fail hcu6) (cw_X8_36) ci_X9_fail cs_X9_fail (rm_ok (by decide) (by decide)) ⟨Nat.le_refl _, Nat.le_refl _⟩ (As := [.int (3 : Int32)]) rfl rfl (Nat.le_of_ble_eq_true rfl) dX8_readSpeaker_41) (fun H locs hW => ?_)
        obtain ⟨hz, hf⟩ := ck_t hf
        obtain rfl := Option.some.inj hf
        exact x_zret C hW hz dX8_readSpeaker_44 rfl
    · refine lv_iconst (v := 0) C.1 C.2.1 dX8_readSpeaker_28 (by decide) ?_
      obtain rfl := Option.some.inj hf
      exact x_zret C hW (by decide) dX8_readSpeaker_29 rfl
  · refine lv_aload_n C.1 C.2.1 dX8_readSpeaker_8 rfl (lv_at hl 0 rfl) ?_
    refine lv_iconst (v := 4) C.1 C.2.1 dX8_readSpeaker_9 (by decide) ?_
    obtain ⟨u7, hcu7, hf⟩ := bnd_t hf
    refine x_calli hW (x_runV C hW hl (wk7 (k_1)) rfl rfl (c_X9_fail hcu7) (cw_X8_36) ci_X9_fail cs_X9_fail (rm_ok (by decide) (by decide)) ⟨Nat.le_refl _, Nat.le_refl _⟩ (As := [.int (4 : Int32)]) rfl rfl (Nat.le_of_ble_eq_true rfl) dX8_readSpeaker_10) (fun H locs hW => ?_)
    obtain ⟨hz, hf⟩ := ck_t hf
    obtain rfl := Option.some.inj hf
    exact x_zret C hW hz dX8_readSpeaker_13 rfl
set_option maxRecDepth 20000 in
set_option maxHeartbeats 1000000 in
theorem c_X8_readWord {l : Launch} {Z : ZT} {g : va_W} {h : Hp} {p1 : Nat} (hk_p1 : knd p1 = 4) {out : Int32 × Hp} (hf : f_X8_readWord h p1 = some out) : Met l yX8_readWord (wY yX8_readWord cX8_readWord 7 (some .boolean)) (rmD 2) (va_Pc [.ref (Z.1 1), .ref (Z.1 p1)] (Wd Z h g)) (va_Qi (fun r (_ : Unit) => r = out.1) (fun _ => Wd Z out.2 g) (FR Z)) 0 0 (FR Z) := by
  refine metX RX8 rfl (by decide +kernel) (Nat.le_of_ble_eq_true rfl) ?_
  intro p e s m args below meth c C hW ls hl
  have hl : lv_has ls 7 [(0, .ref (Z.1 1)), (1, .ref (Z.1 p1))] := hl
  unfold f_X8_readWord at hf
  refine lv_aload_n C.1 C.2.1 dX8_readWord_0 rfl (lv_at hl 1 rfl) ?_
  refine xg_X8_100 C hW hk_p1 dX8_readWord_1 ?_
  refine lv_bipush (v := 40) C.1 C.2.1 dX8_readWord_4 (by decide) ?_
  refine x_cmplt (tgt := 15) C hf dX8_readWord_6 (by decide) (fun hf => ?_) (fun hf => ?_)
  · refine lv_aload_n C.1 C.2.1 dX8_readWord_15 rfl (lv_at hl 0 rfl) ?_
    obtain ⟨u1, hcu1, hf⟩ := bnd_t hf
    refine x_callv hW (x_runV C hW hl (wk7 (k_1)) rfl rfl (c_X9_advance hcu1) (cw_X8_72) ci_X9_advance cs_X9_advance (rm_ok (by decide) (by decide)) ⟨Nat.le_refl _, Nat.le_refl _⟩ (As := []) rfl rfl (Nat.le_of_ble_eq_true rfl) dX8_readWord_16) (fun H locs hW => ?_)
    refine lv_aload_n C.1 C.2.1 dX8_readWord_19 rfl (lv_at hl 0 rfl) ?_
    obtain ⟨u2, hcu2, hf⟩ := bnd_t hf
    refine x_calli hW (x_runV C hW hl (wk7 (k_1)) rfl rfl (c_X9_nameHere hcu2) (cw_X8_88) ci_X9_nameHere cs_X9_nameHere (rm_ok (by decide) (by decide)) ⟨Nat.le_refl _, Nat.le_refl _⟩ (As := []) rfl rfl (Nat.le_of_ble_eq_true rfl) dX8_readWord_20) (fun H locs hW => ?_)
    refine lv_istore_n (lv' := [(2, .int u2.1), (0, .ref (Z.1 1)), (1, .ref (Z.1 p1))]) C.1 C.2.1 dX8_readWord_23 rfl hl (by decide) rfl (fun ls hl => ?_)
    refine lv_iload_n C.1 C.2.1 dX8_readWord_24 rfl (lv_at hl 0 rfl) ?_
    refine lv_iconst (v := -1) C.1 C.2.1 dX8_readWord_25 (by decide) ?_
    refine x_cmpne (tgt := 31) C hf dX8_readWord_26 (by decide) (fun hf => ?_) (fun hf => ?_)
    · refine lv_aload_n C.1 C.2.1 dX8_readWord_31 rfl (lv_at hl 2 rfl) ?_
      refine lv_iload_n C.1 C.2.1 dX8_readWord_32 rfl (lv_at hl 0 rfl) ?_
      obtain ⟨u3, hcu3, hf⟩ := bnd_t hf
      refine x_calli hW (x_runV C hW hl (wk4 hk_p1) rfl rfl (c_X4_speakerNamed hk_p1 hcu3) (cw_X8_92) ci_X4_speakerNamed cs_X4_speakerNamed (rm_ok (by decide) (by decide)) ⟨Nat.le_refl _, Nat.le_refl _⟩ (As := [.int u2.1]) rfl rfl (Nat.le_of_ble_eq_true rfl) dX8_readWord_33) (fun H locs hW => ?_)
      refine lv_istore_n (lv' := [(3, .int u3), (2, .int u2.1), (0, .ref (Z.1 1)), (1, .ref (Z.1 p1))]) C.1 C.2.1 dX8_readWord_36 rfl hl (by decide) rfl (fun ls hl => ?_)
      refine lv_iload_n C.1 C.2.1 dX8_readWord_37 rfl (lv_at hl 0 rfl) ?_
      refine lv_iconst (v := -1) C.1 C.2.1 dX8_readWord_38 (by decide) ?_
      refine x_cmpne (tgt := 48) C hf dX8_readWord_39 (by decide) (fun hf => ?_) (fun hf => ?_)
      · refine lv_aload_n C.1 C.2.1 dX8_readWord_48 rfl (lv_at hl 2 rfl) ?_
        obtain ⟨u4, hcu4, hf⟩ := bnd_t hf
        refine x_callv hW (x_runV C hW hl (wk7 (k_1)) rfl rfl (c_X9_advance hcu4) (cw_X8_72) ci_X9_advance cs_X9_advance (rm_ok (by decide) (by decide)) ⟨Nat.le_refl _, Nat.le_refl _⟩ (As := []) rfl rfl (Nat.le_of_ble_eq_true rfl) dX8_readWord_49) (fun H locs hW => ?_)
        refine lv_aload_n C.1 C.2.1 dX8_readWord_52 rfl (lv_at hl 2 rfl) ?_
        obtain ⟨u5, hcu5, hf⟩ := bnd_t hf
        refine x_calli hW (x_runV C hW hl (wk7 (k_1)) rfl rfl (c_X9_nameHere hcu5) (cw_X8_88) ci_X9_nameHere cs_X9_nameHere (rm_ok (by decide) (by decide)) ⟨Nat.le_refl _, Nat.le_refl _⟩ (As := []) rfl rfl (Nat.le_of_ble_eq_true rfl) dX8_readWord_53) (fun H locs hW => ?_)
        refine lv_istore (lv' := [(4, .int u5.1), (3, .int u3), (2, .int u2.1), (0, .ref (Z.1 1)), (1, .ref (Z.1 p1))]) C.1 C.2.1 dX8_readWord_56 hl (by decide) rfl (fun ls hl => ?_)
        refine lv_iload C.1 C.2.1 dX8_readWord_58 (lv_at hl 0 rfl) ?_
        refine lv_iconst (v := -1) C.1 C.2.1 dX8_readWord_60 (by decide) ?_
        refine x_cmpne (tgt := 66) C hf dX8_readWord_61 (by decide) (fun hf => ?_) (fun hf => ?_)
        · refine lv_aload_n C.1 C.2.1 dX8_readWord_66 rfl (lv_at hl 3 rfl) ?_
          obtain ⟨u6, hcu6, hf⟩ := bnd_t hf
          refine x_callv hW (x_runV C hW hl (wk7 (k_1)) rfl rfl (c_X9_advance hcu6) (cw_X8_72) ci_X9_advance cs_X9_advance (rm_ok (by decide) (by decide)) ⟨Nat.le_refl _, Nat.le_refl _⟩ (As := []) rfl rfl (Nat.le_of_ble_eq_true rfl) dX8_readWord_67) (fun H locs hW => ?_)
          refine lv_aload_n C.1 C.2.1 dX8_readWord_70 rfl (lv_at hl 3 rfl) ?_
          refine lv_iconst (v := 0) C.1 C.2.1 dX8_readWord_71 (by decide) ?_
          refine lv_ldc (v := 99998) C.1 C.2.1 C.2.2.2.1 (C.2.2.1 _ mc_X8_103) dX8_readWord_72 ?_
          obtain ⟨u7, hcu7, hf⟩ := bnd_t hf
          refine x_calli hW (x_runV C hW hl (wk7 (k_1)) rfl rfl (c_X9_numberHere hcu7) (cw_X8_76) ci_X9_numberHere cs_X9_numberHere (rm_ok (by decide) (by decide)) ⟨Nat.le_refl _, Nat.le_refl _⟩ (As := [.int (0 : Int32), .int (99998 : Int32)]) rfl rfl (Nat.le_of_ble_eq_true rfl) dX8_readWord_74) (fun H locs hW => ?_)
          refine lv_istore (lv' := [(5, .int u7.1), (4, .int u5.1), (3, .int u3), (2, .int u2.1), (0, .ref (Z.1 1)), (1, .ref (Z.1 p1))]) C.1 C.2.1 dX8_readWord_77 hl (by decide) rfl (fun ls hl => ?_)
          refine lv_iload C.1 C.2.1 dX8_readWord_79 (lv_at hl 0 rfl) ?_
          refine lv_iconst (v := -1) C.1 C.2.1 dX8_readWord_81 (by decide) ?_
          refine x_cmpne (tgt := 87) C hf dX8_readWord_82 (by decide) (fun hf => ?_) (fun hf => ?_)
          · refine lv_aload_n C.1 C.2.1 dX8_readWord_87 rfl (lv_at hl 5 rfl) ?_
            refine lv_iload_n C.1 C.2.1 dX8_readWord_88 rfl (lv_at hl 2 rfl) ?_
            refine lv_iload C.1 C.2.1 dX8_readWord_89 (lv_at hl 0 rfl) ?_
            refine lv_iload C.1 C.2.1 dX8_readWord_91 (lv_at hl 0 rfl) ?_
            refine lv_iconst (v := 1) C.1 C.2.1 dX8_readWord_93 (by decide) ?_
            refine lv_iadd C.1 C.2.1 dX8_readWord_94 ?_
            obtain ⟨u8, hcu8, hf⟩ := bnd_t hf
            refine x_calli hW (x_runV C hW hl (wk4 hk_p1) rfl rfl (c_X4_speaksBetween hk_p1 hcu8) (cw_X8_104) ci_X4_speaksBetween cs_X4_speaksBetween (rm_ok (by decide) (by decide)) ⟨Nat.le_refl _, Nat.le_refl _⟩ (As := [.int u3, .int u7.1, .int (u7.1 + (1 : Int32))]) rfl rfl (Nat.le_of_ble_eq_true rfl) dX8_readWord_95) (fun H locs hW => ?_)
            refine x_ifeq (tgt := 107) C hf dX8_readWord_98 (by decide) (fun hf => ?_) (fun hf => ?_)
            · refine lv_aload_n C.1 C.2.1 dX8_readWord_107 rfl (lv_at hl 4 rfl) ?_
              obtain ⟨u9, hcu9, hf⟩ := bnd_t hf
              refine x_callv hW (x_runV C hW hl (wk7 (k_1)) rfl rfl (c_X9_advance hcu9) (cw_X8_72) ci_X9_advance cs_X9_advance (rm_ok (by decide) (by decide)) ⟨Nat.le_refl _, Nat.le_refl _⟩ (As := []) rfl rfl (Nat.le_of_ble_eq_true rfl) dX8_readWord_108) (fun H locs hW => ?_)
              refine lv_aload_n C.1 C.2.1 dX8_readWord_111 rfl (lv_at hl 4 rfl) ?_
              refine lv_iload C.1 C.2.1 dX8_readWord_112 (lv_at hl 0 rfl) ?_
              refine lv_iconst (v := 1) C.1 C.2.1 dX8_readWord_114 (by decide) ?_
              refine lv_iadd C.1 C.2.1 dX8_readWord_115 ?_
              refine lv_ldc (v := 99999) C.1 C.2.1 C.2.2.2.1 (C.2.2.1 _ mc_X8_75) dX8_readWord_116 ?_
              obtain ⟨u10, hcu10, hf⟩ := bnd_t hf
              refine x_calli hW (x_runV C hW hl (wk7 (k_1)) rfl rfl (c_X9_numberHere hcu10) (cw_X8_76) ci_X9_numberHere cs_X9_numberHere (rm_ok (by decide) (by decide)) ⟨Nat.le_refl _, Nat.le_refl _⟩ (As := [.int (u7.1 + (1 : Int32)), .int (99999 : Int32)]) rfl rfl (Nat.le_of_ble_eq_true rfl) dX8_readWord_118) (fun H locs hW => ?_)
              refine lv_istore (lv' := [(6, .int u10.1), (5, .int u7.1), (4, .int u5.1), (3, .int u3), (2, .int u2.1), (0, .ref (Z.1 1)), (1, .ref (Z.1 p1))]) C.1 C.2.1 dX8_readWord_121 hl (by decide) rfl (fun ls hl => ?_)
              refine lv_iload C.1 C.2.1 dX8_readWord_123 (lv_at hl 0 rfl) ?_
              refine lv_iconst (v := -1) C.1 C.2.1 dX8_readWord_125 (by decide) ?_
              refine x_cmpne (tgt := 131) C hf dX8_readWord_126 (by decide) (fun hf => ?_) (fun hf => ?_)
              · refine lv_aload_n C.1 C.2.1 dX8_readWord_131 rfl (lv_at hl 6 rfl) ?_
                refine lv_iload_n C.1 C.2.1 dX8_readWord_132 rfl (lv_at hl 3 rfl) ?_
                refine lv_iload C.1 C.2.1 dX8_readWord_133 (lv_at hl 1 rfl) ?_
                refine lv_iload C.1 C.2.1 dX8_readWord_135 (lv_at hl 0 rfl) ?_
                obtain ⟨u11, hcu11, hf⟩ := bnd_t hf
                refine x_calli hW (x_runV C hW hl (wk4 hk_p1) rfl rfl (c_X4_speaksBetween hk_p1 hcu11) (cw_X8_104) ci_X4_speaksBetween cs_X4_speaksBetween (rm_ok (by decide) (by decide)) ⟨Nat.le_refl _, Nat.le_refl _⟩ (As := [.int u3, .int u7.1, .int u10.1]) rfl rfl (Nat.le_of_ble_eq_true rfl) dX8_readWord_137) (fun H locs hW => ?_)
                refine x_ifeq (tgt := 149) C hf dX8_readWord_140 (by decide) (fun hf => ?_) (fun hf => ?_)
                · refine lv_aload_n C.1 C.2.1 dX8_readWord_149 rfl (lv_at hl 5 rfl) ?_
                  obtain ⟨u12, hcu12, hf⟩ := bnd_t hf
                  refine x_callv hW (x_runV C hW hl (wk7 (k_1)) rfl rfl (c_X9_advance hcu12) (cw_X8_72) ci_X9_advance cs_X9_advance (rm_ok (by decide) (by decide)) ⟨Nat.le_refl _, Nat.le_refl _⟩ (As := []) rfl rfl (Nat.le_of_ble_eq_true rfl) dX8_readWord_150) (fun H locs hW => ?_)
                  refine lv_aload_n C.1 C.2.1 dX8_readWord_153 rfl (lv_at hl 6 rfl) ?_
                  refine lv_iload C.1 C.2.1 dX8_readWord_154 (lv_at hl 2 rfl) ?_
                  refine lv_iload_n C.1 C.2.1 dX8_readWord_156 rfl (lv_at hl 3 rfl) ?_
                  refine lv_iload C.1 C.2.1 dX8_readWord_157 (lv_at hl 1 rfl) ?_
                  refine lv_iload C.1 C.2.1 dX8_readWord_159 (lv_at hl 0 rfl) ?_
                  obtain ⟨u13, hcu13, hf⟩ := bnd_t hf
                  refine x_callv hW (x_runV C hW hl (wk4 hk_p1) rfl rfl (c_X4_addWord hk_p1 hcu13) (cw_X8_108) ci_X4_addWord cs_X4_addWord (rm_ok (by decide) (by decide)) ⟨Nat.le_refl _, Nat.le_refl _⟩ (As := [.int u5.1, .int u3, .int u7.1, .int u10.1]) rfl rfl (Nat.le_of_ble_eq_true rfl) dX8_readWord_161) (fun H locs hW => ?_)
                  refine lv_iconst (v := 1) C.1 C.2.1 dX8_readWord_164 (by decide) ?_
                  obtain rfl := Option.some.inj hf
                  exact x_zret C hW (by decide) dX8_readWord_165 rfl
                · refine lv_aload_n C.1 C.2.1 dX8_readWord_143 rfl (lv_at hl 5 rfl) ?_
                  refine lv_iconst (v := 2) C.1 C.2.1 dX8_readWord_144 (by decide) ?_
                  obtain ⟨u14, hcu14, hf⟩ := bnd_t hf
                  refine x_calli hW (x_runV C hW hl (wk7 (k_1)) rfl rfl (c_X9_fail hcu14) (cw_X8_36) ci_X9_fail cs_X9_fail (rm_ok (by decide) (by decide)) ⟨Nat.le_refl _, Nat.le_refl _⟩ (As := [.int (2 : Int32)]) rfl rfl (Nat.le_of_ble_eq_true rfl) dX8_readWord_145) (fun H locs hW => ?_)
                  obtain ⟨hz, hf⟩ := ck_t hf
                  obtain rfl := Option.some.inj hf
                  exact x_zret C hW hz dX8_readWord_148 rfl
              · refine lv_iconst (v := 0) C.1 C.2.1 dX8_readWord_129 (by decide) ?_
                obtain rfl := Option.some.inj hf
                exact x_zret C hW (by decide) dX8_readWord_130 rfl
            · refine lv_aload_n C.1 C.2.1 dX8_readWord_101 rfl (lv_at hl 4 rfl) ?_
              refine lv_iconst (v := 2) C.1 C.2.1 dX8_readWord_102 (by decide) ?_
              obtain ⟨u15, hcu15, hf⟩ := bnd_t hf
              refine x_calli hW (x_runV C hW hl (wk7 (k_1)) rfl rfl (c_X9_fail hcu15) (cw_X8_36) ci_X9_fail cs_X9_fail (rm_ok (by decide) (by decide)) ⟨Nat.le_refl _, Nat.le_refl _⟩ (As := [.int (2 : Int32)]) rfl rfl (Nat.le_of_ble_eq_true rfl) dX8_readWord_103) (fun H locs hW => ?_)
              obtain ⟨hz, hf⟩ := ck_t hf
              obtain rfl := Option.some.inj hf
              exact x_zret C hW hz dX8_readWord_106 rfl
          · refine lv_iconst (v := 0) C.1 C.2.1 dX8_readWord_85 (by decide) ?_
            obtain rfl := Option.some.inj hf
            exact x_zret C hW (by decide) dX8_readWord_86 rfl
        · refine lv_iconst (v := 0) C.1 C.2.1 dX8_readWord_64 (by decide) ?_
          obtain rfl := Option.some.inj hf
          exact x_zret C hW (by decide) dX8_readWord_65 rfl
      · refine lv_aload_n C.1 C.2.1 dX8_readWord_42 rfl (lv_at hl 2 rfl) ?_
        refine lv_iconst (v := 3) C.1 C.2.1 dX8_readWord_43 (by decide) ?_
        obtain ⟨u16, hcu16, hf⟩ := bnd_t hf
        refine x_calli hW (x_runV C hW hl (wk7 (k_1)) rfl rfl (c_X9_fail hcu16) (cw_X8_36) ci_X9_fail cs_X9_fail (rm_ok (by decide) (by decide)) ⟨Nat.le_refl _, Nat.le_refl _⟩ (As := [.int (3 : Int32)]) rfl rfl (Nat.le_of_ble_eq_true rfl) dX8_readWord_44) (fun H locs hW => ?_)
        obtain ⟨hz, hf⟩ := ck_t hf
        obtain rfl := Option.some.inj hf
        exact x_zret C hW hz dX8_readWord_47 rfl
    · refine lv_iconst (v := 0) C.1 C.2.1 dX8_readWord_29 (by decide) ?_
      obtain rfl := Option.some.inj hf
      exact x_zret C hW (by decide) dX8_readWord_30 rfl
  · refine lv_aload_n C.1 C.2.1 dX8_readWord_9 rfl (lv_at hl 0 rfl) ?_
    refine lv_iconst (v := 4) C.1 C.2.1 dX8_readWord_10 (by decide) ?_
    obtain ⟨u17, hcu17, hf⟩ := bnd_t hf
    refine x_calli hW (x_runV C hW hl (wk7 (k_1)) rfl rfl (c_X9_fail hcu17) (cw_X8_36) ci_X9_fail cs_X9_fail (rm_ok (by decide) (by decide)) ⟨Nat.le_refl _, Nat.le_refl _⟩ (As := [.int (4 : Int32)]) rfl rfl (Nat.le_of_ble_eq_true rfl) dX8_readWord_11) (fun H locs hW => ?_)
    obtain ⟨hz, hf⟩ := ck_t hf
    obtain rfl := Option.some.inj hf
    exact x_zret C hW hz dX8_readWord_14 rfl
set_option maxRecDepth 20000 in
set_option maxHeartbeats 1000000 in
theorem c_X8_readLine {l : Launch} {Z : ZT} {g : va_W} {h : Hp} {p1 : Nat} (hk_p1 : knd p1 = 4) {out : Int32 × Hp} (hf : f_X8_readLine h p1 = some out) : Met l yX8_readLine (wY yX8_readLine cX8_readLine 2 (some .boolean)) (rmD 9) (va_Pc [.ref (Z.1 1), .ref (Z.1 p1)] (Wd Z h g)) (va_Qi (fun r (_ : Unit) => r = out.1) (fun _ => Wd Z out.2 g) (FR Z)) 0 0 (FR Z) := by
  refine metX RX8 rfl (by decide +kernel) (Nat.le_of_ble_eq_true rfl) ?_
  intro p e s m args below meth c C hW ls hl
  have hl : lv_has ls 2 [(0, .ref (Z.1 1)), (1, .ref (Z.1 p1))] := hl
  unfold f_X8_readLine at hf
  refine lv_aload_n C.1 C.2.1 dX8_readLine_0 rfl (lv_at hl 0 rfl) ?_
  refine x_ldcS C ms_X8_43 dX8_readLine_1 ?_
  obtain ⟨u1, hcu1, hf⟩ := bnd_t hf
  refine x_calli hW (x_runV C hW hl (wk7 (k_1)) rfl rfl (c_X9_isKeyword (by decide) hcu1) (cw_X8_45) ci_X9_isKeyword cs_X9_isKeyword (rm_ok (by decide) (by decide)) ⟨Nat.le_refl _, Nat.le_refl _⟩ (As := [.ref (Z.2.2.2.2 (2 * 2))]) rfl rfl (Nat.le_of_ble_eq_true rfl) dX8_readLine_3) (fun H locs hW => ?_)
  refine x_ifeq (tgt := 15) C hf dX8_readLine_6 (by decide) (fun hf => ?_) (fun hf => ?_)
  · refine lv_aload_n C.1 C.2.1 dX8_readLine_15 rfl (lv_at hl 0 rfl) ?_
    refine x_ldcS C ms_X8_52 dX8_readLine_16 ?_
    obtain ⟨u2, hcu2, hf⟩ := bnd_t hf
    refine x_calli hW (x_runV C hW hl (wk7 (k_1)) rfl rfl (c_X9_isKeyword (by decide) hcu2) (cw_X8_45) ci_X9_isKeyword cs_X9_isKeyword (rm_ok (by decide) (by decide)) ⟨Nat.le_refl _, Nat.le_refl _⟩ (As := [.ref (Z.2.2.2.2 (2 * 3))]) rfl rfl (Nat.le_of_ble_eq_true rfl) dX8_readLine_18) (fun H locs hW => ?_)
    refine x_ifeq (tgt := 30) C hf dX8_readLine_21 (by decide) (fun hf => ?_) (fun hf => ?_)
    · refine lv_aload_n C.1 C.2.1 dX8_readLine_30 rfl (lv_at hl 0 rfl) ?_
      refine x_ldcS C ms_X8_57 dX8_readLine_31 ?_
      obtain ⟨u3, hcu3, hf⟩ := bnd_t hf
      refine x_calli hW (x_runV C hW hl (wk7 (k_1)) rfl rfl (c_X9_isKeyword (by decide) hcu3) (cw_X8_45) ci_X9_isKeyword cs_X9_isKeyword (rm_ok (by decide) (by decide)) ⟨Nat.le_refl _, Nat.le_refl _⟩ (As := [.ref (Z.2.2.2.2 (2 * 4))]) rfl rfl (Nat.le_of_ble_eq_true rfl) dX8_readLine_33) (fun H locs hW => ?_)
      refine x_ifeq (tgt := 45) C hf dX8_readLine_36 (by decide) (fun hf => ?_) (fun hf => ?_)
      · refine lv_aload_n C.1 C.2.1 dX8_readLine_45 rfl (lv_at hl 0 rfl) ?_
        refine x_ldcS C ms_X8_62 dX8_readLine_46 ?_
        obtain ⟨u4, hcu4, hf⟩ := bnd_t hf
        refine x_calli hW (x_runV C hW hl (wk7 (k_1)) rfl rfl (c_X9_isKeyword (by decide) hcu4) (cw_X8_45) ci_X9_isKeyword cs_X9_isKeyword (rm_ok (by decide) (by decide)) ⟨Nat.le_refl _, Nat.le_refl _⟩ (As := [.ref (Z.2.2.2.2 (2 * 5))]) rfl rfl (Nat.le_of_ble_eq_true rfl) dX8_readLine_48) (fun H locs hW => ?_)
        refine x_ifeq (tgt := 60) C hf dX8_readLine_51 (by decide) (fun hf => ?_) (fun hf => ?_)
        · refine lv_aload_n C.1 C.2.1 dX8_readLine_60 rfl (lv_at hl 0 rfl) ?_
          refine x_ldcS C ms_X8_67 dX8_readLine_61 ?_
          obtain ⟨u5, hcu5, hf⟩ := bnd_t hf
          refine x_calli hW (x_runV C hW hl (wk7 (k_1)) rfl rfl (c_X9_isKeyword (by decide) hcu5) (cw_X8_45) ci_X9_isKeyword cs_X9_isKeyword (rm_ok (by decide) (by decide)) ⟨Nat.le_refl _, Nat.le_refl _⟩ (As := [.ref (Z.2.2.2.2 (2 * 6))]) rfl rfl (Nat.le_of_ble_eq_true rfl) dX8_readLine_63) (fun H locs hW => ?_)
          refine x_ifeq (tgt := 75) C hf dX8_readLine_66 (by decide) (fun hf => ?_) (fun hf => ?_)
          · refine lv_aload_n C.1 C.2.1 dX8_readLine_75 rfl (lv_at hl 0 rfl) ?_
            refine lv_iconst (v := 1) C.1 C.2.1 dX8_readLine_76 (by decide) ?_
            obtain ⟨u6, hcu6, hf⟩ := bnd_t hf
            refine x_calli hW (x_runV C hW hl (wk7 (k_1)) rfl rfl (c_X9_fail hcu6) (cw_X8_36) ci_X9_fail cs_X9_fail (rm_ok (by decide) (by decide)) ⟨Nat.le_refl _, Nat.le_refl _⟩ (As := [.int (1 : Int32)]) rfl rfl (Nat.le_of_ble_eq_true rfl) dX8_readLine_77) (fun H locs hW => ?_)
            obtain ⟨hz, hf⟩ := ck_t hf
            obtain rfl := Option.some.inj hf
            exact x_zret C hW hz dX8_readLine_80 rfl
          · refine lv_aload_n C.1 C.2.1 dX8_readLine_69 rfl (lv_at hl 0 rfl) ?_
            refine lv_aload_n C.1 C.2.1 dX8_readLine_70 rfl (lv_at hl 1 rfl) ?_
            obtain ⟨u7, hcu7, hf⟩ := bnd_t hf
            refine x_calli hW (x_runS C hW hl (c_X8_readHandle hk_p1 hcu7) (cw_X8_69) ct_X8_readHandle (rm_ok (by decide) (by decide)) ⟨Nat.le_refl _, Nat.le_refl _⟩ (As := [.ref (Z.1 1), .ref (Z.1 p1)]) rfl rfl (Nat.le_of_ble_eq_true rfl) dX8_readLine_71) (fun H locs hW => ?_)
            obtain ⟨hz, hf⟩ := ck_t hf
            obtain rfl := Option.some.inj hf
            exact x_zret C hW hz dX8_readLine_74 rfl
        · refine lv_aload_n C.1 C.2.1 dX8_readLine_54 rfl (lv_at hl 0 rfl) ?_
          refine lv_aload_n C.1 C.2.1 dX8_readLine_55 rfl (lv_at hl 1 rfl) ?_
          obtain ⟨u8, hcu8, hf⟩ := bnd_t hf
          refine x_calli hW (x_runS C hW hl (c_X8_readBreath hk_p1 hcu8) (cw_X8_64) ct_X8_readBreath (rm_ok (by decide) (by decide)) ⟨Nat.le_refl _, Nat.le_refl _⟩ (As := [.ref (Z.1 1), .ref (Z.1 p1)]) rfl rfl (Nat.le_of_ble_eq_true rfl) dX8_readLine_56) (fun H locs hW => ?_)
          obtain ⟨hz, hf⟩ := ck_t hf
          obtain rfl := Option.some.inj hf
          exact x_zret C hW hz dX8_readLine_59 rfl
      · refine lv_aload_n C.1 C.2.1 dX8_readLine_39 rfl (lv_at hl 0 rfl) ?_
        refine lv_aload_n C.1 C.2.1 dX8_readLine_40 rfl (lv_at hl 1 rfl) ?_
        obtain ⟨u9, hcu9, hf⟩ := bnd_t hf
        refine x_calli hW (x_runS C hW hl (c_X8_readWord hk_p1 hcu9) (cw_X8_59) ct_X8_readWord (rm_ok (by decide) (by decide)) ⟨Nat.le_refl _, Nat.le_refl _⟩ (As := [.ref (Z.1 1), .ref (Z.1 p1)]) rfl rfl (Nat.le_of_ble_eq_true rfl) dX8_readLine_41) (fun H locs hW => ?_)
        obtain ⟨hz, hf⟩ := ck_t hf
        obtain rfl := Option.some.inj hf
        exact x_zret C hW hz dX8_readLine_44 rfl
    · refine lv_aload_n C.1 C.2.1 dX8_readLine_24 rfl (lv_at hl 0 rfl) ?_
      refine lv_aload_n C.1 C.2.1 dX8_readLine_25 rfl (lv_at hl 1 rfl) ?_
      obtain ⟨u10, hcu10, hf⟩ := bnd_t hf
      refine x_calli hW (x_runS C hW hl (c_X8_readSpeaker hk_p1 hcu10) (cw_X8_54) ct_X8_readSpeaker (rm_ok (by decide) (by decide)) ⟨Nat.le_refl _, Nat.le_refl _⟩ (As := [.ref (Z.1 1), .ref (Z.1 p1)]) rfl rfl (Nat.le_of_ble_eq_true rfl) dX8_readLine_26) (fun H locs hW => ?_)
      obtain ⟨hz, hf⟩ := ck_t hf
      obtain rfl := Option.some.inj hf
      exact x_zret C hW hz dX8_readLine_29 rfl
  · refine lv_aload_n C.1 C.2.1 dX8_readLine_9 rfl (lv_at hl 0 rfl) ?_
    refine lv_aload_n C.1 C.2.1 dX8_readLine_10 rfl (lv_at hl 1 rfl) ?_
    obtain ⟨u11, hcu11, hf⟩ := bnd_t hf
    refine x_calli hW (x_runS C hW hl (c_X8_readLength hk_p1 hcu11) (cw_X8_49) ct_X8_readLength (rm_ok (by decide) (by decide)) ⟨Nat.le_refl _, Nat.le_refl _⟩ (As := [.ref (Z.1 1), .ref (Z.1 p1)]) rfl rfl (Nat.le_of_ble_eq_true rfl) dX8_readLine_11) (fun H locs hW => ?_)
    obtain ⟨hz, hf⟩ := ck_t hf
    obtain rfl := Option.some.inj hf
    exact x_zret C hW hz dX8_readLine_14 rfl
set_option maxRecDepth 20000 in
set_option maxHeartbeats 1000000 in
theorem j_X8_read_49 {l : Launch} {Z : ZT} {g : va_W} {p1 : Nat} {h : Hp} (hk_p1 : knd p1 = 4) {p : Program} {e : Env} {s : State} {m : MethodId} {args : Array Value} {below : List Frame} {meth : Method} {c : Code} (C : CX p s m args meth c cX8_read RX8 3 (some .boolean) Z g) {out : Int32 × Hp} {ls : Array Slot} {H : Heap} {locs : List Loc} (hW : XW Z h g s.heap H locs) (hl : lv_has ls 3 [(0, .ref (Z.1 1)), (1, .ref (Z.1 p1))]) (hf : J_X8_read_49 p1 h = some out) : W p l e (rmD 10) s m args below meth c H locs 0 0 (MQ below (va_Qi (fun r (_ : Unit) => r = out.1) (fun _ => Wd Z out.2 g) (FR Z)) args s 0 0 (FR Z)) (F0 m 49 ls []) := by
  rw [J_X8_read_49] at hf
  refine lv_aload_n C.1 C.2.1 dX8_read_49 rfl (lv_at hl 1 rfl) ?_
  obtain ⟨u1, hcu1, hf⟩ := bnd_t hf
  refine x_calli hW (x_runV C hW hl (wk4 hk_p1) rfl rfl (c_X4_holdsAllWords hk_p1 hcu1) (cw_X8_33) ci_X4_holdsAllWords cs_X4_holdsAllWords (rm_ok (by decide) (by decide)) ⟨Nat.le_refl _, Nat.le_refl _⟩ (As := []) rfl rfl (Nat.le_of_ble_eq_true rfl) dX8_read_50) (fun H locs hW => ?_)
  refine x_ifne (tgt := 62) C hf dX8_read_53 (by decide) (fun hf => ?_) (fun hf => ?_)
  · refine lv_aload_n C.1 C.2.1 dX8_read_62 rfl (lv_at hl 1 rfl) ?_
    obtain ⟨u2, hcu2, hf⟩ := bnd_t hf
    refine x_callv hW (x_runV C hW hl (wk4 hk_p1) rfl rfl (c_X4_findBlocks hk_p1 hcu2) (cw_X8_40) ci_X4_findBlocks cs_X4_findBlocks (rm_ok (by decide) (by decide)) ⟨Nat.le_refl _, Nat.le_refl _⟩ (As := []) rfl rfl (Nat.le_of_ble_eq_true rfl) dX8_read_63) (fun H locs hW => ?_)
    refine lv_iconst (v := 1) C.1 C.2.1 dX8_read_66 (by decide) ?_
    obtain rfl := Option.some.inj hf
    exact x_zret C hW (by decide) dX8_read_67 rfl
  · refine lv_aload_n C.1 C.2.1 dX8_read_56 rfl (lv_at hl 0 rfl) ?_
    refine lv_iconst (v := 2) C.1 C.2.1 dX8_read_57 (by decide) ?_
    obtain ⟨u3, hcu3, hf⟩ := bnd_t hf
    refine x_calli hW (x_runV C hW hl (wk7 (k_1)) rfl rfl (c_X9_fail hcu3) (cw_X8_36) ci_X9_fail cs_X9_fail (rm_ok (by decide) (by decide)) ⟨Nat.le_refl _, Nat.le_refl _⟩ (As := [.int (2 : Int32)]) rfl rfl (Nat.le_of_ble_eq_true rfl) dX8_read_58) (fun H locs hW => ?_)
    obtain ⟨hz, hf⟩ := ck_t hf
    obtain rfl := Option.some.inj hf
    exact x_zret C hW hz dX8_read_61 rfl
set_option maxRecDepth 20000 in
set_option maxHeartbeats 1000000 in
theorem l_X8_read_10 {l : Launch} {Z : ZT} {g : va_W} {p1 : Nat} (hk_p1 : knd p1 = 4) {p : Program} {e : Env} {s : State} {m : MethodId} {args : Array Value} {below : List Frame} {meth : Method} {c : Code} (C : CX p s m args meth c cX8_read RX8 3 (some .boolean) Z g) {out : Int32 × Hp} : ∀ (n : Nat) (x2 : Int32) (h : Hp) (ls : Array Slot) (H : Heap) (locs : List Loc), XW Z h g s.heap H locs → lv_has ls 3 [(0, .ref (Z.1 1)), (1, .ref (Z.1 p1)), (2, .int x2)] → Lp (F_X8_read_10 p1) n (x2, h) = some out → W p l e (rmD 10) s m args below meth c H locs 0 0 (MQ below (va_Qi (fun r (_ : Unit) => r = out.1) (fun _ => Wd Z out.2 g) (FR Z)) args s 0 0 (FR Z)) (F0 m 10 ls []) := by
  intro n
  induction n with
  | zero => intro x2 h ls H locs hW hl hf; cases hf
  | succ n ih =>
    intro x2 h ls H locs hW hl hf
    rw [Lp_s] at hf
    refine lv_iload_n C.1 C.2.1 dX8_read_10 rfl (lv_at hl 2 rfl) ?_
    refine lv_sipush (v := 900) C.1 C.2.1 dX8_read_11 (by decide) ?_
    refine x_cmpge (tgt := 49) C hf dX8_read_14 (by decide) (fun hf => ?_) (fun hf => ?_)
    · exact j_X8_read_49 hk_p1 C hW (lv_sub hl [0, 1] rfl) hf
    · refine lv_aload_n C.1 C.2.1 dX8_read_17 rfl (lv_at hl 0 rfl) ?_
      obtain ⟨u4, hcu4, hf⟩ := bnd_t hf
      refine x_calli hW (x_runV C hW hl (wk7 (k_1)) rfl rfl (c_X9_isEnd hcu4) (cw_X8_19) ci_X9_isEnd cs_X9_isEnd (rm_ok (by decide) (by decide)) ⟨Nat.le_refl _, Nat.le_refl _⟩ (As := []) rfl rfl (Nat.le_of_ble_eq_true rfl) dX8_read_18) (fun H locs hW => ?_)
      refine x_ifne (tgt := 49) C hf dX8_read_21 (by decide) (fun hf => ?_) (fun hf => ?_)
      · exact j_X8_read_49 hk_p1 C hW (lv_sub hl [0, 1] rfl) hf
      · refine lv_aload_n C.1 C.2.1 dX8_read_24 rfl (lv_at hl 0 rfl) ?_
        refine lv_aload_n C.1 C.2.1 dX8_read_25 rfl (lv_at hl 1 rfl) ?_
        obtain ⟨u5, hcu5, hf⟩ := bnd_t hf
        refine x_calli hW (x_runS C hW hl (c_X8_readLine hk_p1 hcu5) (cw_X8_23) ct_X8_readLine (rm_ok (by decide) (by decide)) ⟨Nat.le_refl _, Nat.le_refl _⟩ (As := [.ref (Z.1 1), .ref (Z.1 p1)]) rfl rfl (Nat.le_of_ble_eq_true rfl) dX8_read_26) (fun H locs hW => ?_)
        refine x_ifeq (tgt := 41) C hf dX8_read_29 (by decide) (fun hf => ?_) (fun hf => ?_)
        · refine lv_iconst (v := 0) C.1 C.2.1 dX8_read_41 (by decide) ?_
          obtain rfl := Option.some.inj hf
          exact x_zret C hW (by decide) dX8_read_42 rfl
        · refine lv_aload_n C.1 C.2.1 dX8_read_32 rfl (lv_at hl 0 rfl) ?_
          refine lv_bipush (v := 59) C.1 C.2.1 dX8_read_33 (by decide) ?_
          obtain ⟨u6, hcu6, hf⟩ := bnd_t hf
          refine x_calli hW (x_runV C hW hl (wk7 (k_1)) rfl rfl (c_X9_takeSign hcu6) (cw_X8_29) ci_X9_takeSign cs_X9_takeSign (rm_ok (by decide) (by decide)) ⟨Nat.le_refl _, Nat.le_refl _⟩ (As := [.int (59 : Int32)]) rfl rfl (Nat.le_of_ble_eq_true rfl) dX8_read_35) (fun H locs hW => ?_)
          refine x_ifne (tgt := 43) C hf dX8_read_38 (by decide) (fun hf => ?_) (fun hf => ?_)
          · refine x_iinc (w := 1) C hf dX8_read_43 hl (k := 2) rfl (by decide) (by decide) (fun v7 => [(2, .int v7), (0, .ref (Z.1 1)), (1, .ref (Z.1 p1))]) (fun _ => rfl) (fun v7 ls hf hl => ?_)
            refine lv_goto (tgt := 10) C.1 C.2.1 dX8_read_46 (by decide) ?_
            exact ih v7 u6.2 ls _ _ hW (lv_sub hl [1, 2, 0] rfl) hf
          · refine lv_iconst (v := 0) C.1 C.2.1 dX8_read_41 (by decide) ?_
            obtain rfl := Option.some.inj hf
            exact x_zret C hW (by decide) dX8_read_42 rfl
set_option maxRecDepth 20000 in
set_option maxHeartbeats 1000000 in
theorem c_X8_read {l : Launch} {Z : ZT} {g : va_W} {h : Hp} {p1 : Nat} (hk_p1 : knd p1 = 4) {out : Int32 × Hp} (hf : f_X8_read h p1 = some out) : Met l yX8_read (wY yX8_read cX8_read 3 (some .boolean)) (rmD 10) (va_Pc [.ref (Z.1 1), .ref (Z.1 p1)] (Wd Z h g)) (va_Qi (fun r (_ : Unit) => r = out.1) (fun _ => Wd Z out.2 g) (FR Z)) 0 0 (FR Z) := by
  refine metX RX8 rfl (by decide +kernel) (Nat.le_of_ble_eq_true rfl) ?_
  intro p e s m args below meth c C hW ls hl
  have hl : lv_has ls 3 [(0, .ref (Z.1 1)), (1, .ref (Z.1 p1))] := hl
  unfold f_X8_read at hf
  refine lv_aload_n C.1 C.2.1 dX8_read_0 rfl (lv_at hl 1 rfl) ?_
  obtain ⟨u8, hcu8, hf⟩ := bnd_t hf
  refine x_callv hW (x_runV C hW hl (wk4 hk_p1) rfl rfl (c_X4_clear hk_p1 hcu8) (cw_X8_9) ci_X4_clear cs_X4_clear (rm_ok (by decide) (by decide)) ⟨Nat.le_refl _, Nat.le_refl _⟩ (As := []) rfl rfl (Nat.le_of_ble_eq_true rfl) dX8_read_1) (fun H locs hW => ?_)
  refine lv_aload_n C.1 C.2.1 dX8_read_4 rfl (lv_at hl 0 rfl) ?_
  obtain ⟨u9, hcu9, hf⟩ := bnd_t hf
  refine x_callv hW (x_runV C hW hl (wk7 (k_1)) rfl rfl (c_X9_begin hcu9) (cw_X8_14) ci_X9_begin cs_X9_begin (rm_ok (by decide) (by decide)) ⟨Nat.le_refl _, Nat.le_refl _⟩ (As := []) rfl rfl (Nat.le_of_ble_eq_true rfl) dX8_read_5) (fun H locs hW => ?_)
  refine lv_iconst (v := 0) C.1 C.2.1 dX8_read_8 (by decide) ?_
  refine lv_istore_n (lv' := [(2, .int (0 : Int32)), (0, .ref (Z.1 1)), (1, .ref (Z.1 p1))]) C.1 C.2.1 dX8_read_9 rfl hl (by decide) rfl (fun ls hl => ?_)
  exact l_X8_read_10 hk_p1 C FU (0 : Int32) u9 ls _ _ hW (lv_sub hl [1, 2, 0] rfl) hf
