abbrev cX7_kindHere : ByteArray := prog_9_method_5_code
def yX7_kindHere : MethodName := ⟨RX7, "kindHere", "(LTranscriptCutter$Tokens;)I"⟩
theorem dX7_kindHere_0 : decode cX7_kindHere 0 = .ok (.aload_n 0, 1) := by decide +kernel
theorem dX7_kindHere_1 : decode cX7_kindHere 1 = .ok (.ldc 65, 2) := by decide +kernel
theorem dX7_kindHere_3 : decode cX7_kindHere 3 = .ok (.invokevirtual 67, 3) := by decide +kernel
theorem dX7_kindHere_6 : decode cX7_kindHere 6 = .ok (.ifCond .eq 5, 3) := by decide +kernel
theorem dX7_kindHere_9 : decode cX7_kindHere 9 = .ok (.iconst 0, 1) := by decide +kernel
theorem dX7_kindHere_10 : decode cX7_kindHere 10 = .ok (.ireturn, 1) := by decide +kernel
theorem dX7_kindHere_11 : decode cX7_kindHere 11 = .ok (.aload_n 0, 1) := by decide +kernel
theorem dX7_kindHere_12 : decode cX7_kindHere 12 = .ok (.ldc 71, 2) := by decide +kernel
theorem dX7_kindHere_14 : decode cX7_kindHere 14 = .ok (.invokevirtual 67, 3) := by decide +kernel
theorem dX7_kindHere_17 : decode cX7_kindHere 17 = .ok (.ifCond .eq 5, 3) := by decide +kernel
theorem dX7_kindHere_20 : decode cX7_kindHere 20 = .ok (.iconst 1, 1) := by decide +kernel
theorem dX7_kindHere_21 : decode cX7_kindHere 21 = .ok (.ireturn, 1) := by decide +kernel
theorem dX7_kindHere_22 : decode cX7_kindHere 22 = .ok (.aload_n 0, 1) := by decide +kernel
theorem dX7_kindHere_23 : decode cX7_kindHere 23 = .ok (.ldc 73, 2) := by decide +kernel
theorem dX7_kindHere_25 : decode cX7_kindHere 25 = .ok (.invokevirtual 67, 3) := by decide +kernel
theorem dX7_kindHere_28 : decode cX7_kindHere 28 = .ok (.ifCond .eq 5, 3) := by decide +kernel
theorem dX7_kindHere_31 : decode cX7_kindHere 31 = .ok (.iconst 2, 1) := by decide +kernel
theorem dX7_kindHere_32 : decode cX7_kindHere 32 = .ok (.ireturn, 1) := by decide +kernel
theorem dX7_kindHere_33 : decode cX7_kindHere 33 = .ok (.aload_n 0, 1) := by decide +kernel
theorem dX7_kindHere_34 : decode cX7_kindHere 34 = .ok (.ldc 75, 2) := by decide +kernel
theorem dX7_kindHere_36 : decode cX7_kindHere 36 = .ok (.invokevirtual 67, 3) := by decide +kernel
theorem dX7_kindHere_39 : decode cX7_kindHere 39 = .ok (.ifCond .eq 5, 3) := by decide +kernel
theorem dX7_kindHere_42 : decode cX7_kindHere 42 = .ok (.iconst 3, 1) := by decide +kernel
theorem dX7_kindHere_43 : decode cX7_kindHere 43 = .ok (.ireturn, 1) := by decide +kernel
theorem dX7_kindHere_44 : decode cX7_kindHere 44 = .ok (.aload_n 0, 1) := by decide +kernel
theorem dX7_kindHere_45 : decode cX7_kindHere 45 = .ok (.ldc 77, 2) := by decide +kernel
theorem dX7_kindHere_47 : decode cX7_kindHere 47 = .ok (.invokevirtual 67, 3) := by decide +kernel
theorem dX7_kindHere_50 : decode cX7_kindHere 50 = .ok (.ifCond .eq 5, 3) := by decide +kernel
theorem dX7_kindHere_53 : decode cX7_kindHere 53 = .ok (.iconst 4, 1) := by decide +kernel
theorem dX7_kindHere_54 : decode cX7_kindHere 54 = .ok (.ireturn, 1) := by decide +kernel
theorem dX7_kindHere_55 : decode cX7_kindHere 55 = .ok (.aload_n 0, 1) := by decide +kernel
theorem dX7_kindHere_56 : decode cX7_kindHere 56 = .ok (.ldc 79, 2) := by decide +kernel
theorem dX7_kindHere_58 : decode cX7_kindHere 58 = .ok (.invokevirtual 67, 3) := by decide +kernel
theorem dX7_kindHere_61 : decode cX7_kindHere 61 = .ok (.ifCond .eq 7, 3) := by decide +kernel
theorem dX7_kindHere_64 : decode cX7_kindHere 64 = .ok (.iconst 5, 1) := by decide +kernel
theorem dX7_kindHere_65 : decode cX7_kindHere 65 = .ok (.goto 4, 3) := by decide +kernel
theorem dX7_kindHere_68 : decode cX7_kindHere 68 = .ok (.iconst (-1), 1) := by decide +kernel
theorem dX7_kindHere_69 : decode cX7_kindHere 69 = .ok (.ireturn, 1) := by decide +kernel
theorem ct_X7_kindHere : Cond.static yX7_kindHere ∈ TW := TW_of 1052 (by decide +kernel) (by decide +kernel)
abbrev cX7_readPhrase : ByteArray := prog_9_method_10_code
def yX7_readPhrase : MethodName := ⟨RX7, "readPhrase", "(LTranscriptCutter$Tokens;LTranscriptCutter$Script;I)Z"⟩
theorem dX7_readPhrase_0 : decode cX7_readPhrase 0 = .ok (.aload_n 0, 1) := by decide +kernel
theorem dX7_readPhrase_1 : decode cX7_readPhrase 1 = .ok (.bipush 40, 2) := by decide +kernel
theorem dX7_readPhrase_3 : decode cX7_readPhrase 3 = .ok (.invokevirtual 86, 3) := by decide +kernel
theorem dX7_readPhrase_6 : decode cX7_readPhrase 6 = .ok (.ifCond .ne 5, 3) := by decide +kernel
theorem dX7_readPhrase_9 : decode cX7_readPhrase 9 = .ok (.iconst 0, 1) := by decide +kernel
theorem dX7_readPhrase_10 : decode cX7_readPhrase 10 = .ok (.ireturn, 1) := by decide +kernel
theorem dX7_readPhrase_11 : decode cX7_readPhrase 11 = .ok (.iconst 0, 1) := by decide +kernel
theorem dX7_readPhrase_12 : decode cX7_readPhrase 12 = .ok (.istore_n 3, 1) := by decide +kernel
theorem dX7_readPhrase_13 : decode cX7_readPhrase 13 = .ok (.iconst 0, 1) := by decide +kernel
theorem dX7_readPhrase_14 : decode cX7_readPhrase 14 = .ok (.istore 4, 2) := by decide +kernel
theorem dX7_readPhrase_16 : decode cX7_readPhrase 16 = .ok (.iload 4, 2) := by decide +kernel
theorem dX7_readPhrase_18 : decode cX7_readPhrase 18 = .ok (.bipush 6, 2) := by decide +kernel
theorem dX7_readPhrase_20 : decode cX7_readPhrase 20 = .ok (.if_icmp .gt 69, 3) := by decide +kernel
theorem dX7_readPhrase_23 : decode cX7_readPhrase 23 = .ok (.iload 4, 2) := by decide +kernel
theorem dX7_readPhrase_25 : decode cX7_readPhrase 25 = .ok (.ifCond .eq 12, 3) := by decide +kernel
theorem dX7_readPhrase_28 : decode cX7_readPhrase 28 = .ok (.aload_n 0, 1) := by decide +kernel
theorem dX7_readPhrase_29 : decode cX7_readPhrase 29 = .ok (.bipush 41, 2) := by decide +kernel
theorem dX7_readPhrase_31 : decode cX7_readPhrase 31 = .ok (.invokevirtual 34, 3) := by decide +kernel
theorem dX7_readPhrase_34 : decode cX7_readPhrase 34 = .ok (.ifCond .ne 55, 3) := by decide +kernel
theorem dX7_readPhrase_37 : decode cX7_readPhrase 37 = .ok (.aload_n 0, 1) := by decide +kernel
theorem dX7_readPhrase_38 : decode cX7_readPhrase 38 = .ok (.invokevirtual 104, 3) := by decide +kernel
theorem dX7_readPhrase_41 : decode cX7_readPhrase 41 = .ok (.istore 5, 2) := by decide +kernel
theorem dX7_readPhrase_43 : decode cX7_readPhrase 43 = .ok (.iload 5, 2) := by decide +kernel
theorem dX7_readPhrase_45 : decode cX7_readPhrase 45 = .ok (.iconst (-1), 1) := by decide +kernel
theorem dX7_readPhrase_46 : decode cX7_readPhrase 46 = .ok (.if_icmp .ne 5, 3) := by decide +kernel
theorem dX7_readPhrase_49 : decode cX7_readPhrase 49 = .ok (.iconst 0, 1) := by decide +kernel
theorem dX7_readPhrase_50 : decode cX7_readPhrase 50 = .ok (.ireturn, 1) := by decide +kernel
theorem dX7_readPhrase_51 : decode cX7_readPhrase 51 = .ok (.iload_n 3, 1) := by decide +kernel
theorem dX7_readPhrase_52 : decode cX7_readPhrase 52 = .ok (.bipush 6, 2) := by decide +kernel
theorem dX7_readPhrase_54 : decode cX7_readPhrase 54 = .ok (.if_icmp .lt 9, 3) := by decide +kernel
theorem dX7_readPhrase_57 : decode cX7_readPhrase 57 = .ok (.aload_n 0, 1) := by decide +kernel
theorem dX7_readPhrase_58 : decode cX7_readPhrase 58 = .ok (.iconst 4, 1) := by decide +kernel
theorem dX7_readPhrase_59 : decode cX7_readPhrase 59 = .ok (.invokevirtual 30, 3) := by decide +kernel
theorem dX7_readPhrase_62 : decode cX7_readPhrase 62 = .ok (.ireturn, 1) := by decide +kernel
theorem dX7_readPhrase_63 : decode cX7_readPhrase 63 = .ok (.aload_n 1, 1) := by decide +kernel
theorem dX7_readPhrase_64 : decode cX7_readPhrase 64 = .ok (.getfield 108, 3) := by decide +kernel
theorem dX7_readPhrase_67 : decode cX7_readPhrase 67 = .ok (.iload_n 2, 1) := by decide +kernel
theorem dX7_readPhrase_68 : decode cX7_readPhrase 68 = .ok (.bipush 6, 2) := by decide +kernel
theorem dX7_readPhrase_70 : decode cX7_readPhrase 70 = .ok (.imul, 1) := by decide +kernel
theorem dX7_readPhrase_71 : decode cX7_readPhrase 71 = .ok (.iload_n 3, 1) := by decide +kernel
theorem dX7_readPhrase_72 : decode cX7_readPhrase 72 = .ok (.iadd, 1) := by decide +kernel
theorem dX7_readPhrase_73 : decode cX7_readPhrase 73 = .ok (.iload 5, 2) := by decide +kernel
theorem dX7_readPhrase_75 : decode cX7_readPhrase 75 = .ok (.iastore, 1) := by decide +kernel
theorem dX7_readPhrase_76 : decode cX7_readPhrase 76 = .ok (.iinc 3 1, 3) := by decide +kernel
theorem dX7_readPhrase_79 : decode cX7_readPhrase 79 = .ok (.aload_n 0, 1) := by decide +kernel
theorem dX7_readPhrase_80 : decode cX7_readPhrase 80 = .ok (.invokevirtual 45, 3) := by decide +kernel
theorem dX7_readPhrase_83 : decode cX7_readPhrase 83 = .ok (.iinc 4 1, 3) := by decide +kernel
theorem dX7_readPhrase_86 : decode cX7_readPhrase 86 = .ok (.goto (-70), 3) := by decide +kernel
theorem dX7_readPhrase_89 : decode cX7_readPhrase 89 = .ok (.aload_n 1, 1) := by decide +kernel
theorem dX7_readPhrase_90 : decode cX7_readPhrase 90 = .ok (.getfield 111, 3) := by decide +kernel
theorem dX7_readPhrase_93 : decode cX7_readPhrase 93 = .ok (.iload_n 2, 1) := by decide +kernel
theorem dX7_readPhrase_94 : decode cX7_readPhrase 94 = .ok (.iload_n 3, 1) := by decide +kernel
theorem dX7_readPhrase_95 : decode cX7_readPhrase 95 = .ok (.iastore, 1) := by decide +kernel
theorem dX7_readPhrase_96 : decode cX7_readPhrase 96 = .ok (.aload_n 0, 1) := by decide +kernel
theorem dX7_readPhrase_97 : decode cX7_readPhrase 97 = .ok (.bipush 41, 2) := by decide +kernel
theorem dX7_readPhrase_99 : decode cX7_readPhrase 99 = .ok (.invokevirtual 86, 3) := by decide +kernel
theorem dX7_readPhrase_102 : decode cX7_readPhrase 102 = .ok (.ireturn, 1) := by decide +kernel
theorem ct_X7_readPhrase : Cond.static yX7_readPhrase ∈ TW := TW_of 1075 (by decide +kernel) (by decide +kernel)
abbrev cX7_readChange : ByteArray := prog_9_method_6_code
def yX7_readChange : MethodName := ⟨RX7, "readChange", "(LTranscriptCutter$Tokens;LTranscriptCutter$Script;I)Z"⟩
theorem dX7_readChange_0 : decode cX7_readChange 0 = .ok (.aload_n 0, 1) := by decide +kernel
theorem dX7_readChange_1 : decode cX7_readChange 1 = .ok (.aload_n 1, 1) := by decide +kernel
theorem dX7_readChange_2 : decode cX7_readChange 2 = .ok (.iconst 2, 1) := by decide +kernel
theorem dX7_readChange_3 : decode cX7_readChange 3 = .ok (.iload_n 2, 1) := by decide +kernel
theorem dX7_readChange_4 : decode cX7_readChange 4 = .ok (.imul, 1) := by decide +kernel
theorem dX7_readChange_5 : decode cX7_readChange 5 = .ok (.invokestatic 81, 3) := by decide +kernel
theorem dX7_readChange_8 : decode cX7_readChange 8 = .ok (.ifCond .ne 5, 3) := by decide +kernel
theorem dX7_readChange_11 : decode cX7_readChange 11 = .ok (.iconst 0, 1) := by decide +kernel
theorem dX7_readChange_12 : decode cX7_readChange 12 = .ok (.ireturn, 1) := by decide +kernel
theorem dX7_readChange_13 : decode cX7_readChange 13 = .ok (.aload_n 1, 1) := by decide +kernel
theorem dX7_readChange_14 : decode cX7_readChange 14 = .ok (.getfield 48, 3) := by decide +kernel
theorem dX7_readChange_17 : decode cX7_readChange 17 = .ok (.iload_n 2, 1) := by decide +kernel
theorem dX7_readChange_18 : decode cX7_readChange 18 = .ok (.iaload, 1) := by decide +kernel
theorem dX7_readChange_19 : decode cX7_readChange 19 = .ok (.iconst 3, 1) := by decide +kernel
theorem dX7_readChange_20 : decode cX7_readChange 20 = .ok (.if_icmp .ne 37, 3) := by decide +kernel
theorem dX7_readChange_23 : decode cX7_readChange 23 = .ok (.aload_n 0, 1) := by decide +kernel
theorem dX7_readChange_24 : decode cX7_readChange 24 = .ok (.ldc 84, 2) := by decide +kernel
theorem dX7_readChange_26 : decode cX7_readChange 26 = .ok (.invokevirtual 67, 3) := by decide +kernel
theorem dX7_readChange_29 : decode cX7_readChange 29 = .ok (.ifCond .ne 9, 3) := by decide +kernel
theorem dX7_readChange_32 : decode cX7_readChange 32 = .ok (.aload_n 0, 1) := by decide +kernel
theorem dX7_readChange_33 : decode cX7_readChange 33 = .ok (.iconst 1, 1) := by decide +kernel
theorem dX7_readChange_34 : decode cX7_readChange 34 = .ok (.invokevirtual 30, 3) := by decide +kernel
theorem dX7_readChange_37 : decode cX7_readChange 37 = .ok (.ireturn, 1) := by decide +kernel
theorem dX7_readChange_38 : decode cX7_readChange 38 = .ok (.aload_n 0, 1) := by decide +kernel
theorem dX7_readChange_39 : decode cX7_readChange 39 = .ok (.invokevirtual 45, 3) := by decide +kernel
theorem dX7_readChange_42 : decode cX7_readChange 42 = .ok (.aload_n 0, 1) := by decide +kernel
theorem dX7_readChange_43 : decode cX7_readChange 43 = .ok (.aload_n 1, 1) := by decide +kernel
theorem dX7_readChange_44 : decode cX7_readChange 44 = .ok (.iconst 2, 1) := by decide +kernel
theorem dX7_readChange_45 : decode cX7_readChange 45 = .ok (.iload_n 2, 1) := by decide +kernel
theorem dX7_readChange_46 : decode cX7_readChange 46 = .ok (.imul, 1) := by decide +kernel
theorem dX7_readChange_47 : decode cX7_readChange 47 = .ok (.iconst 1, 1) := by decide +kernel
theorem dX7_readChange_48 : decode cX7_readChange 48 = .ok (.iadd, 1) := by decide +kernel
theorem dX7_readChange_49 : decode cX7_readChange 49 = .ok (.invokestatic 81, 3) := by decide +kernel
theorem dX7_readChange_52 : decode cX7_readChange 52 = .ok (.ifCond .ne 5, 3) := by decide +kernel
theorem dX7_readChange_55 : decode cX7_readChange 55 = .ok (.iconst 0, 1) := by decide +kernel
theorem dX7_readChange_56 : decode cX7_readChange 56 = .ok (.ireturn, 1) := by decide +kernel
theorem dX7_readChange_57 : decode cX7_readChange 57 = .ok (.aload_n 0, 1) := by decide +kernel
theorem dX7_readChange_58 : decode cX7_readChange 58 = .ok (.bipush 59, 2) := by decide +kernel
theorem dX7_readChange_60 : decode cX7_readChange 60 = .ok (.invokevirtual 86, 3) := by decide +kernel
theorem dX7_readChange_63 : decode cX7_readChange 63 = .ok (.ireturn, 1) := by decide +kernel
theorem ct_X7_readChange : Cond.static yX7_readChange ∈ TW := TW_of 1080 (by decide +kernel) (by decide +kernel)
abbrev cX7_readBlock : ByteArray := prog_9_method_9_code
def yX7_readBlock : MethodName := ⟨RX7, "readBlock", "(LTranscriptCutter$Tokens;LTranscriptCutter$Script;I)Z"⟩
theorem dX7_readBlock_0 : decode cX7_readBlock 0 = .ok (.aload_n 0, 1) := by decide +kernel
theorem dX7_readBlock_1 : decode cX7_readBlock 1 = .ok (.bipush 123, 2) := by decide +kernel
theorem dX7_readBlock_3 : decode cX7_readBlock 3 = .ok (.invokevirtual 34, 3) := by decide +kernel
theorem dX7_readBlock_6 : decode cX7_readBlock 6 = .ok (.ifCond .ne 9, 3) := by decide +kernel
theorem dX7_readBlock_9 : decode cX7_readBlock 9 = .ok (.aload_n 0, 1) := by decide +kernel
theorem dX7_readBlock_10 : decode cX7_readBlock 10 = .ok (.iconst 1, 1) := by decide +kernel
theorem dX7_readBlock_11 : decode cX7_readBlock 11 = .ok (.invokevirtual 30, 3) := by decide +kernel
theorem dX7_readBlock_14 : decode cX7_readBlock 14 = .ok (.ireturn, 1) := by decide +kernel
theorem dX7_readBlock_15 : decode cX7_readBlock 15 = .ok (.iload_n 2, 1) := by decide +kernel
theorem dX7_readBlock_16 : decode cX7_readBlock 16 = .ok (.iconst 5, 1) := by decide +kernel
theorem dX7_readBlock_17 : decode cX7_readBlock 17 = .ok (.if_icmp .lt 9, 3) := by decide +kernel
theorem dX7_readBlock_20 : decode cX7_readBlock 20 = .ok (.aload_n 0, 1) := by decide +kernel
theorem dX7_readBlock_21 : decode cX7_readBlock 21 = .ok (.iconst 4, 1) := by decide +kernel
theorem dX7_readBlock_22 : decode cX7_readBlock 22 = .ok (.invokevirtual 30, 3) := by decide +kernel
theorem dX7_readBlock_25 : decode cX7_readBlock 25 = .ok (.ireturn, 1) := by decide +kernel
theorem dX7_readBlock_26 : decode cX7_readBlock 26 = .ok (.aload_n 0, 1) := by decide +kernel
theorem dX7_readBlock_27 : decode cX7_readBlock 27 = .ok (.invokevirtual 45, 3) := by decide +kernel
theorem dX7_readBlock_30 : decode cX7_readBlock 30 = .ok (.aload_n 0, 1) := by decide +kernel
theorem dX7_readBlock_31 : decode cX7_readBlock 31 = .ok (.aload_n 1, 1) := by decide +kernel
theorem dX7_readBlock_32 : decode cX7_readBlock 32 = .ok (.iload_n 2, 1) := by decide +kernel
theorem dX7_readBlock_33 : decode cX7_readBlock 33 = .ok (.iconst 1, 1) := by decide +kernel
theorem dX7_readBlock_34 : decode cX7_readBlock 34 = .ok (.iadd, 1) := by decide +kernel
theorem dX7_readBlock_35 : decode cX7_readBlock 35 = .ok (.invokestatic 20, 3) := by decide +kernel
theorem dX7_readBlock_38 : decode cX7_readBlock 38 = .ok (.ifCond .eq 16, 3) := by decide +kernel
theorem dX7_readBlock_41 : decode cX7_readBlock 41 = .ok (.aload_n 0, 1) := by decide +kernel
theorem dX7_readBlock_42 : decode cX7_readBlock 42 = .ok (.bipush 125, 2) := by decide +kernel
theorem dX7_readBlock_44 : decode cX7_readBlock 44 = .ok (.invokevirtual 86, 3) := by decide +kernel
theorem dX7_readBlock_47 : decode cX7_readBlock 47 = .ok (.ifCond .eq 7, 3) := by decide +kernel
theorem dX7_readBlock_50 : decode cX7_readBlock 50 = .ok (.iconst 1, 1) := by decide +kernel
theorem dX7_readBlock_51 : decode cX7_readBlock 51 = .ok (.goto 4, 3) := by decide +kernel
theorem dX7_readBlock_54 : decode cX7_readBlock 54 = .ok (.iconst 0, 1) := by decide +kernel
theorem dX7_readBlock_55 : decode cX7_readBlock 55 = .ok (.ireturn, 1) := by decide +kernel
theorem ct_X7_readBlock : Cond.static yX7_readBlock ∈ TW := TW_of 1068 (by decide +kernel) (by decide +kernel)
abbrev cX7_readCommand : ByteArray := prog_9_method_4_code
def yX7_readCommand : MethodName := ⟨RX7, "readCommand", "(LTranscriptCutter$Tokens;LTranscriptCutter$Script;I)Z"⟩
theorem dX7_readCommand_0 : decode cX7_readCommand 0 = .ok (.aload_n 0, 1) := by decide +kernel
theorem dX7_readCommand_1 : decode cX7_readCommand 1 = .ok (.invokestatic 41, 3) := by decide +kernel
theorem dX7_readCommand_4 : decode cX7_readCommand 4 = .ok (.istore_n 3, 1) := by decide +kernel
theorem dX7_readCommand_5 : decode cX7_readCommand 5 = .ok (.iload_n 3, 1) := by decide +kernel
theorem dX7_readCommand_6 : decode cX7_readCommand 6 = .ok (.iconst (-1), 1) := by decide +kernel
theorem dX7_readCommand_7 : decode cX7_readCommand 7 = .ok (.if_icmp .ne 9, 3) := by decide +kernel
theorem dX7_readCommand_10 : decode cX7_readCommand 10 = .ok (.aload_n 0, 1) := by decide +kernel
theorem dX7_readCommand_11 : decode cX7_readCommand 11 = .ok (.iconst 1, 1) := by decide +kernel
theorem dX7_readCommand_12 : decode cX7_readCommand 12 = .ok (.invokevirtual 30, 3) := by decide +kernel
theorem dX7_readCommand_15 : decode cX7_readCommand 15 = .ok (.ireturn, 1) := by decide +kernel
theorem dX7_readCommand_16 : decode cX7_readCommand 16 = .ok (.aload_n 1, 1) := by decide +kernel
theorem dX7_readCommand_17 : decode cX7_readCommand 17 = .ok (.getfield 9, 3) := by decide +kernel
theorem dX7_readCommand_20 : decode cX7_readCommand 20 = .ok (.bipush 30, 2) := by decide +kernel
theorem dX7_readCommand_22 : decode cX7_readCommand 22 = .ok (.if_icmp .lt 9, 3) := by decide +kernel
theorem dX7_readCommand_25 : decode cX7_readCommand 25 = .ok (.aload_n 0, 1) := by decide +kernel
theorem dX7_readCommand_26 : decode cX7_readCommand 26 = .ok (.iconst 4, 1) := by decide +kernel
theorem dX7_readCommand_27 : decode cX7_readCommand 27 = .ok (.invokevirtual 30, 3) := by decide +kernel
theorem dX7_readCommand_30 : decode cX7_readCommand 30 = .ok (.ireturn, 1) := by decide +kernel
theorem dX7_readCommand_31 : decode cX7_readCommand 31 = .ok (.aload_n 0, 1) := by decide +kernel
theorem dX7_readCommand_32 : decode cX7_readCommand 32 = .ok (.invokevirtual 45, 3) := by decide +kernel
theorem dX7_readCommand_35 : decode cX7_readCommand 35 = .ok (.aload_n 1, 1) := by decide +kernel
theorem dX7_readCommand_36 : decode cX7_readCommand 36 = .ok (.getfield 9, 3) := by decide +kernel
theorem dX7_readCommand_39 : decode cX7_readCommand 39 = .ok (.istore 4, 2) := by decide +kernel
theorem dX7_readCommand_41 : decode cX7_readCommand 41 = .ok (.aload_n 1, 1) := by decide +kernel
theorem dX7_readCommand_42 : decode cX7_readCommand 42 = .ok (.dup, 1) := by decide +kernel
theorem dX7_readCommand_43 : decode cX7_readCommand 43 = .ok (.getfield 9, 3) := by decide +kernel
theorem dX7_readCommand_46 : decode cX7_readCommand 46 = .ok (.iconst 1, 1) := by decide +kernel
theorem dX7_readCommand_47 : decode cX7_readCommand 47 = .ok (.iadd, 1) := by decide +kernel
theorem dX7_readCommand_48 : decode cX7_readCommand 48 = .ok (.putfield 9, 3) := by decide +kernel
theorem dX7_readCommand_51 : decode cX7_readCommand 51 = .ok (.aload_n 1, 1) := by decide +kernel
theorem dX7_readCommand_52 : decode cX7_readCommand 52 = .ok (.getfield 48, 3) := by decide +kernel
theorem dX7_readCommand_55 : decode cX7_readCommand 55 = .ok (.iload 4, 2) := by decide +kernel
theorem dX7_readCommand_57 : decode cX7_readCommand 57 = .ok (.iload_n 3, 1) := by decide +kernel
theorem dX7_readCommand_58 : decode cX7_readCommand 58 = .ok (.iastore, 1) := by decide +kernel
theorem dX7_readCommand_59 : decode cX7_readCommand 59 = .ok (.iload_n 3, 1) := by decide +kernel
theorem dX7_readCommand_60 : decode cX7_readCommand 60 = .ok (.iconst 5, 1) := by decide +kernel
theorem dX7_readCommand_61 : decode cX7_readCommand 61 = .ok (.if_icmp .ne 16, 3) := by decide +kernel
theorem dX7_readCommand_64 : decode cX7_readCommand 64 = .ok (.aload_n 0, 1) := by decide +kernel
theorem dX7_readCommand_65 : decode cX7_readCommand 65 = .ok (.aload_n 1, 1) := by decide +kernel
theorem dX7_readCommand_66 : decode cX7_readCommand 66 = .ok (.iload 4, 2) := by decide +kernel
theorem dX7_readCommand_68 : decode cX7_readCommand 68 = .ok (.iload_n 2, 1) := by decide +kernel
theorem dX7_readCommand_69 : decode cX7_readCommand 69 = .ok (.invokestatic 52, 3) := by decide +kernel
theorem dX7_readCommand_72 : decode cX7_readCommand 72 = .ok (.istore 5, 2) := by decide +kernel
theorem dX7_readCommand_74 : decode cX7_readCommand 74 = .ok (.goto 30, 3) := by decide +kernel
theorem dX7_readCommand_77 : decode cX7_readCommand 77 = .ok (.iload_n 3, 1) := by decide +kernel
theorem dX7_readCommand_78 : decode cX7_readCommand 78 = .ok (.iconst 4, 1) := by decide +kernel
theorem dX7_readCommand_79 : decode cX7_readCommand 79 = .ok (.if_icmp .ne 16, 3) := by decide +kernel
theorem dX7_readCommand_82 : decode cX7_readCommand 82 = .ok (.aload_n 0, 1) := by decide +kernel
theorem dX7_readCommand_83 : decode cX7_readCommand 83 = .ok (.aload_n 1, 1) := by decide +kernel
theorem dX7_readCommand_84 : decode cX7_readCommand 84 = .ok (.iload 4, 2) := by decide +kernel
theorem dX7_readCommand_86 : decode cX7_readCommand 86 = .ok (.iload_n 2, 1) := by decide +kernel
theorem dX7_readCommand_87 : decode cX7_readCommand 87 = .ok (.invokestatic 56, 3) := by decide +kernel
theorem dX7_readCommand_90 : decode cX7_readCommand 90 = .ok (.istore 5, 2) := by decide +kernel
theorem dX7_readCommand_92 : decode cX7_readCommand 92 = .ok (.goto 12, 3) := by decide +kernel
theorem dX7_readCommand_95 : decode cX7_readCommand 95 = .ok (.aload_n 0, 1) := by decide +kernel
theorem dX7_readCommand_96 : decode cX7_readCommand 96 = .ok (.aload_n 1, 1) := by decide +kernel
theorem dX7_readCommand_97 : decode cX7_readCommand 97 = .ok (.iload 4, 2) := by decide +kernel
theorem dX7_readCommand_99 : decode cX7_readCommand 99 = .ok (.invokestatic 59, 3) := by decide +kernel
theorem dX7_readCommand_102 : decode cX7_readCommand 102 = .ok (.istore 5, 2) := by decide +kernel
theorem dX7_readCommand_104 : decode cX7_readCommand 104 = .ok (.aload_n 1, 1) := by decide +kernel
theorem dX7_readCommand_105 : decode cX7_readCommand 105 = .ok (.getfield 62, 3) := by decide +kernel
theorem dX7_readCommand_108 : decode cX7_readCommand 108 = .ok (.iload 4, 2) := by decide +kernel
theorem dX7_readCommand_110 : decode cX7_readCommand 110 = .ok (.aload_n 1, 1) := by decide +kernel
theorem dX7_readCommand_111 : decode cX7_readCommand 111 = .ok (.getfield 9, 3) := by decide +kernel
theorem dX7_readCommand_114 : decode cX7_readCommand 114 = .ok (.iastore, 1) := by decide +kernel
theorem dX7_readCommand_115 : decode cX7_readCommand 115 = .ok (.iload 5, 2) := by decide +kernel
theorem dX7_readCommand_117 : decode cX7_readCommand 117 = .ok (.ireturn, 1) := by decide +kernel
theorem ct_X7_readCommand : Cond.static yX7_readCommand ∈ TW := TW_of 1049 (by decide +kernel) (by decide +kernel)
abbrev cX7_readCommands : ByteArray := prog_9_method_3_code
def yX7_readCommands : MethodName := ⟨RX7, "readCommands", "(LTranscriptCutter$Tokens;LTranscriptCutter$Script;I)Z"⟩
theorem dX7_readCommands_0 : decode cX7_readCommands 0 = .ok (.iconst 0, 1) := by decide +kernel
theorem dX7_readCommands_1 : decode cX7_readCommands 1 = .ok (.istore_n 3, 1) := by decide +kernel
theorem dX7_readCommands_2 : decode cX7_readCommands 2 = .ok (.iload_n 3, 1) := by decide +kernel
theorem dX7_readCommands_3 : decode cX7_readCommands 3 = .ok (.bipush 30, 2) := by decide +kernel
theorem dX7_readCommands_5 : decode cX7_readCommands 5 = .ok (.if_icmp .gt 36, 3) := by decide +kernel
theorem dX7_readCommands_8 : decode cX7_readCommands 8 = .ok (.aload_n 0, 1) := by decide +kernel
theorem dX7_readCommands_9 : decode cX7_readCommands 9 = .ok (.invokevirtual 26, 3) := by decide +kernel
theorem dX7_readCommands_12 : decode cX7_readCommands 12 = .ok (.ifCond .ne 29, 3) := by decide +kernel
theorem dX7_readCommands_15 : decode cX7_readCommands 15 = .ok (.aload_n 0, 1) := by decide +kernel
theorem dX7_readCommands_16 : decode cX7_readCommands 16 = .ok (.bipush 125, 2) := by decide +kernel
theorem dX7_readCommands_18 : decode cX7_readCommands 18 = .ok (.invokevirtual 34, 3) := by decide +kernel
theorem dX7_readCommands_21 : decode cX7_readCommands 21 = .ok (.ifCond .ne 20, 3) := by decide +kernel
theorem dX7_readCommands_24 : decode cX7_readCommands 24 = .ok (.aload_n 0, 1) := by decide +kernel
theorem dX7_readCommands_25 : decode cX7_readCommands 25 = .ok (.aload_n 1, 1) := by decide +kernel
theorem dX7_readCommands_26 : decode cX7_readCommands 26 = .ok (.iload_n 2, 1) := by decide +kernel
theorem dX7_readCommands_27 : decode cX7_readCommands 27 = .ok (.invokestatic 38, 3) := by decide +kernel
theorem dX7_readCommands_30 : decode cX7_readCommands 30 = .ok (.ifCond .ne 5, 3) := by decide +kernel
theorem dX7_readCommands_33 : decode cX7_readCommands 33 = .ok (.iconst 0, 1) := by decide +kernel
theorem dX7_readCommands_34 : decode cX7_readCommands 34 = .ok (.ireturn, 1) := by decide +kernel
theorem dX7_readCommands_35 : decode cX7_readCommands 35 = .ok (.iinc 3 1, 3) := by decide +kernel
theorem dX7_readCommands_38 : decode cX7_readCommands 38 = .ok (.goto (-36), 3) := by decide +kernel
theorem dX7_readCommands_41 : decode cX7_readCommands 41 = .ok (.iconst 1, 1) := by decide +kernel
theorem dX7_readCommands_42 : decode cX7_readCommands 42 = .ok (.ireturn, 1) := by decide +kernel
theorem ct_X7_readCommands : Cond.static yX7_readCommands ∈ TW := TW_of 1044 (by decide +kernel) (by decide +kernel)
abbrev cX7_readIf : ByteArray := prog_9_method_8_code
def yX7_readIf : MethodName := ⟨RX7, "readIf", "(LTranscriptCutter$Tokens;LTranscriptCutter$Script;II)Z"⟩
theorem dX7_readIf_0 : decode cX7_readIf 0 = .ok (.aload_n 0, 1) := by decide +kernel
theorem dX7_readIf_1 : decode cX7_readIf 1 = .ok (.aload_n 1, 1) := by decide +kernel
theorem dX7_readIf_2 : decode cX7_readIf 2 = .ok (.iconst 2, 1) := by decide +kernel
theorem dX7_readIf_3 : decode cX7_readIf 3 = .ok (.iload_n 2, 1) := by decide +kernel
theorem dX7_readIf_4 : decode cX7_readIf 4 = .ok (.imul, 1) := by decide +kernel
theorem dX7_readIf_5 : decode cX7_readIf 5 = .ok (.invokestatic 81, 3) := by decide +kernel
theorem dX7_readIf_8 : decode cX7_readIf 8 = .ok (.ifCond .eq 12, 3) := by decide +kernel
theorem dX7_readIf_11 : decode cX7_readIf 11 = .ok (.aload_n 0, 1) := by decide +kernel
theorem dX7_readIf_12 : decode cX7_readIf 12 = .ok (.aload_n 1, 1) := by decide +kernel
theorem dX7_readIf_13 : decode cX7_readIf 13 = .ok (.iload_n 3, 1) := by decide +kernel
theorem dX7_readIf_14 : decode cX7_readIf 14 = .ok (.invokestatic 96, 3) := by decide +kernel
theorem dX7_readIf_17 : decode cX7_readIf 17 = .ok (.ifCond .ne 5, 3) := by decide +kernel
theorem dX7_readIf_20 : decode cX7_readIf 20 = .ok (.iconst 0, 1) := by decide +kernel
theorem dX7_readIf_21 : decode cX7_readIf 21 = .ok (.ireturn, 1) := by decide +kernel
theorem dX7_readIf_22 : decode cX7_readIf 22 = .ok (.aload_n 1, 1) := by decide +kernel
theorem dX7_readIf_23 : decode cX7_readIf 23 = .ok (.getfield 99, 3) := by decide +kernel
theorem dX7_readIf_26 : decode cX7_readIf 26 = .ok (.iload_n 2, 1) := by decide +kernel
theorem dX7_readIf_27 : decode cX7_readIf 27 = .ok (.aload_n 1, 1) := by decide +kernel
theorem dX7_readIf_28 : decode cX7_readIf 28 = .ok (.getfield 9, 3) := by decide +kernel
theorem dX7_readIf_31 : decode cX7_readIf 31 = .ok (.iastore, 1) := by decide +kernel
theorem dX7_readIf_32 : decode cX7_readIf 32 = .ok (.aload_n 0, 1) := by decide +kernel
theorem dX7_readIf_33 : decode cX7_readIf 33 = .ok (.ldc 102, 2) := by decide +kernel
theorem dX7_readIf_35 : decode cX7_readIf 35 = .ok (.invokevirtual 67, 3) := by decide +kernel
theorem dX7_readIf_38 : decode cX7_readIf 38 = .ok (.ifCond .ne 5, 3) := by decide +kernel
theorem dX7_readIf_41 : decode cX7_readIf 41 = .ok (.iconst 1, 1) := by decide +kernel
theorem dX7_readIf_42 : decode cX7_readIf 42 = .ok (.ireturn, 1) := by decide +kernel
theorem dX7_readIf_43 : decode cX7_readIf 43 = .ok (.aload_n 0, 1) := by decide +kernel
theorem dX7_readIf_44 : decode cX7_readIf 44 = .ok (.invokevirtual 45, 3) := by decide +kernel
theorem dX7_readIf_47 : decode cX7_readIf 47 = .ok (.aload_n 0, 1) := by decide +kernel
theorem dX7_readIf_48 : decode cX7_readIf 48 = .ok (.aload_n 1, 1) := by decide +kernel
theorem dX7_readIf_49 : decode cX7_readIf 49 = .ok (.iload_n 3, 1) := by decide +kernel
theorem dX7_readIf_50 : decode cX7_readIf 50 = .ok (.invokestatic 96, 3) := by decide +kernel
theorem dX7_readIf_53 : decode cX7_readIf 53 = .ok (.ireturn, 1) := by decide +kernel
theorem ct_X7_readIf : Cond.static yX7_readIf ∈ TW := TW_of 1072 (by decide +kernel) (by decide +kernel)
abbrev cX7_readRepeat : ByteArray := prog_9_method_7_code
def yX7_readRepeat : MethodName := ⟨RX7, "readRepeat", "(LTranscriptCutter$Tokens;LTranscriptCutter$Script;II)Z"⟩
theorem dX7_readRepeat_0 : decode cX7_readRepeat 0 = .ok (.aload_n 0, 1) := by decide +kernel
theorem dX7_readRepeat_1 : decode cX7_readRepeat 1 = .ok (.iconst 1, 1) := by decide +kernel
theorem dX7_readRepeat_2 : decode cX7_readRepeat 2 = .ok (.bipush 9, 2) := by decide +kernel
theorem dX7_readRepeat_4 : decode cX7_readRepeat 4 = .ok (.invokevirtual 89, 3) := by decide +kernel
theorem dX7_readRepeat_7 : decode cX7_readRepeat 7 = .ok (.istore 4, 2) := by decide +kernel
theorem dX7_readRepeat_9 : decode cX7_readRepeat 9 = .ok (.iload 4, 2) := by decide +kernel
theorem dX7_readRepeat_11 : decode cX7_readRepeat 11 = .ok (.iconst (-1), 1) := by decide +kernel
theorem dX7_readRepeat_12 : decode cX7_readRepeat 12 = .ok (.if_icmp .ne 5, 3) := by decide +kernel
theorem dX7_readRepeat_15 : decode cX7_readRepeat 15 = .ok (.iconst 0, 1) := by decide +kernel
theorem dX7_readRepeat_16 : decode cX7_readRepeat 16 = .ok (.ireturn, 1) := by decide +kernel
theorem dX7_readRepeat_17 : decode cX7_readRepeat 17 = .ok (.aload_n 0, 1) := by decide +kernel
theorem dX7_readRepeat_18 : decode cX7_readRepeat 18 = .ok (.invokevirtual 45, 3) := by decide +kernel
theorem dX7_readRepeat_21 : decode cX7_readRepeat 21 = .ok (.aload_n 1, 1) := by decide +kernel
theorem dX7_readRepeat_22 : decode cX7_readRepeat 22 = .ok (.getfield 93, 3) := by decide +kernel
theorem dX7_readRepeat_25 : decode cX7_readRepeat 25 = .ok (.iload_n 2, 1) := by decide +kernel
theorem dX7_readRepeat_26 : decode cX7_readRepeat 26 = .ok (.iload 4, 2) := by decide +kernel
theorem dX7_readRepeat_28 : decode cX7_readRepeat 28 = .ok (.iastore, 1) := by decide +kernel
theorem dX7_readRepeat_29 : decode cX7_readRepeat 29 = .ok (.aload_n 0, 1) := by decide +kernel
theorem dX7_readRepeat_30 : decode cX7_readRepeat 30 = .ok (.aload_n 1, 1) := by decide +kernel
theorem dX7_readRepeat_31 : decode cX7_readRepeat 31 = .ok (.iload_n 3, 1) := by decide +kernel
theorem dX7_readRepeat_32 : decode cX7_readRepeat 32 = .ok (.invokestatic 96, 3) := by decide +kernel
theorem dX7_readRepeat_35 : decode cX7_readRepeat 35 = .ok (.ireturn, 1) := by decide +kernel
theorem ct_X7_readRepeat : Cond.static yX7_readRepeat ∈ TW := TW_of 1064 (by decide +kernel) (by decide +kernel)
abbrev cX7_read : ByteArray := prog_9_method_2_code
def yX7_read : MethodName := ⟨RX7, "read", "(LTranscriptCutter$Tokens;LTranscriptCutter$Script;)Z"⟩
theorem dX7_read_0 : decode cX7_read 0 = .ok (.aload_n 1, 1) := by decide +kernel
theorem dX7_read_1 : decode cX7_read 1 = .ok (.iconst 0, 1) := by decide +kernel
theorem dX7_read_2 : decode cX7_read 2 = .ok (.putfield 9, 3) := by decide +kernel
theorem dX7_read_5 : decode cX7_read 5 = .ok (.aload_n 0, 1) := by decide +kernel
theorem dX7_read_6 : decode cX7_read 6 = .ok (.invokevirtual 15, 3) := by decide +kernel
theorem dX7_read_9 : decode cX7_read 9 = .ok (.aload_n 0, 1) := by decide +kernel
theorem dX7_read_10 : decode cX7_read 10 = .ok (.aload_n 1, 1) := by decide +kernel
theorem dX7_read_11 : decode cX7_read 11 = .ok (.iconst 0, 1) := by decide +kernel
theorem dX7_read_12 : decode cX7_read 12 = .ok (.invokestatic 20, 3) := by decide +kernel
theorem dX7_read_15 : decode cX7_read 15 = .ok (.ifCond .ne 5, 3) := by decide +kernel
theorem dX7_read_18 : decode cX7_read 18 = .ok (.iconst 0, 1) := by decide +kernel
theorem dX7_read_19 : decode cX7_read 19 = .ok (.ireturn, 1) := by decide +kernel
theorem dX7_read_20 : decode cX7_read 20 = .ok (.aload_n 0, 1) := by decide +kernel
theorem dX7_read_21 : decode cX7_read 21 = .ok (.invokevirtual 26, 3) := by decide +kernel
theorem dX7_read_24 : decode cX7_read 24 = .ok (.ifCond .ne 11, 3) := by decide +kernel
theorem dX7_read_27 : decode cX7_read 27 = .ok (.aload_n 0, 1) := by decide +kernel
theorem dX7_read_28 : decode cX7_read 28 = .ok (.iconst 1, 1) := by decide +kernel
theorem dX7_read_29 : decode cX7_read 29 = .ok (.invokevirtual 30, 3) := by decide +kernel
theorem dX7_read_32 : decode cX7_read 32 = .ok (.ifCond .eq 7, 3) := by decide +kernel
theorem dX7_read_35 : decode cX7_read 35 = .ok (.iconst 1, 1) := by decide +kernel
theorem dX7_read_36 : decode cX7_read 36 = .ok (.goto 4, 3) := by decide +kernel
theorem dX7_read_39 : decode cX7_read 39 = .ok (.iconst 0, 1) := by decide +kernel
theorem dX7_read_40 : decode cX7_read 40 = .ok (.ireturn, 1) := by decide +kernel
theorem ct_X7_read : Cond.static yX7_read ∈ TW := TW_of 1040 (by decide +kernel) (by decide +kernel)
theorem cw_X7_67 : CWd RX7 67 yX9_isKeyword cX9_isKeyword 3 (some .boolean) 1 := ⟨TW_of 1055 (by decide +kernel) (by decide +kernel), TW_of 875 (by decide +kernel) (by decide +kernel), TW_of 104 (by decide +kernel) (by decide +kernel), by decide +kernel⟩
theorem cw_X7_30 : CWd RX7 30 yX9_fail cX9_fail 2 (some .boolean) 1 := ⟨TW_of 1061 (by decide +kernel) (by decide +kernel), TW_of 890 (by decide +kernel) (by decide +kernel), TW_of 104 (by decide +kernel) (by decide +kernel), by decide +kernel⟩
theorem cw_X7_34 : CWd RX7 34 yX9_isSign cX9_isSign 2 (some .boolean) 1 := ⟨TW_of 1047 (by decide +kernel) (by decide +kernel), TW_of 944 (by decide +kernel) (by decide +kernel), TW_of 104 (by decide +kernel) (by decide +kernel), by decide +kernel⟩
theorem cw_X7_45 : CWd RX7 45 yX9_advance cX9_advance 2 none 0 := ⟨TW_of 1062 (by decide +kernel) (by decide +kernel), TW_of 862 (by decide +kernel) (by decide +kernel), TW_of 104 (by decide +kernel) (by decide +kernel), by decide +kernel⟩
theorem cw_X7_86 : CWd RX7 86 yX9_takeSign cX9_takeSign 2 (some .boolean) 1 := ⟨TW_of 1070 (by decide +kernel) (by decide +kernel), TW_of 940 (by decide +kernel) (by decide +kernel), TW_of 104 (by decide +kernel) (by decide +kernel), by decide +kernel⟩
theorem cw_X7_104 : CWd RX7 104 yX9_nameHere cX9_nameHere 3 (some .int) 0 := ⟨TW_of 1077 (by decide +kernel) (by decide +kernel), TW_of 899 (by decide +kernel) (by decide +kernel), TW_of 104 (by decide +kernel) (by decide +kernel), by decide +kernel⟩
theorem cw_X7_81 : CWd RX7 81 yX7_readPhrase cX7_readPhrase 6 (some .boolean) 3 := ⟨TW_of 1074 (by decide +kernel) (by decide +kernel), TW_of 1076 (by decide +kernel) (by decide +kernel), TW_of 123 (by decide +kernel) (by decide +kernel), by decide +kernel⟩
theorem cw_X7_20 : CWd RX7 20 yX7_readCommands cX7_readCommands 4 (some .boolean) 3 := ⟨TW_of 1043 (by decide +kernel) (by decide +kernel), TW_of 1045 (by decide +kernel) (by decide +kernel), TW_of 123 (by decide +kernel) (by decide +kernel), by decide +kernel⟩
theorem cw_X7_41 : CWd RX7 41 yX7_kindHere cX7_kindHere 1 (some .int) 1 := ⟨TW_of 1051 (by decide +kernel) (by decide +kernel), TW_of 1053 (by decide +kernel) (by decide +kernel), TW_of 123 (by decide +kernel) (by decide +kernel), by decide +kernel⟩
theorem cw_X7_52 : CWd RX7 52 yX7_readRepeat cX7_readRepeat 5 (some .boolean) 4 := ⟨TW_of 1063 (by decide +kernel) (by decide +kernel), TW_of 1065 (by decide +kernel) (by decide +kernel), TW_of 123 (by decide +kernel) (by decide +kernel), by decide +kernel⟩
theorem cw_X7_56 : CWd RX7 56 yX7_readIf cX7_readIf 4 (some .boolean) 4 := ⟨TW_of 1071 (by decide +kernel) (by decide +kernel), TW_of 1073 (by decide +kernel) (by decide +kernel), TW_of 123 (by decide +kernel) (by decide +kernel), by decide +kernel⟩
theorem cw_X7_59 : CWd RX7 59 yX7_readChange cX7_readChange 3 (some .boolean) 3 := ⟨TW_of 1079 (by decide +kernel) (by decide +kernel), TW_of 1081 (by decide +kernel) (by decide +kernel), TW_of 123 (by decide +kernel) (by decide +kernel), by decide +kernel⟩
theorem cw_X7_26 : CWd RX7 26 yX9_isEnd cX9_isEnd 1 (some .boolean) 0 := ⟨TW_of 1046 (by decide +kernel) (by decide +kernel), TW_of 867 (by decide +kernel) (by decide +kernel), TW_of 104 (by decide +kernel) (by decide +kernel), by decide +kernel⟩
theorem cw_X7_38 : CWd RX7 38 yX7_readCommand cX7_readCommand 6 (some .boolean) 3 := ⟨TW_of 1048 (by decide +kernel) (by decide +kernel), TW_of 1050 (by decide +kernel) (by decide +kernel), TW_of 123 (by decide +kernel) (by decide +kernel), by decide +kernel⟩
theorem cw_X7_96 : CWd RX7 96 yX7_readBlock cX7_readBlock 3 (some .boolean) 3 := ⟨TW_of 1067 (by decide +kernel) (by decide +kernel), TW_of 1069 (by decide +kernel) (by decide +kernel), TW_of 123 (by decide +kernel) (by decide +kernel), by decide +kernel⟩
theorem cw_X7_89 : CWd RX7 89 yX9_numberHere cX9_numberHere 5 (some .int) 2 := ⟨TW_of 1066 (by decide +kernel) (by decide +kernel), TW_of 886 (by decide +kernel) (by decide +kernel), TW_of 104 (by decide +kernel) (by decide +kernel), by decide +kernel⟩
theorem cw_X7_15 : CWd RX7 15 yX9_begin cX9_begin 1 none 0 := ⟨TW_of 1042 (by decide +kernel) (by decide +kernel), TW_of 858 (by decide +kernel) (by decide +kernel), TW_of 104 (by decide +kernel) (by decide +kernel), by decide +kernel⟩
set_option maxRecDepth 20000 in
set_option maxHeartbeats 1000000 in
theorem c_X7_kindHere {l : Launch} {Z : ZT} {g : Hp} {h : Hp} {out : Int32} (hf : f_X7_kindHere h = some out) : Met l yX7_kindHere (wY yX7_kindHere cX7_kindHere 1 (some .int)) (rmD 9) (va_Pc [.ref (Z.1 1)] (Wd Z h g)) (va_Qi (fun r (_ : Unit) => r = out) (fun _ => Wd Z h g) (FR Z)) 0 0 (FR Z) := by
  refine metX RX7 rfl (by decide +kernel) (Nat.le_of_ble_eq_true rfl) ?_
  intro p e s m args below meth c C hW ls hl
  have hl : lv_has ls 1 [(0, .ref (Z.1 1))] := hl
  unfold f_X7_kindHere at hf
  refine lv_aload_n C.1 C.2.1 dX7_kindHere_0 rfl (lv_at hl 0 rfl) ?_
  refine x_ldcS C ms_X7_65 dX7_kindHere_1 ?_
  obtain ⟨u1, hcu1, hf⟩ := bnd_t hf
  refine x_calli hW (x_runV C hW hl (wk7 (k_1)) rfl rfl (c_X9_isKeyword (by decide) hcu1) (cw_X7_67) ci_X9_isKeyword cs_X9_isKeyword (rm_ok (by decide) (by decide)) ⟨Nat.le_refl _, Nat.le_refl _⟩ (As := [.ref (Z.2.2.2.2 (2 * 8))]) rfl rfl (Nat.le_of_ble_eq_true rfl) dX7_kindHere_3) (fun H locs hW => ?_)
  refine x_ifeq (tgt := 11) C hf dX7_kindHere_6 (by decide) (fun hf => ?_) (fun hf => ?_)
  · refine lv_aload_n C.1 C.2.1 dX7_kindHere_11 rfl (lv_at hl 0 rfl) ?_
    refine x_ldcS C ms_X7_71 dX7_kindHere_12 ?_
    obtain ⟨u2, hcu2, hf⟩ := bnd_t hf
    refine x_calli hW (x_runV C hW hl (wk7 (k_1)) rfl rfl (c_X9_isKeyword (by decide) hcu2) (cw_X7_67) ci_X9_isKeyword cs_X9_isKeyword (rm_ok (by decide) (by decide)) ⟨Nat.le_refl _, Nat.le_refl _⟩ (As := [.ref (Z.2.2.2.2 (2 * 9))]) rfl rfl (Nat.le_of_ble_eq_true rfl) dX7_kindHere_14) (fun H locs hW => ?_)
    refine x_ifeq (tgt := 22) C hf dX7_kindHere_17 (by decide) (fun hf => ?_) (fun hf => ?_)
    · refine lv_aload_n C.1 C.2.1 dX7_kindHere_22 rfl (lv_at hl 0 rfl) ?_
      refine x_ldcS C ms_X7_73 dX7_kindHere_23 ?_
      obtain ⟨u3, hcu3, hf⟩ := bnd_t hf
      refine x_calli hW (x_runV C hW hl (wk7 (k_1)) rfl rfl (c_X9_isKeyword (by decide) hcu3) (cw_X7_67) ci_X9_isKeyword cs_X9_isKeyword (rm_ok (by decide) (by decide)) ⟨Nat.le_refl _, Nat.le_refl _⟩ (As := [.ref (Z.2.2.2.2 (2 * 10))]) rfl rfl (Nat.le_of_ble_eq_true rfl) dX7_kindHere_25) (fun H locs hW => ?_)
      refine x_ifeq (tgt := 33) C hf dX7_kindHere_28 (by decide) (fun hf => ?_) (fun hf => ?_)
      · refine lv_aload_n C.1 C.2.1 dX7_kindHere_33 rfl (lv_at hl 0 rfl) ?_
        refine x_ldcS C ms_X7_75 dX7_kindHere_34 ?_
        obtain ⟨u4, hcu4, hf⟩ := bnd_t hf
        refine x_calli hW (x_runV C hW hl (wk7 (k_1)) rfl rfl (c_X9_isKeyword (by decide) hcu4) (cw_X7_67) ci_X9_isKeyword cs_X9_isKeyword (rm_ok (by decide) (by decide)) ⟨Nat.le_refl _, Nat.le_refl _⟩ (As := [.ref (Z.2.2.2.2 (2 * 11))]) rfl rfl (Nat.le_of_ble_eq_true rfl) dX7_kindHere_36) (fun H locs hW => ?_)
        refine x_ifeq (tgt := 44) C hf dX7_kindHere_39 (by decide) (fun hf => ?_) (fun hf => ?_)
        · refine lv_aload_n C.1 C.2.1 dX7_kindHere_44 rfl (lv_at hl 0 rfl) ?_
          refine x_ldcS C ms_X7_77 dX7_kindHere_45 ?_
          obtain ⟨u5, hcu5, hf⟩ := bnd_t hf
          refine x_calli hW (x_runV C hW hl (wk7 (k_1)) rfl rfl (c_X9_isKeyword (by decide) hcu5) (cw_X7_67) ci_X9_isKeyword cs_X9_isKeyword (rm_ok (by decide) (by decide)) ⟨Nat.le_refl _, Nat.le_refl _⟩ (As := [.ref (Z.2.2.2.2 (2 * 12))]) rfl rfl (Nat.le_of_ble_eq_true rfl) dX7_kindHere_47) (fun H locs hW => ?_)
          refine x_ifeq (tgt := 55) C hf dX7_kindHere_50 (by decide) (fun hf => ?_) (fun hf => ?_)
          · refine lv_aload_n C.1 C.2.1 dX7_kindHere_55 rfl (lv_at hl 0 rfl) ?_
            refine x_ldcS C ms_X7_79 dX7_kindHere_56 ?_
            obtain ⟨u6, hcu6, hf⟩ := bnd_t hf
            refine x_calli hW (x_runV C hW hl (wk7 (k_1)) rfl rfl (c_X9_isKeyword (by decide) hcu6) (cw_X7_67) ci_X9_isKeyword cs_X9_isKeyword (rm_ok (by decide) (by decide)) ⟨Nat.le_refl _, Nat.le_refl _⟩ (As := [.ref (Z.2.2.2.2 (2 * 13))]) rfl rfl (Nat.le_of_ble_eq_true rfl) dX7_kindHere_58) (fun H locs hW => ?_)
            refine x_ifeq (tgt := 68) C hf dX7_kindHere_61 (by decide) (fun hf => ?_) (fun hf => ?_)
            · refine lv_iconst (v := -1) C.1 C.2.1 dX7_kindHere_68 (by decide) ?_
              exact x_iret C hW dX7_kindHere_69 (Option.some.inj hf)
            · refine lv_iconst (v := 5) C.1 C.2.1 dX7_kindHere_64 (by decide) ?_
              refine lv_goto (tgt := 69) C.1 C.2.1 dX7_kindHere_65 (by decide) ?_
              exact x_iret C hW dX7_kindHere_69 (Option.some.inj hf)
          · refine lv_iconst (v := 4) C.1 C.2.1 dX7_kindHere_53 (by decide) ?_
            exact x_iret C hW dX7_kindHere_54 (Option.some.inj hf)
        · refine lv_iconst (v := 3) C.1 C.2.1 dX7_kindHere_42 (by decide) ?_
          exact x_iret C hW dX7_kindHere_43 (Option.some.inj hf)
      · refine lv_iconst (v := 2) C.1 C.2.1 dX7_kindHere_31 (by decide) ?_
        exact x_iret C hW dX7_kindHere_32 (Option.some.inj hf)
    · refine lv_iconst (v := 1) C.1 C.2.1 dX7_kindHere_20 (by decide) ?_
      exact x_iret C hW dX7_kindHere_21 (Option.some.inj hf)
  · refine lv_iconst (v := 0) C.1 C.2.1 dX7_kindHere_9 (by decide) ?_
    exact x_iret C hW dX7_kindHere_10 (Option.some.inj hf)
set_option maxRecDepth 20000 in
set_option maxHeartbeats 1000000 in
theorem j_X7_readPhrase_89 {l : Launch} {Z : ZT} {g : Hp} {p1 : Nat} {p2 : Int32} {h : Hp} {x3 : Int32} (hk_p1 : knd p1 = 6) {p : Program} {e : Env} {s : State} {m : MethodId} {args : Array Value} {below : List Frame} {meth : Method} {c : Code} (C : CX p s m args meth c cX7_readPhrase RX7 6 (some .boolean) Z) {out : Int32 × Hp} {ls : Array Slot} {H : Heap} {locs : List Loc} (hW : XW Z h g s.heap H locs) (hl : lv_has ls 6 [(0, .ref (Z.1 1)), (1, .ref (Z.1 p1)), (2, .int p2), (3, .int x3)]) (hf : J_X7_readPhrase_89 p1 p2 h x3 = some out) : W p l e (rmD 2) s m args below meth c H locs 0 0 (MQ below (va_Qi (fun r (_ : Unit) => r = out.1) (fun _ => Wd Z out.2 g) (FR Z)) args s 0 0 (FR Z)) (F0 m 89 ls []) := by
  refine lv_aload_n C.1 C.2.1 dX7_readPhrase_89 rfl (lv_at hl 1 rfl) ?_
  refine xg_X7_111 C hW hk_p1 dX7_readPhrase_90 ?_
  refine lv_iload_n C.1 C.2.1 dX7_readPhrase_93 rfl (lv_at hl 2 rfl) ?_
  refine lv_iload_n C.1 C.2.1 dX7_readPhrase_94 rfl (lv_at hl 3 rfl) ?_
  refine x_iastC C hW (o_X6_5 hk_p1) hf dX7_readPhrase_95 (fun h1 H locs hf hW => ?_)
  refine lv_aload_n C.1 C.2.1 dX7_readPhrase_96 rfl (lv_at hl 0 rfl) ?_
  refine lv_bipush (v := 41) C.1 C.2.1 dX7_readPhrase_97 (by decide) ?_
  obtain ⟨u2, hcu2, hf⟩ := bnd_t hf
  refine x_calli hW (x_runV C hW hl (wk7 (k_1)) rfl rfl (c_X9_takeSign hcu2) (cw_X7_86) ci_X9_takeSign cs_X9_takeSign (rm_ok (by decide) (by decide)) ⟨Nat.le_refl _, Nat.le_refl _⟩ (As := [.int (41 : Int32)]) rfl rfl (Nat.le_of_ble_eq_true rfl) dX7_readPhrase_99) (fun H locs hW => ?_)
  obtain ⟨hz, hf⟩ := ck_t hf
  obtain rfl := Option.some.inj hf
  exact x_zret C hW hz dX7_readPhrase_102 rfl
set_option maxRecDepth 20000 in
set_option maxHeartbeats 1000000 in
theorem j_X7_readPhrase_57 {l : Launch} {Z : ZT} {g : Hp} {p1 : Nat} {p2 : Int32} {h : Hp} (hk_p1 : knd p1 = 6) {p : Program} {e : Env} {s : State} {m : MethodId} {args : Array Value} {below : List Frame} {meth : Method} {c : Code} (C : CX p s m args meth c cX7_readPhrase RX7 6 (some .boolean) Z) {out : Int32 × Hp} {ls : Array Slot} {H : Heap} {locs : List Loc} (hW : XW Z h g s.heap H locs) (hl : lv_has ls 6 [(0, .ref (Z.1 1)), (1, .ref (Z.1 p1)), (2, .int p2)]) (hf : J_X7_readPhrase_57 p1 p2 h = some out) : W p l e (rmD 2) s m args below meth c H locs 0 0 (MQ below (va_Qi (fun r (_ : Unit) => r = out.1) (fun _ => Wd Z out.2 g) (FR Z)) args s 0 0 (FR Z)) (F0 m 57 ls []) := by
  rw [J_X7_readPhrase_57] at hf
  refine lv_aload_n C.1 C.2.1 dX7_readPhrase_57 rfl (lv_at hl 0 rfl) ?_
  refine lv_iconst (v := 4) C.1 C.2.1 dX7_readPhrase_58 (by decide) ?_
  obtain ⟨u3, hcu3, hf⟩ := bnd_t hf
  refine x_calli hW (x_runV C hW hl (wk7 (k_1)) rfl rfl (c_X9_fail hcu3) (cw_X7_30) ci_X9_fail cs_X9_fail (rm_ok (by decide) (by decide)) ⟨Nat.le_refl _, Nat.le_refl _⟩ (As := [.int (4 : Int32)]) rfl rfl (Nat.le_of_ble_eq_true rfl) dX7_readPhrase_59) (fun H locs hW => ?_)
  obtain ⟨hz, hf⟩ := ck_t hf
  obtain rfl := Option.some.inj hf
  exact x_zret C hW hz dX7_readPhrase_62 rfl
set_option maxRecDepth 20000 in
set_option maxHeartbeats 1000000 in
theorem j_X7_readPhrase_37 {l : Launch} {Z : ZT} {g : Hp} {p1 : Nat} {p2 : Int32} {h : Hp} {r16 : Int32 × Int32 × Hp → Option (Int32 × Hp)} {x3 : Int32} {x4 : Int32} (hk_p1 : knd p1 = 6) {p : Program} {e : Env} {s : State} {m : MethodId} {args : Array Value} {below : List Frame} {meth : Method} {c : Code} (C : CX p s m args meth c cX7_readPhrase RX7 6 (some .boolean) Z) {out : Int32 × Hp} (hr16 : ∀ (x3 : Int32) (x4 : Int32) (h : Hp) (ls : Array Slot) (H : Heap) (locs : List Loc), XW Z h g s.heap H locs → lv_has ls 6 [(0, .ref (Z.1 1)), (1, .ref (Z.1 p1)), (2, .int p2), (3, .int x3), (4, .int x4)] → r16 (x3, x4, h) = some out → W p l e (rmD 2) s m args below meth c H locs 0 0 (MQ below (va_Qi (fun r (_ : Unit) => r = out.1) (fun _ => Wd Z out.2 g) (FR Z)) args s 0 0 (FR Z)) (F0 m 16 ls [])) {ls : Array Slot} {H : Heap} {locs : List Loc} (hW : XW Z h g s.heap H locs) (hl : lv_has ls 6 [(0, .ref (Z.1 1)), (1, .ref (Z.1 p1)), (2, .int p2), (3, .int x3), (4, .int x4)]) (hf : J_X7_readPhrase_37 p1 p2 h r16 x3 x4 = some out) : W p l e (rmD 2) s m args below meth c H locs 0 0 (MQ below (va_Qi (fun r (_ : Unit) => r = out.1) (fun _ => Wd Z out.2 g) (FR Z)) args s 0 0 (FR Z)) (F0 m 37 ls []) := by
  rw [J_X7_readPhrase_37] at hf
  refine lv_aload_n C.1 C.2.1 dX7_readPhrase_37 rfl (lv_at hl 0 rfl) ?_
  obtain ⟨u4, hcu4, hf⟩ := bnd_t hf
  refine x_calli hW (x_runV C hW hl (wk7 (k_1)) rfl rfl (c_X9_nameHere hcu4) (cw_X7_104) ci_X9_nameHere cs_X9_nameHere (rm_ok (by decide) (by decide)) ⟨Nat.le_refl _, Nat.le_refl _⟩ (As := []) rfl rfl (Nat.le_of_ble_eq_true rfl) dX7_readPhrase_38) (fun H locs hW => ?_)
  refine lv_istore (lv' := [(5, .int u4.1), (0, .ref (Z.1 1)), (1, .ref (Z.1 p1)), (2, .int p2), (3, .int x3), (4, .int x4)]) C.1 C.2.1 dX7_readPhrase_41 hl (by decide) rfl (fun ls hl => ?_)
  refine lv_iload C.1 C.2.1 dX7_readPhrase_43 (lv_at hl 0 rfl) ?_
  refine lv_iconst (v := -1) C.1 C.2.1 dX7_readPhrase_45 (by decide) ?_
  refine x_cmpne (tgt := 51) C hf dX7_readPhrase_46 (by decide) (fun hf => ?_) (fun hf => ?_)
  · refine lv_iload_n C.1 C.2.1 dX7_readPhrase_51 rfl (lv_at hl 4 rfl) ?_
    refine lv_bipush (v := 6) C.1 C.2.1 dX7_readPhrase_52 (by decide) ?_
    refine x_cmplt (tgt := 63) C hf dX7_readPhrase_54 (by decide) (fun hf => ?_) (fun hf => ?_)
    · refine lv_aload_n C.1 C.2.1 dX7_readPhrase_63 rfl (lv_at hl 2 rfl) ?_
      refine xg_X7_108 C hW hk_p1 dX7_readPhrase_64 ?_
      refine lv_iload_n C.1 C.2.1 dX7_readPhrase_67 rfl (lv_at hl 3 rfl) ?_
      refine lv_bipush (v := 6) C.1 C.2.1 dX7_readPhrase_68 (by decide) ?_
      refine lv_imul C.1 C.2.1 dX7_readPhrase_70 ?_
      refine lv_iload_n C.1 C.2.1 dX7_readPhrase_71 rfl (lv_at hl 4 rfl) ?_
      refine lv_iadd C.1 C.2.1 dX7_readPhrase_72 ?_
      refine lv_iload C.1 C.2.1 dX7_readPhrase_73 (lv_at hl 0 rfl) ?_
      refine x_iastC C hW (o_X6_6 hk_p1) hf dX7_readPhrase_75 (fun h5 H locs hf hW => ?_)
      refine x_iinc (w := 1) C hf dX7_readPhrase_76 hl (k := 4) rfl (by decide) (by decide) (fun v6 => [(3, .int v6), (5, .int u4.1), (0, .ref (Z.1 1)), (1, .ref (Z.1 p1)), (2, .int p2), (4, .int x4)]) (fun _ => rfl) (fun v6 ls hf hl => ?_)
      refine lv_aload_n C.1 C.2.1 dX7_readPhrase_79 rfl (lv_at hl 2 rfl) ?_
      obtain ⟨u7, hcu7, hf⟩ := bnd_t hf
      refine x_callv hW (x_runV C hW hl (wk7 (k_1)) rfl rfl (c_X9_advance hcu7) (cw_X7_45) ci_X9_advance cs_X9_advance (rm_ok (by decide) (by decide)) ⟨Nat.le_refl _, Nat.le_refl _⟩ (As := []) rfl rfl (Nat.le_of_ble_eq_true rfl) dX7_readPhrase_80) (fun H locs hW => ?_)
      refine x_iinc (w := 1) C hf dX7_readPhrase_83 hl (k := 5) rfl (by decide) (by decide) (fun v8 => [(4, .int v8), (3, .int v6), (5, .int u4.1), (0, .ref (Z.1 1)), (1, .ref (Z.1 p1)), (2, .int p2)]) (fun _ => rfl) (fun v8 ls hf hl => ?_)
      refine lv_goto (tgt := 16) C.1 C.2.1 dX7_readPhrase_86 (by decide) ?_
      exact hr16 v6 v8 u7 ls _ _ hW (lv_sub hl [3, 4, 5, 1, 0] rfl) hf
    · exact j_X7_readPhrase_57 hk_p1 C hW (lv_sub hl [1, 2, 3] rfl) hf
  · refine lv_iconst (v := 0) C.1 C.2.1 dX7_readPhrase_49 (by decide) ?_
    obtain rfl := Option.some.inj hf
    exact x_zret C hW (by decide) dX7_readPhrase_50 rfl
set_option maxRecDepth 20000 in
set_option maxHeartbeats 1000000 in
theorem l_X7_readPhrase_16 {l : Launch} {Z : ZT} {g : Hp} {p1 : Nat} {p2 : Int32} (hk_p1 : knd p1 = 6) {p : Program} {e : Env} {s : State} {m : MethodId} {args : Array Value} {below : List Frame} {meth : Method} {c : Code} (C : CX p s m args meth c cX7_readPhrase RX7 6 (some .boolean) Z) {out : Int32 × Hp} : ∀ (n : Nat) (x3 : Int32) (x4 : Int32) (h : Hp) (ls : Array Slot) (H : Heap) (locs : List Loc), XW Z h g s.heap H locs → lv_has ls 6 [(0, .ref (Z.1 1)), (1, .ref (Z.1 p1)), (2, .int p2), (3, .int x3), (4, .int x4)] → Lp (F_X7_readPhrase_16 p1 p2) n (x3, x4, h) = some out → W p l e (rmD 2) s m args below meth c H locs 0 0 (MQ below (va_Qi (fun r (_ : Unit) => r = out.1) (fun _ => Wd Z out.2 g) (FR Z)) args s 0 0 (FR Z)) (F0 m 16 ls []) := by
  intro n
  induction n with
  | zero => intro x3 x4 h ls H locs hW hl hf; cases hf
  | succ n ih =>
    intro x3 x4 h ls H locs hW hl hf
    rw [Lp_s] at hf
    refine lv_iload C.1 C.2.1 dX7_readPhrase_16 (lv_at hl 4 rfl) ?_
    refine lv_bipush (v := 6) C.1 C.2.1 dX7_readPhrase_18 (by decide) ?_
    refine x_cmpgt (tgt := 89) C hf dX7_readPhrase_20 (by decide) (fun hf => ?_) (fun hf => ?_)
    · exact j_X7_readPhrase_89 hk_p1 C hW (lv_sub hl [0, 1, 2, 3] rfl) hf
    · refine lv_iload C.1 C.2.1 dX7_readPhrase_23 (lv_at hl 4 rfl) ?_
      refine x_ifeq (tgt := 37) C hf dX7_readPhrase_25 (by decide) (fun hf => ?_) (fun hf => ?_)
      · exact j_X7_readPhrase_37 hk_p1 C (fun z0 z1 z2 => ih z0 z1 z2) hW (lv_sub hl [0, 1, 2, 3, 4] rfl) hf
      · refine lv_aload_n C.1 C.2.1 dX7_readPhrase_28 rfl (lv_at hl 0 rfl) ?_
        refine lv_bipush (v := 41) C.1 C.2.1 dX7_readPhrase_29 (by decide) ?_
        obtain ⟨u9, hcu9, hf⟩ := bnd_t hf
        refine x_calli hW (x_runV C hW hl (wk7 (k_1)) rfl rfl (c_X9_isSign hcu9) (cw_X7_34) ci_X9_isSign cs_X9_isSign (rm_ok (by decide) (by decide)) ⟨Nat.le_refl _, Nat.le_refl _⟩ (As := [.int (41 : Int32)]) rfl rfl (Nat.le_of_ble_eq_true rfl) dX7_readPhrase_31) (fun H locs hW => ?_)
        refine x_ifne (tgt := 89) C hf dX7_readPhrase_34 (by decide) (fun hf => ?_) (fun hf => ?_)
        · exact j_X7_readPhrase_89 hk_p1 C hW (lv_sub hl [0, 1, 2, 3] rfl) hf
        · exact j_X7_readPhrase_37 hk_p1 C (fun z0 z1 z2 => ih z0 z1 z2) hW (lv_sub hl [0, 1, 2, 3, 4] rfl) hf
set_option maxRecDepth 20000 in
set_option maxHeartbeats 1000000 in
theorem c_X7_readPhrase {l : Launch} {Z : ZT} {g : Hp} {h : Hp} {p1 : Nat} {p2 : Int32} (hk_p1 : knd p1 = 6) {out : Int32 × Hp} (hf : f_X7_readPhrase h p1 p2 = some out) : Met l yX7_readPhrase (wY yX7_readPhrase cX7_readPhrase 6 (some .boolean)) (rmD 2) (va_Pc [.ref (Z.1 1), .ref (Z.1 p1), .int p2] (Wd Z h g)) (va_Qi (fun r (_ : Unit) => r = out.1) (fun _ => Wd Z out.2 g) (FR Z)) 0 0 (FR Z) := by
  refine metX RX7 rfl (by decide +kernel) (Nat.le_of_ble_eq_true rfl) ?_
  intro p e s m args below meth c C hW ls hl
  have hl : lv_has ls 6 [(0, .ref (Z.1 1)), (1, .ref (Z.1 p1)), (2, .int p2)] := hl
  unfold f_X7_readPhrase at hf
  refine lv_aload_n C.1 C.2.1 dX7_readPhrase_0 rfl (lv_at hl 0 rfl) ?_
  refine lv_bipush (v := 40) C.1 C.2.1 dX7_readPhrase_1 (by decide) ?_
  obtain ⟨u10, hcu10, hf⟩ := bnd_t hf
  refine x_calli hW (x_runV C hW hl (wk7 (k_1)) rfl rfl (c_X9_takeSign hcu10) (cw_X7_86) ci_X9_takeSign cs_X9_takeSign (rm_ok (by decide) (by decide)) ⟨Nat.le_refl _, Nat.le_refl _⟩ (As := [.int (40 : Int32)]) rfl rfl (Nat.le_of_ble_eq_true rfl) dX7_readPhrase_3) (fun H locs hW => ?_)
  refine x_ifne (tgt := 11) C hf dX7_readPhrase_6 (by decide) (fun hf => ?_) (fun hf => ?_)
  · refine lv_iconst (v := 0) C.1 C.2.1 dX7_readPhrase_11 (by decide) ?_
    refine lv_istore_n (lv' := [(3, .int (0 : Int32)), (0, .ref (Z.1 1)), (1, .ref (Z.1 p1)), (2, .int p2)]) C.1 C.2.1 dX7_readPhrase_12 rfl hl (by decide) rfl (fun ls hl => ?_)
    refine lv_iconst (v := 0) C.1 C.2.1 dX7_readPhrase_13 (by decide) ?_
    refine lv_istore (lv' := [(4, .int (0 : Int32)), (3, .int (0 : Int32)), (0, .ref (Z.1 1)), (1, .ref (Z.1 p1)), (2, .int p2)]) C.1 C.2.1 dX7_readPhrase_14 hl (by decide) rfl (fun ls hl => ?_)
    exact l_X7_readPhrase_16 hk_p1 C FU (0 : Int32) (0 : Int32) u10.2 ls _ _ hW (lv_sub hl [2, 3, 4, 1, 0] rfl) hf
  · refine lv_iconst (v := 0) C.1 C.2.1 dX7_readPhrase_9 (by decide) ?_
    obtain rfl := Option.some.inj hf
    exact x_zret C hW (by decide) dX7_readPhrase_10 rfl
set_option maxRecDepth 20000 in
set_option maxHeartbeats 1000000 in
theorem j_X7_readChange_57 {l : Launch} {Z : ZT} {g : Hp} {p1 : Nat} {p2 : Int32} {h : Hp} (hk_p1 : knd p1 = 6) {p : Program} {e : Env} {s : State} {m : MethodId} {args : Array Value} {below : List Frame} {meth : Method} {c : Code} (C : CX p s m args meth c cX7_readChange RX7 3 (some .boolean) Z) {out : Int32 × Hp} {ls : Array Slot} {H : Heap} {locs : List Loc} (hW : XW Z h g s.heap H locs) (hl : lv_has ls 3 [(0, .ref (Z.1 1)), (1, .ref (Z.1 p1)), (2, .int p2)]) (hf : J_X7_readChange_57 p1 p2 h = some out) : W p l e (rmD 9) s m args below meth c H locs 0 0 (MQ below (va_Qi (fun r (_ : Unit) => r = out.1) (fun _ => Wd Z out.2 g) (FR Z)) args s 0 0 (FR Z)) (F0 m 57 ls []) := by
  rw [J_X7_readChange_57] at hf
  refine lv_aload_n C.1 C.2.1 dX7_readChange_57 rfl (lv_at hl 0 rfl) ?_
  refine lv_bipush (v := 59) C.1 C.2.1 dX7_readChange_58 (by decide) ?_
  obtain ⟨u1, hcu1, hf⟩ := bnd_t hf
  refine x_calli hW (x_runV C hW hl (wk7 (k_1)) rfl rfl (c_X9_takeSign hcu1) (cw_X7_86) ci_X9_takeSign cs_X9_takeSign (rm_ok (by decide) (by decide)) ⟨Nat.le_refl _, Nat.le_refl _⟩ (As := [.int (59 : Int32)]) rfl rfl (Nat.le_of_ble_eq_true rfl) dX7_readChange_60) (fun H locs hW => ?_)
  obtain ⟨hz, hf⟩ := ck_t hf
  obtain rfl := Option.some.inj hf
  exact x_zret C hW hz dX7_readChange_63 rfl
set_option maxRecDepth 20000 in
set_option maxHeartbeats 1000000 in
theorem c_X7_readChange {l : Launch} {Z : ZT} {g : Hp} {h : Hp} {p1 : Nat} {p2 : Int32} (hk_p1 : knd p1 = 6) {out : Int32 × Hp} (hf : f_X7_readChange h p1 p2 = some out) : Met l yX7_readChange (wY yX7_readChange cX7_readChange 3 (some .boolean)) (rmD 9) (va_Pc [.ref (Z.1 1), .ref (Z.1 p1), .int p2] (Wd Z h g)) (va_Qi (fun r (_ : Unit) => r = out.1) (fun _ => Wd Z out.2 g) (FR Z)) 0 0 (FR Z) := by
  refine metX RX7 rfl (by decide +kernel) (Nat.le_of_ble_eq_true rfl) ?_
  intro p e s m args below meth c C hW ls hl
  have hl : lv_has ls 3 [(0, .ref (Z.1 1)), (1, .ref (Z.1 p1)), (2, .int p2)] := hl
  unfold f_X7_readChange at hf
  refine lv_aload_n C.1 C.2.1 dX7_readChange_0 rfl (lv_at hl 0 rfl) ?_
  refine lv_aload_n C.1 C.2.1 dX7_readChange_1 rfl (lv_at hl 1 rfl) ?_
  refine lv_iconst (v := 2) C.1 C.2.1 dX7_readChange_2 (by decide) ?_
  refine lv_iload_n C.1 C.2.1 dX7_readChange_3 rfl (lv_at hl 2 rfl) ?_
  refine lv_imul C.1 C.2.1 dX7_readChange_4 ?_
  obtain ⟨u2, hcu2, hf⟩ := bnd_t hf
  refine x_calli hW (x_runS C hW hl (c_X7_readPhrase hk_p1 hcu2) (cw_X7_81) ct_X7_readPhrase (rm_ok (by decide) (by decide)) ⟨Nat.le_refl _, Nat.le_refl _⟩ (As := [.ref (Z.1 1), .ref (Z.1 p1), .int ((2 : Int32) * p2)]) rfl rfl (Nat.le_of_ble_eq_true rfl) dX7_readChange_5) (fun H locs hW => ?_)
  refine x_ifne (tgt := 13) C hf dX7_readChange_8 (by decide) (fun hf => ?_) (fun hf => ?_)
  · refine lv_aload_n C.1 C.2.1 dX7_readChange_13 rfl (lv_at hl 1 rfl) ?_
    refine xg_X7_48 C hW hk_p1 dX7_readChange_14 ?_
    refine lv_iload_n C.1 C.2.1 dX7_readChange_17 rfl (lv_at hl 2 rfl) ?_
    refine x_ialdC C hW (o_X6_1 hk_p1) hf dX7_readChange_18 (fun hf => ?_)
    refine lv_iconst (v := 3) C.1 C.2.1 dX7_readChange_19 (by decide) ?_
    refine x_cmpne (tgt := 57) C hf dX7_readChange_20 (by decide) (fun hf => ?_) (fun hf => ?_)
    · exact j_X7_readChange_57 hk_p1 C hW (lv_sub hl [0, 1, 2] rfl) hf
    · refine lv_aload_n C.1 C.2.1 dX7_readChange_23 rfl (lv_at hl 0 rfl) ?_
      refine x_ldcS C ms_X7_84 dX7_readChange_24 ?_
      obtain ⟨u3, hcu3, hf⟩ := bnd_t hf
      refine x_calli hW (x_runV C hW hl (wk7 (k_1)) rfl rfl (c_X9_isKeyword (by decide) hcu3) (cw_X7_67) ci_X9_isKeyword cs_X9_isKeyword (rm_ok (by decide) (by decide)) ⟨Nat.le_refl _, Nat.le_refl _⟩ (As := [.ref (Z.2.2.2.2 (2 * 15))]) rfl rfl (Nat.le_of_ble_eq_true rfl) dX7_readChange_26) (fun H locs hW => ?_)
      refine x_ifne (tgt := 38) C hf dX7_readChange_29 (by decide) (fun hf => ?_) (fun hf => ?_)
      · refine lv_aload_n C.1 C.2.1 dX7_readChange_38 rfl (lv_at hl 0 rfl) ?_
        obtain ⟨u4, hcu4, hf⟩ := bnd_t hf
        refine x_callv hW (x_runV C hW hl (wk7 (k_1)) rfl rfl (c_X9_advance hcu4) (cw_X7_45) ci_X9_advance cs_X9_advance (rm_ok (by decide) (by decide)) ⟨Nat.le_refl _, Nat.le_refl _⟩ (As := []) rfl rfl (Nat.le_of_ble_eq_true rfl) dX7_readChange_39) (fun H locs hW => ?_)
        refine lv_aload_n C.1 C.2.1 dX7_readChange_42 rfl (lv_at hl 0 rfl) ?_
        refine lv_aload_n C.1 C.2.1 dX7_readChange_43 rfl (lv_at hl 1 rfl) ?_
        refine lv_iconst (v := 2) C.1 C.2.1 dX7_readChange_44 (by decide) ?_
        refine lv_iload_n C.1 C.2.1 dX7_readChange_45 rfl (lv_at hl 2 rfl) ?_
        refine lv_imul C.1 C.2.1 dX7_readChange_46 ?_
        refine lv_iconst (v := 1) C.1 C.2.1 dX7_readChange_47 (by decide) ?_
        refine lv_iadd C.1 C.2.1 dX7_readChange_48 ?_
        obtain ⟨u5, hcu5, hf⟩ := bnd_t hf
        refine x_calli hW (x_runS C hW hl (c_X7_readPhrase hk_p1 hcu5) (cw_X7_81) ct_X7_readPhrase (rm_ok (by decide) (by decide)) ⟨Nat.le_refl _, Nat.le_refl _⟩ (As := [.ref (Z.1 1), .ref (Z.1 p1), .int (((2 : Int32) * p2) + (1 : Int32))]) rfl rfl (Nat.le_of_ble_eq_true rfl) dX7_readChange_49) (fun H locs hW => ?_)
        refine x_ifne (tgt := 57) C hf dX7_readChange_52 (by decide) (fun hf => ?_) (fun hf => ?_)
        · exact j_X7_readChange_57 hk_p1 C hW (lv_sub hl [0, 1, 2] rfl) hf
        · refine lv_iconst (v := 0) C.1 C.2.1 dX7_readChange_55 (by decide) ?_
          obtain rfl := Option.some.inj hf
          exact x_zret C hW (by decide) dX7_readChange_56 rfl
      · refine lv_aload_n C.1 C.2.1 dX7_readChange_32 rfl (lv_at hl 0 rfl) ?_
        refine lv_iconst (v := 1) C.1 C.2.1 dX7_readChange_33 (by decide) ?_
        obtain ⟨u6, hcu6, hf⟩ := bnd_t hf
        refine x_calli hW (x_runV C hW hl (wk7 (k_1)) rfl rfl (c_X9_fail hcu6) (cw_X7_30) ci_X9_fail cs_X9_fail (rm_ok (by decide) (by decide)) ⟨Nat.le_refl _, Nat.le_refl _⟩ (As := [.int (1 : Int32)]) rfl rfl (Nat.le_of_ble_eq_true rfl) dX7_readChange_34) (fun H locs hW => ?_)
        obtain ⟨hz, hf⟩ := ck_t hf
        obtain rfl := Option.some.inj hf
        exact x_zret C hW hz dX7_readChange_37 rfl
  · refine lv_iconst (v := 0) C.1 C.2.1 dX7_readChange_11 (by decide) ?_
    obtain rfl := Option.some.inj hf
    exact x_zret C hW (by decide) dX7_readChange_12 rfl
set_option maxRecDepth 20000 in
set_option maxHeartbeats 1000000 in
theorem b_X7_readBlock {l : Launch} {Z : ZT} {g : Hp} {n0 : Nat} {cf_X7_readBlock : Hp → Nat → Int32 → Option (Int32 × Hp)} {cf_X7_readCommand : Hp → Nat → Int32 → Option (Int32 × Hp)} {cf_X7_readCommands : Hp → Nat → Int32 → Option (Int32 × Hp)} {cf_X7_readIf : Hp → Nat → Int32 → Int32 → Option (Int32 × Hp)} {cf_X7_readRepeat : Hp → Nat → Int32 → Int32 → Option (Int32 × Hp)} {h : Hp} {p1 : Nat} {p2 : Int32} (hcf_X7_readBlock : ∀ {h g : Hp} {p1 : Nat} {p2 : Int32} {out : Int32 × Hp} (hk_p1 : knd p1 = 6), cf_X7_readBlock h p1 p2 = some out → Met l yX7_readBlock (wY yX7_readBlock cX7_readBlock 3 (some .boolean)) (rmD (10 + n0)) (va_Pc [.ref (Z.1 1), .ref (Z.1 p1), .int p2] (Wd Z h g)) (va_Qi (fun r (_ : Unit) => r = out.1) (fun _ => Wd Z out.2 g) (FR Z)) 0 0 (FR Z)) (hcf_X7_readCommand : ∀ {h g : Hp} {p1 : Nat} {p2 : Int32} {out : Int32 × Hp} (hk_p1 : knd p1 = 6), cf_X7_readCommand h p1 p2 = some out → Met l yX7_readCommand (wY yX7_readCommand cX7_readCommand 6 (some .boolean)) (rmD (10 + n0)) (va_Pc [.ref (Z.1 1), .ref (Z.1 p1), .int p2] (Wd Z h g)) (va_Qi (fun r (_ : Unit) => r = out.1) (fun _ => Wd Z out.2 g) (FR Z)) 0 0 (FR Z)) (hcf_X7_readCommands : ∀ {h g : Hp} {p1 : Nat} {p2 : Int32} {out : Int32 × Hp} (hk_p1 : knd p1 = 6), cf_X7_readCommands h p1 p2 = some out → Met l yX7_readCommands (wY yX7_readCommands cX7_readCommands 4 (some .boolean)) (rmD (10 + n0)) (va_Pc [.ref (Z.1 1), .ref (Z.1 p1), .int p2] (Wd Z h g)) (va_Qi (fun r (_ : Unit) => r = out.1) (fun _ => Wd Z out.2 g) (FR Z)) 0 0 (FR Z)) (hcf_X7_readIf : ∀ {h g : Hp} {p1 : Nat} {p2 : Int32} {p3 : Int32} {out : Int32 × Hp} (hk_p1 : knd p1 = 6), cf_X7_readIf h p1 p2 p3 = some out → Met l yX7_readIf (wY yX7_readIf cX7_readIf 4 (some .boolean)) (rmD (10 + n0)) (va_Pc [.ref (Z.1 1), .ref (Z.1 p1), .int p2, .int p3] (Wd Z h g)) (va_Qi (fun r (_ : Unit) => r = out.1) (fun _ => Wd Z out.2 g) (FR Z)) 0 0 (FR Z)) (hcf_X7_readRepeat : ∀ {h g : Hp} {p1 : Nat} {p2 : Int32} {p3 : Int32} {out : Int32 × Hp} (hk_p1 : knd p1 = 6), cf_X7_readRepeat h p1 p2 p3 = some out → Met l yX7_readRepeat (wY yX7_readRepeat cX7_readRepeat 5 (some .boolean)) (rmD (10 + n0)) (va_Pc [.ref (Z.1 1), .ref (Z.1 p1), .int p2, .int p3] (Wd Z h g)) (va_Qi (fun r (_ : Unit) => r = out.1) (fun _ => Wd Z out.2 g) (FR Z)) 0 0 (FR Z)) (hk_p1 : knd p1 = 6) {out : Int32 × Hp} (hf : B_X7_readBlock cf_X7_readBlock cf_X7_readCommand cf_X7_readCommands cf_X7_readIf cf_X7_readRepeat h p1 p2 = some out) : Met l yX7_readBlock (wY yX7_readBlock cX7_readBlock 3 (some .boolean)) (rmD (10 + n0 + 1)) (va_Pc [.ref (Z.1 1), .ref (Z.1 p1), .int p2] (Wd Z h g)) (va_Qi (fun r (_ : Unit) => r = out.1) (fun _ => Wd Z out.2 g) (FR Z)) 0 0 (FR Z) := by
  refine metX RX7 rfl (by decide +kernel) (Nat.le_of_ble_eq_true rfl) ?_
  intro p e s m args below meth c C hW ls hl
  have hl : lv_has ls 3 [(0, .ref (Z.1 1)), (1, .ref (Z.1 p1)), (2, .int p2)] := hl
  unfold B_X7_readBlock at hf
  refine lv_aload_n C.1 C.2.1 dX7_readBlock_0 rfl (lv_at hl 0 rfl) ?_
  refine lv_bipush (v := 123) C.1 C.2.1 dX7_readBlock_1 (by decide) ?_
  obtain ⟨u1, hcu1, hf⟩ := bnd_t hf
  refine x_calli hW (x_runV C hW hl (wk7 (k_1)) rfl rfl (c_X9_isSign hcu1) (cw_X7_34) ci_X9_isSign cs_X9_isSign (rm_ok (by omega) (by decide)) ⟨Nat.le_refl _, Nat.le_refl _⟩ (As := [.int (123 : Int32)]) rfl rfl (Nat.le_of_ble_eq_true rfl) dX7_readBlock_3) (fun H locs hW => ?_)
  refine x_ifne (tgt := 15) C hf dX7_readBlock_6 (by decide) (fun hf => ?_) (fun hf => ?_)
  · refine lv_iload_n C.1 C.2.1 dX7_readBlock_15 rfl (lv_at hl 2 rfl) ?_
    refine lv_iconst (v := 5) C.1 C.2.1 dX7_readBlock_16 (by decide) ?_
    refine x_cmplt (tgt := 26) C hf dX7_readBlock_17 (by decide) (fun hf => ?_) (fun hf => ?_)
    · refine lv_aload_n C.1 C.2.1 dX7_readBlock_26 rfl (lv_at hl 0 rfl) ?_
      obtain ⟨u2, hcu2, hf⟩ := bnd_t hf
      refine x_callv hW (x_runV C hW hl (wk7 (k_1)) rfl rfl (c_X9_advance hcu2) (cw_X7_45) ci_X9_advance cs_X9_advance (rm_ok (by omega) (by decide)) ⟨Nat.le_refl _, Nat.le_refl _⟩ (As := []) rfl rfl (Nat.le_of_ble_eq_true rfl) dX7_readBlock_27) (fun H locs hW => ?_)
      refine lv_aload_n C.1 C.2.1 dX7_readBlock_30 rfl (lv_at hl 0 rfl) ?_
      refine lv_aload_n C.1 C.2.1 dX7_readBlock_31 rfl (lv_at hl 1 rfl) ?_
      refine lv_iload_n C.1 C.2.1 dX7_readBlock_32 rfl (lv_at hl 2 rfl) ?_
      refine lv_iconst (v := 1) C.1 C.2.1 dX7_readBlock_33 (by decide) ?_
      refine lv_iadd C.1 C.2.1 dX7_readBlock_34 ?_
      obtain ⟨u3, hcu3, hf⟩ := bnd_t hf
      refine x_calli hW (x_runS C hW hl (hcf_X7_readCommands hk_p1 hcu3) (cw_X7_20) ct_X7_readCommands (rm_ok (by omega) (by decide)) ⟨Nat.le_refl _, Nat.le_refl _⟩ (As := [.ref (Z.1 1), .ref (Z.1 p1), .int (p2 + (1 : Int32))]) rfl rfl (Nat.le_of_ble_eq_true rfl) dX7_readBlock_35) (fun H locs hW => ?_)
      refine x_ifeq (tgt := 54) C hf dX7_readBlock_38 (by decide) (fun hf => ?_) (fun hf => ?_)
      · refine lv_iconst (v := 0) C.1 C.2.1 dX7_readBlock_54 (by decide) ?_
        obtain rfl := Option.some.inj hf
        exact x_zret C hW (by decide) dX7_readBlock_55 rfl
      · refine lv_aload_n C.1 C.2.1 dX7_readBlock_41 rfl (lv_at hl 0 rfl) ?_
        refine lv_bipush (v := 125) C.1 C.2.1 dX7_readBlock_42 (by decide) ?_
        obtain ⟨u4, hcu4, hf⟩ := bnd_t hf
        refine x_calli hW (x_runV C hW hl (wk7 (k_1)) rfl rfl (c_X9_takeSign hcu4) (cw_X7_86) ci_X9_takeSign cs_X9_takeSign (rm_ok (by omega) (by decide)) ⟨Nat.le_refl _, Nat.le_refl _⟩ (As := [.int (125 : Int32)]) rfl rfl (Nat.le_of_ble_eq_true rfl) dX7_readBlock_44) (fun H locs hW => ?_)
        refine x_ifeq (tgt := 54) C hf dX7_readBlock_47 (by decide) (fun hf => ?_) (fun hf => ?_)
        · refine lv_iconst (v := 0) C.1 C.2.1 dX7_readBlock_54 (by decide) ?_
          obtain rfl := Option.some.inj hf
          exact x_zret C hW (by decide) dX7_readBlock_55 rfl
        · refine lv_iconst (v := 1) C.1 C.2.1 dX7_readBlock_50 (by decide) ?_
          refine lv_goto (tgt := 55) C.1 C.2.1 dX7_readBlock_51 (by decide) ?_
          obtain rfl := Option.some.inj hf
          exact x_zret C hW (by decide) dX7_readBlock_55 rfl
    · refine lv_aload_n C.1 C.2.1 dX7_readBlock_20 rfl (lv_at hl 0 rfl) ?_
      refine lv_iconst (v := 4) C.1 C.2.1 dX7_readBlock_21 (by decide) ?_
      obtain ⟨u5, hcu5, hf⟩ := bnd_t hf
      refine x_calli hW (x_runV C hW hl (wk7 (k_1)) rfl rfl (c_X9_fail hcu5) (cw_X7_30) ci_X9_fail cs_X9_fail (rm_ok (by omega) (by decide)) ⟨Nat.le_refl _, Nat.le_refl _⟩ (As := [.int (4 : Int32)]) rfl rfl (Nat.le_of_ble_eq_true rfl) dX7_readBlock_22) (fun H locs hW => ?_)
      obtain ⟨hz, hf⟩ := ck_t hf
      obtain rfl := Option.some.inj hf
      exact x_zret C hW hz dX7_readBlock_25 rfl
  · refine lv_aload_n C.1 C.2.1 dX7_readBlock_9 rfl (lv_at hl 0 rfl) ?_
    refine lv_iconst (v := 1) C.1 C.2.1 dX7_readBlock_10 (by decide) ?_
    obtain ⟨u6, hcu6, hf⟩ := bnd_t hf
    refine x_calli hW (x_runV C hW hl (wk7 (k_1)) rfl rfl (c_X9_fail hcu6) (cw_X7_30) ci_X9_fail cs_X9_fail (rm_ok (by omega) (by decide)) ⟨Nat.le_refl _, Nat.le_refl _⟩ (As := [.int (1 : Int32)]) rfl rfl (Nat.le_of_ble_eq_true rfl) dX7_readBlock_11) (fun H locs hW => ?_)
    obtain ⟨hz, hf⟩ := ck_t hf
    obtain rfl := Option.some.inj hf
    exact x_zret C hW hz dX7_readBlock_14 rfl
set_option maxRecDepth 20000 in
set_option maxHeartbeats 1000000 in
theorem j_X7_readCommand_104 {l : Launch} {Z : ZT} {g : Hp} {n0 : Nat} {cf_X7_readBlock : Hp → Nat → Int32 → Option (Int32 × Hp)} {cf_X7_readCommand : Hp → Nat → Int32 → Option (Int32 × Hp)} {cf_X7_readCommands : Hp → Nat → Int32 → Option (Int32 × Hp)} {cf_X7_readIf : Hp → Nat → Int32 → Int32 → Option (Int32 × Hp)} {cf_X7_readRepeat : Hp → Nat → Int32 → Int32 → Option (Int32 × Hp)} {p1 : Nat} {p2 : Int32} {h : Hp} {x4 : Int32} {x5 : Int32} (hk_p1 : knd p1 = 6) {p : Program} {e : Env} {s : State} {m : MethodId} {args : Array Value} {below : List Frame} {meth : Method} {c : Code} (C : CX p s m args meth c cX7_readCommand RX7 6 (some .boolean) Z) {out : Int32 × Hp} (hcf_X7_readBlock : ∀ {h g : Hp} {p1 : Nat} {p2 : Int32} {out : Int32 × Hp} (hk_p1 : knd p1 = 6), cf_X7_readBlock h p1 p2 = some out → Met l yX7_readBlock (wY yX7_readBlock cX7_readBlock 3 (some .boolean)) (rmD (10 + n0)) (va_Pc [.ref (Z.1 1), .ref (Z.1 p1), .int p2] (Wd Z h g)) (va_Qi (fun r (_ : Unit) => r = out.1) (fun _ => Wd Z out.2 g) (FR Z)) 0 0 (FR Z)) (hcf_X7_readCommand : ∀ {h g : Hp} {p1 : Nat} {p2 : Int32} {out : Int32 × Hp} (hk_p1 : knd p1 = 6), cf_X7_readCommand h p1 p2 = some out → Met l yX7_readCommand (wY yX7_readCommand cX7_readCommand 6 (some .boolean)) (rmD (10 + n0)) (va_Pc [.ref (Z.1 1), .ref (Z.1 p1), .int p2] (Wd Z h g)) (va_Qi (fun r (_ : Unit) => r = out.1) (fun _ => Wd Z out.2 g) (FR Z)) 0 0 (FR Z)) (hcf_X7_readCommands : ∀ {h g : Hp} {p1 : Nat} {p2 : Int32} {out : Int32 × Hp} (hk_p1 : knd p1 = 6), cf_X7_readCommands h p1 p2 = some out → Met l yX7_readCommands (wY yX7_readCommands cX7_readCommands 4 (some .boolean)) (rmD (10 + n0)) (va_Pc [.ref (Z.1 1), .ref (Z.1 p1), .int p2] (Wd Z h g)) (va_Qi (fun r (_ : Unit) => r = out.1) (fun _ => Wd Z out.2 g) (FR Z)) 0 0 (FR Z)) (hcf_X7_readIf : ∀ {h g : Hp} {p1 : Nat} {p2 : Int32} {p3 : Int32} {out : Int32 × Hp} (hk_p1 : knd p1 = 6), cf_X7_readIf h p1 p2 p3 = some out → Met l yX7_readIf (wY yX7_readIf cX7_readIf 4 (some .boolean)) (rmD (10 + n0)) (va_Pc [.ref (Z.1 1), .ref (Z.1 p1), .int p2, .int p3] (Wd Z h g)) (va_Qi (fun r (_ : Unit) => r = out.1) (fun _ => Wd Z out.2 g) (FR Z)) 0 0 (FR Z)) (hcf_X7_readRepeat : ∀ {h g : Hp} {p1 : Nat} {p2 : Int32} {p3 : Int32} {out : Int32 × Hp} (hk_p1 : knd p1 = 6), cf_X7_readRepeat h p1 p2 p3 = some out → Met l yX7_readRepeat (wY yX7_readRepeat cX7_readRepeat 5 (some .boolean)) (rmD (10 + n0)) (va_Pc [.ref (Z.1 1), .ref (Z.1 p1), .int p2, .int p3] (Wd Z h g)) (va_Qi (fun r (_ : Unit) => r = out.1) (fun _ => Wd Z out.2 g) (FR Z)) 0 0 (FR Z)) {ls : Array Slot} {H : Heap} {locs : List Loc} (hW : XW Z h g s.heap H locs) (hl : lv_has ls 6 [(0, .ref (Z.1 1)), (1, .ref (Z.1 p1)), (2, .int p2), (4, .int x4), (5, .int x5)]) (hf : J_X7_readCommand_104 cf_X7_readBlock cf_X7_readCommand cf_X7_readCommands cf_X7_readIf cf_X7_readRepeat p1 p2 h x4 x5 = some out) : W p l e (rmD (10 + n0 + 1)) s m args below meth c H locs 0 0 (MQ below (va_Qi (fun r (_ : Unit) => r = out.1) (fun _ => Wd Z out.2 g) (FR Z)) args s 0 0 (FR Z)) (F0 m 104 ls []) := by
  refine lv_aload_n C.1 C.2.1 dX7_readCommand_104 rfl (lv_at hl 1 rfl) ?_
  refine xg_X7_62 C hW hk_p1 dX7_readCommand_105 ?_
  refine lv_iload C.1 C.2.1 dX7_readCommand_108 (lv_at hl 3 rfl) ?_
  refine lv_aload_n C.1 C.2.1 dX7_readCommand_110 rfl (lv_at hl 1 rfl) ?_
  refine xg_X7_9 C hW hk_p1 dX7_readCommand_111 ?_
  refine x_iastC C hW (o_X6_4 hk_p1) hf dX7_readCommand_114 (fun h1 H locs hf hW => ?_)
  refine lv_iload C.1 C.2.1 dX7_readCommand_115 (lv_at hl 4 rfl) ?_
  obtain ⟨hz, hf⟩ := ck_t hf
  obtain rfl := Option.some.inj hf
  exact x_zret C hW hz dX7_readCommand_117 rfl
set_option maxRecDepth 20000 in
set_option maxHeartbeats 1000000 in
theorem b_X7_readCommand {l : Launch} {Z : ZT} {g : Hp} {n0 : Nat} {cf_X7_readBlock : Hp → Nat → Int32 → Option (Int32 × Hp)} {cf_X7_readCommand : Hp → Nat → Int32 → Option (Int32 × Hp)} {cf_X7_readCommands : Hp → Nat → Int32 → Option (Int32 × Hp)} {cf_X7_readIf : Hp → Nat → Int32 → Int32 → Option (Int32 × Hp)} {cf_X7_readRepeat : Hp → Nat → Int32 → Int32 → Option (Int32 × Hp)} {h : Hp} {p1 : Nat} {p2 : Int32} (hcf_X7_readBlock : ∀ {h g : Hp} {p1 : Nat} {p2 : Int32} {out : Int32 × Hp} (hk_p1 : knd p1 = 6), cf_X7_readBlock h p1 p2 = some out → Met l yX7_readBlock (wY yX7_readBlock cX7_readBlock 3 (some .boolean)) (rmD (10 + n0)) (va_Pc [.ref (Z.1 1), .ref (Z.1 p1), .int p2] (Wd Z h g)) (va_Qi (fun r (_ : Unit) => r = out.1) (fun _ => Wd Z out.2 g) (FR Z)) 0 0 (FR Z)) (hcf_X7_readCommand : ∀ {h g : Hp} {p1 : Nat} {p2 : Int32} {out : Int32 × Hp} (hk_p1 : knd p1 = 6), cf_X7_readCommand h p1 p2 = some out → Met l yX7_readCommand (wY yX7_readCommand cX7_readCommand 6 (some .boolean)) (rmD (10 + n0)) (va_Pc [.ref (Z.1 1), .ref (Z.1 p1), .int p2] (Wd Z h g)) (va_Qi (fun r (_ : Unit) => r = out.1) (fun _ => Wd Z out.2 g) (FR Z)) 0 0 (FR Z)) (hcf_X7_readCommands : ∀ {h g : Hp} {p1 : Nat} {p2 : Int32} {out : Int32 × Hp} (hk_p1 : knd p1 = 6), cf_X7_readCommands h p1 p2 = some out → Met l yX7_readCommands (wY yX7_readCommands cX7_readCommands 4 (some .boolean)) (rmD (10 + n0)) (va_Pc [.ref (Z.1 1), .ref (Z.1 p1), .int p2] (Wd Z h g)) (va_Qi (fun r (_ : Unit) => r = out.1) (fun _ => Wd Z out.2 g) (FR Z)) 0 0 (FR Z)) (hcf_X7_readIf : ∀ {h g : Hp} {p1 : Nat} {p2 : Int32} {p3 : Int32} {out : Int32 × Hp} (hk_p1 : knd p1 = 6), cf_X7_readIf h p1 p2 p3 = some out → Met l yX7_readIf (wY yX7_readIf cX7_readIf 4 (some .boolean)) (rmD (10 + n0)) (va_Pc [.ref (Z.1 1), .ref (Z.1 p1), .int p2, .int p3] (Wd Z h g)) (va_Qi (fun r (_ : Unit) => r = out.1) (fun _ => Wd Z out.2 g) (FR Z)) 0 0 (FR Z)) (hcf_X7_readRepeat : ∀ {h g : Hp} {p1 : Nat} {p2 : Int32} {p3 : Int32} {out : Int32 × Hp} (hk_p1 : knd p1 = 6), cf_X7_readRepeat h p1 p2 p3 = some out → Met l yX7_readRepeat (wY yX7_readRepeat cX7_readRepeat 5 (some .boolean)) (rmD (10 + n0)) (va_Pc [.ref (Z.1 1), .ref (Z.1 p1), .int p2, .int p3] (Wd Z h g)) (va_Qi (fun r (_ : Unit) => r = out.1) (fun _ => Wd Z out.2 g) (FR Z)) 0 0 (FR Z)) (hk_p1 : knd p1 = 6) {out : Int32 × Hp} (hf : B_X7_readCommand cf_X7_readBlock cf_X7_readCommand cf_X7_readCommands cf_X7_readIf cf_X7_readRepeat h p1 p2 = some out) : Met l yX7_readCommand (wY yX7_readCommand cX7_readCommand 6 (some .boolean)) (rmD (10 + n0 + 1)) (va_Pc [.ref (Z.1 1), .ref (Z.1 p1), .int p2] (Wd Z h g)) (va_Qi (fun r (_ : Unit) => r = out.1) (fun _ => Wd Z out.2 g) (FR Z)) 0 0 (FR Z) := by
  refine metX RX7 rfl (by decide +kernel) (Nat.le_of_ble_eq_true rfl) ?_
  intro p e s m args below meth c C hW ls hl
  have hl : lv_has ls 6 [(0, .ref (Z.1 1)), (1, .ref (Z.1 p1)), (2, .int p2)] := hl
  unfold B_X7_readCommand at hf
  refine lv_aload_n C.1 C.2.1 dX7_readCommand_0 rfl (lv_at hl 0 rfl) ?_
  obtain ⟨u2, hcu2, hf⟩ := bnd_t hf
  refine x_calli hW (x_runS C hW hl (c_X7_kindHere hcu2) (cw_X7_41) ct_X7_kindHere (rm_ok (by omega) (by decide)) ⟨Nat.le_refl _, Nat.le_refl _⟩ (As := [.ref (Z.1 1)]) rfl rfl (Nat.le_of_ble_eq_true rfl) dX7_readCommand_1) (fun H locs hW => ?_)
  refine lv_istore_n (lv' := [(3, .int u2), (0, .ref (Z.1 1)), (1, .ref (Z.1 p1)), (2, .int p2)]) C.1 C.2.1 dX7_readCommand_4 rfl hl (by decide) rfl (fun ls hl => ?_)
  refine lv_iload_n C.1 C.2.1 dX7_readCommand_5 rfl (lv_at hl 0 rfl) ?_
  refine lv_iconst (v := -1) C.1 C.2.1 dX7_readCommand_6 (by decide) ?_
  refine x_cmpne (tgt := 16) C hf dX7_readCommand_7 (by decide) (fun hf => ?_) (fun hf => ?_)
  · refine lv_aload_n C.1 C.2.1 dX7_readCommand_16 rfl (lv_at hl 2 rfl) ?_
    refine xg_X7_9 C hW hk_p1 dX7_readCommand_17 ?_
    refine lv_bipush (v := 30) C.1 C.2.1 dX7_readCommand_20 (by decide) ?_
    refine x_cmplt (tgt := 31) C hf dX7_readCommand_22 (by decide) (fun hf => ?_) (fun hf => ?_)
    · refine lv_aload_n C.1 C.2.1 dX7_readCommand_31 rfl (lv_at hl 1 rfl) ?_
      obtain ⟨u3, hcu3, hf⟩ := bnd_t hf
      refine x_callv hW (x_runV C hW hl (wk7 (k_1)) rfl rfl (c_X9_advance hcu3) (cw_X7_45) ci_X9_advance cs_X9_advance (rm_ok (by omega) (by decide)) ⟨Nat.le_refl _, Nat.le_refl _⟩ (As := []) rfl rfl (Nat.le_of_ble_eq_true rfl) dX7_readCommand_32) (fun H locs hW => ?_)
      refine lv_aload_n C.1 C.2.1 dX7_readCommand_35 rfl (lv_at hl 2 rfl) ?_
      refine xg_X7_9 C hW hk_p1 dX7_readCommand_36 ?_
      refine x_ist C hf dX7_readCommand_39 hl (by decide) (fun v4 => [(4, .int v4), (3, .int u2), (0, .ref (Z.1 1)), (1, .ref (Z.1 p1)), (2, .int p2)]) (fun _ => rfl) (fun v4 ls hf hl => ?_)
      refine lv_aload_n C.1 C.2.1 dX7_readCommand_41 rfl (lv_at hl 3 rfl) ?_
      refine lv_dup C.1 C.2.1 dX7_readCommand_42 rfl ?_
      refine xg_X7_9 C hW hk_p1 dX7_readCommand_43 ?_
      refine lv_iconst (v := 1) C.1 C.2.1 dX7_readCommand_46 (by decide) ?_
      refine lv_iadd C.1 C.2.1 dX7_readCommand_47 ?_
      refine xp_X7_9 C hW hk_p1 hf dX7_readCommand_48 (fun h5 H locs hf hW => ?_)
      refine lv_aload_n C.1 C.2.1 dX7_readCommand_51 rfl (lv_at hl 3 rfl) ?_
      refine xg_X7_48 C hW hk_p1 dX7_readCommand_52 ?_
      refine lv_iload C.1 C.2.1 dX7_readCommand_55 (lv_at hl 0 rfl) ?_
      refine lv_iload_n C.1 C.2.1 dX7_readCommand_57 rfl (lv_at hl 1 rfl) ?_
      refine x_iastC C hW (o_X6_1 hk_p1) hf dX7_readCommand_58 (fun h6 H locs hf hW => ?_)
      refine lv_iload_n C.1 C.2.1 dX7_readCommand_59 rfl (lv_at hl 1 rfl) ?_
      refine lv_iconst (v := 5) C.1 C.2.1 dX7_readCommand_60 (by decide) ?_
      refine x_cmpne (tgt := 77) C hf dX7_readCommand_61 (by decide) (fun hf => ?_) (fun hf => ?_)
      · refine lv_iload_n C.1 C.2.1 dX7_readCommand_77 rfl (lv_at hl 1 rfl) ?_
        refine lv_iconst (v := 4) C.1 C.2.1 dX7_readCommand_78 (by decide) ?_
        refine x_cmpne (tgt := 95) C hf dX7_readCommand_79 (by decide) (fun hf => ?_) (fun hf => ?_)
        · refine lv_aload_n C.1 C.2.1 dX7_readCommand_95 rfl (lv_at hl 2 rfl) ?_
          refine lv_aload_n C.1 C.2.1 dX7_readCommand_96 rfl (lv_at hl 3 rfl) ?_
          refine lv_iload C.1 C.2.1 dX7_readCommand_97 (lv_at hl 0 rfl) ?_
          obtain ⟨u7, hcu7, hf⟩ := bnd_t hf
          refine x_calli hW (x_runS C hW hl (c_X7_readChange hk_p1 hcu7) (cw_X7_59) ct_X7_readChange (rm_ok (by omega) (by decide)) ⟨Nat.le_refl _, Nat.le_refl _⟩ (As := [.ref (Z.1 1), .ref (Z.1 p1), .int v4]) rfl rfl (Nat.le_of_ble_eq_true rfl) dX7_readCommand_99) (fun H locs hW => ?_)
          refine lv_istore (lv' := [(5, .int u7.1), (4, .int v4), (3, .int u2), (0, .ref (Z.1 1)), (1, .ref (Z.1 p1)), (2, .int p2)]) C.1 C.2.1 dX7_readCommand_102 hl (by decide) rfl (fun ls hl => ?_)
          exact j_X7_readCommand_104 hk_p1 C hcf_X7_readBlock hcf_X7_readCommand hcf_X7_readCommands hcf_X7_readIf hcf_X7_readRepeat hW (lv_sub hl [3, 4, 5, 1, 0] rfl) hf
        · refine lv_aload_n C.1 C.2.1 dX7_readCommand_82 rfl (lv_at hl 2 rfl) ?_
          refine lv_aload_n C.1 C.2.1 dX7_readCommand_83 rfl (lv_at hl 3 rfl) ?_
          refine lv_iload C.1 C.2.1 dX7_readCommand_84 (lv_at hl 0 rfl) ?_
          refine lv_iload_n C.1 C.2.1 dX7_readCommand_86 rfl (lv_at hl 4 rfl) ?_
          obtain ⟨u8, hcu8, hf⟩ := bnd_t hf
          refine x_calli hW (x_runS C hW hl (hcf_X7_readIf hk_p1 hcu8) (cw_X7_56) ct_X7_readIf (rm_ok (by omega) (by decide)) ⟨Nat.le_refl _, Nat.le_refl _⟩ (As := [.ref (Z.1 1), .ref (Z.1 p1), .int v4, .int p2]) rfl rfl (Nat.le_of_ble_eq_true rfl) dX7_readCommand_87) (fun H locs hW => ?_)
          refine lv_istore (lv' := [(5, .int u8.1), (4, .int v4), (3, .int u2), (0, .ref (Z.1 1)), (1, .ref (Z.1 p1)), (2, .int p2)]) C.1 C.2.1 dX7_readCommand_90 hl (by decide) rfl (fun ls hl => ?_)
          refine lv_goto (tgt := 104) C.1 C.2.1 dX7_readCommand_92 (by decide) ?_
          exact j_X7_readCommand_104 hk_p1 C hcf_X7_readBlock hcf_X7_readCommand hcf_X7_readCommands hcf_X7_readIf hcf_X7_readRepeat hW (lv_sub hl [3, 4, 5, 1, 0] rfl) hf
      · refine lv_aload_n C.1 C.2.1 dX7_readCommand_64 rfl (lv_at hl 2 rfl) ?_
        refine lv_aload_n C.1 C.2.1 dX7_readCommand_65 rfl (lv_at hl 3 rfl) ?_
        refine lv_iload C.1 C.2.1 dX7_readCommand_66 (lv_at hl 0 rfl) ?_
        refine lv_iload_n C.1 C.2.1 dX7_readCommand_68 rfl (lv_at hl 4 rfl) ?_
        obtain ⟨u9, hcu9, hf⟩ := bnd_t hf
        refine x_calli hW (x_runS C hW hl (hcf_X7_readRepeat hk_p1 hcu9) (cw_X7_52) ct_X7_readRepeat (rm_ok (by omega) (by decide)) ⟨Nat.le_refl _, Nat.le_refl _⟩ (As := [.ref (Z.1 1), .ref (Z.1 p1), .int v4, .int p2]) rfl rfl (Nat.le_of_ble_eq_true rfl) dX7_readCommand_69) (fun H locs hW => ?_)
        refine lv_istore (lv' := [(5, .int u9.1), (4, .int v4), (3, .int u2), (0, .ref (Z.1 1)), (1, .ref (Z.1 p1)), (2, .int p2)]) C.1 C.2.1 dX7_readCommand_72 hl (by decide) rfl (fun ls hl => ?_)
        refine lv_goto (tgt := 104) C.1 C.2.1 dX7_readCommand_74 (by decide) ?_
        exact j_X7_readCommand_104 hk_p1 C hcf_X7_readBlock hcf_X7_readCommand hcf_X7_readCommands hcf_X7_readIf hcf_X7_readRepeat hW (lv_sub hl [3, 4, 5, 1, 0] rfl) hf
    · refine lv_aload_n C.1 C.2.1 dX7_readCommand_25 rfl (lv_at hl 1 rfl) ?_
      refine lv_iconst (v := 4) C.1 C.2.1 dX7_readCommand_26 (by decide) ?_
      obtain ⟨u10, hcu10, hf⟩ := bnd_t hf
      refine x_calli hW (x_runV C hW hl (wk7 (k_1)) rfl rfl (c_X9_fail hcu10) (cw_X7_30) ci_X9_fail cs_X9_fail (rm_ok (by omega) (by decide)) ⟨Nat.le_refl _, Nat.le_refl _⟩ (As := [.int (4 : Int32)]) rfl rfl (Nat.le_of_ble_eq_true rfl) dX7_readCommand_27) (fun H locs hW => ?_)
      obtain ⟨hz, hf⟩ := ck_t hf
      obtain rfl := Option.some.inj hf
      exact x_zret C hW hz dX7_readCommand_30 rfl
  · refine lv_aload_n C.1 C.2.1 dX7_readCommand_10 rfl (lv_at hl 1 rfl) ?_
    refine lv_iconst (v := 1) C.1 C.2.1 dX7_readCommand_11 (by decide) ?_
    obtain ⟨u11, hcu11, hf⟩ := bnd_t hf
    refine x_calli hW (x_runV C hW hl (wk7 (k_1)) rfl rfl (c_X9_fail hcu11) (cw_X7_30) ci_X9_fail cs_X9_fail (rm_ok (by omega) (by decide)) ⟨Nat.le_refl _, Nat.le_refl _⟩ (As := [.int (1 : Int32)]) rfl rfl (Nat.le_of_ble_eq_true rfl) dX7_readCommand_12) (fun H locs hW => ?_)
    obtain ⟨hz, hf⟩ := ck_t hf
    obtain rfl := Option.some.inj hf
    exact x_zret C hW hz dX7_readCommand_15 rfl
set_option maxRecDepth 20000 in
set_option maxHeartbeats 1000000 in
theorem l_X7_readCommands_2 {l : Launch} {Z : ZT} {g : Hp} {n0 : Nat} {cf_X7_readBlock : Hp → Nat → Int32 → Option (Int32 × Hp)} {cf_X7_readCommand : Hp → Nat → Int32 → Option (Int32 × Hp)} {cf_X7_readCommands : Hp → Nat → Int32 → Option (Int32 × Hp)} {cf_X7_readIf : Hp → Nat → Int32 → Int32 → Option (Int32 × Hp)} {cf_X7_readRepeat : Hp → Nat → Int32 → Int32 → Option (Int32 × Hp)} {p1 : Nat} {p2 : Int32} (hk_p1 : knd p1 = 6) {p : Program} {e : Env} {s : State} {m : MethodId} {args : Array Value} {below : List Frame} {meth : Method} {c : Code} (C : CX p s m args meth c cX7_readCommands RX7 4 (some .boolean) Z) {out : Int32 × Hp} (hcf_X7_readBlock : ∀ {h g : Hp} {p1 : Nat} {p2 : Int32} {out : Int32 × Hp} (hk_p1 : knd p1 = 6), cf_X7_readBlock h p1 p2 = some out → Met l yX7_readBlock (wY yX7_readBlock cX7_readBlock 3 (some .boolean)) (rmD (10 + n0)) (va_Pc [.ref (Z.1 1), .ref (Z.1 p1), .int p2] (Wd Z h g)) (va_Qi (fun r (_ : Unit) => r = out.1) (fun _ => Wd Z out.2 g) (FR Z)) 0 0 (FR Z)) (hcf_X7_readCommand : ∀ {h g : Hp} {p1 : Nat} {p2 : Int32} {out : Int32 × Hp} (hk_p1 : knd p1 = 6), cf_X7_readCommand h p1 p2 = some out → Met l yX7_readCommand (wY yX7_readCommand cX7_readCommand 6 (some .boolean)) (rmD (10 + n0)) (va_Pc [.ref (Z.1 1), .ref (Z.1 p1), .int p2] (Wd Z h g)) (va_Qi (fun r (_ : Unit) => r = out.1) (fun _ => Wd Z out.2 g) (FR Z)) 0 0 (FR Z)) (hcf_X7_readCommands : ∀ {h g : Hp} {p1 : Nat} {p2 : Int32} {out : Int32 × Hp} (hk_p1 : knd p1 = 6), cf_X7_readCommands h p1 p2 = some out → Met l yX7_readCommands (wY yX7_readCommands cX7_readCommands 4 (some .boolean)) (rmD (10 + n0)) (va_Pc [.ref (Z.1 1), .ref (Z.1 p1), .int p2] (Wd Z h g)) (va_Qi (fun r (_ : Unit) => r = out.1) (fun _ => Wd Z out.2 g) (FR Z)) 0 0 (FR Z)) (hcf_X7_readIf : ∀ {h g : Hp} {p1 : Nat} {p2 : Int32} {p3 : Int32} {out : Int32 × Hp} (hk_p1 : knd p1 = 6), cf_X7_readIf h p1 p2 p3 = some out → Met l yX7_readIf (wY yX7_readIf cX7_readIf 4 (some .boolean)) (rmD (10 + n0)) (va_Pc [.ref (Z.1 1), .ref (Z.1 p1), .int p2, .int p3] (Wd Z h g)) (va_Qi (fun r (_ : Unit) => r = out.1) (fun _ => Wd Z out.2 g) (FR Z)) 0 0 (FR Z)) (hcf_X7_readRepeat : ∀ {h g : Hp} {p1 : Nat} {p2 : Int32} {p3 : Int32} {out : Int32 × Hp} (hk_p1 : knd p1 = 6), cf_X7_readRepeat h p1 p2 p3 = some out → Met l yX7_readRepeat (wY yX7_readRepeat cX7_readRepeat 5 (some .boolean)) (rmD (10 + n0)) (va_Pc [.ref (Z.1 1), .ref (Z.1 p1), .int p2, .int p3] (Wd Z h g)) (va_Qi (fun r (_ : Unit) => r = out.1) (fun _ => Wd Z out.2 g) (FR Z)) 0 0 (FR Z)) : ∀ (n : Nat) (x3 : Int32) (h : Hp) (ls : Array Slot) (H : Heap) (locs : List Loc), XW Z h g s.heap H locs → lv_has ls 4 [(0, .ref (Z.1 1)), (1, .ref (Z.1 p1)), (2, .int p2), (3, .int x3)] → Lp (F_X7_readCommands_2 cf_X7_readBlock cf_X7_readCommand cf_X7_readCommands cf_X7_readIf cf_X7_readRepeat p1 p2) n (x3, h) = some out → W p l e (rmD (10 + n0 + 1)) s m args below meth c H locs 0 0 (MQ below (va_Qi (fun r (_ : Unit) => r = out.1) (fun _ => Wd Z out.2 g) (FR Z)) args s 0 0 (FR Z)) (F0 m 2 ls []) := by
  intro n
  induction n with
  | zero => intro x3 h ls H locs hW hl hf; cases hf
  | succ n ih =>
    intro x3 h ls H locs hW hl hf
    rw [Lp_s] at hf
    refine lv_iload_n C.1 C.2.1 dX7_readCommands_2 rfl (lv_at hl 3 rfl) ?_
    refine lv_bipush (v := 30) C.1 C.2.1 dX7_readCommands_3 (by decide) ?_
    refine x_cmpgt (tgt := 41) C hf dX7_readCommands_5 (by decide) (fun hf => ?_) (fun hf => ?_)
    · refine lv_iconst (v := 1) C.1 C.2.1 dX7_readCommands_41 (by decide) ?_
      obtain rfl := Option.some.inj hf
      exact x_zret C hW (by decide) dX7_readCommands_42 rfl
    · refine lv_aload_n C.1 C.2.1 dX7_readCommands_8 rfl (lv_at hl 0 rfl) ?_
      obtain ⟨u1, hcu1, hf⟩ := bnd_t hf
      refine x_calli hW (x_runV C hW hl (wk7 (k_1)) rfl rfl (c_X9_isEnd hcu1) (cw_X7_26) ci_X9_isEnd cs_X9_isEnd (rm_ok (by omega) (by decide)) ⟨Nat.le_refl _, Nat.le_refl _⟩ (As := []) rfl rfl (Nat.le_of_ble_eq_true rfl) dX7_readCommands_9) (fun H locs hW => ?_)
      refine x_ifne (tgt := 41) C hf dX7_readCommands_12 (by decide) (fun hf => ?_) (fun hf => ?_)
      · refine lv_iconst (v := 1) C.1 C.2.1 dX7_readCommands_41 (by decide) ?_
        obtain rfl := Option.some.inj hf
        exact x_zret C hW (by decide) dX7_readCommands_42 rfl
      · refine lv_aload_n C.1 C.2.1 dX7_readCommands_15 rfl (lv_at hl 0 rfl) ?_
        refine lv_bipush (v := 125) C.1 C.2.1 dX7_readCommands_16 (by decide) ?_
        obtain ⟨u2, hcu2, hf⟩ := bnd_t hf
        refine x_calli hW (x_runV C hW hl (wk7 (k_1)) rfl rfl (c_X9_isSign hcu2) (cw_X7_34) ci_X9_isSign cs_X9_isSign (rm_ok (by omega) (by decide)) ⟨Nat.le_refl _, Nat.le_refl _⟩ (As := [.int (125 : Int32)]) rfl rfl (Nat.le_of_ble_eq_true rfl) dX7_readCommands_18) (fun H locs hW => ?_)
        refine x_ifne (tgt := 41) C hf dX7_readCommands_21 (by decide) (fun hf => ?_) (fun hf => ?_)
        · refine lv_iconst (v := 1) C.1 C.2.1 dX7_readCommands_41 (by decide) ?_
          obtain rfl := Option.some.inj hf
          exact x_zret C hW (by decide) dX7_readCommands_42 rfl
        · refine lv_aload_n C.1 C.2.1 dX7_readCommands_24 rfl (lv_at hl 0 rfl) ?_
          refine lv_aload_n C.1 C.2.1 dX7_readCommands_25 rfl (lv_at hl 1 rfl) ?_
          refine lv_iload_n C.1 C.2.1 dX7_readCommands_26 rfl (lv_at hl 2 rfl) ?_
          obtain ⟨u3, hcu3, hf⟩ := bnd_t hf
          refine x_calli hW (x_runS C hW hl (hcf_X7_readCommand hk_p1 hcu3) (cw_X7_38) ct_X7_readCommand (rm_ok (by omega) (by decide)) ⟨Nat.le_refl _, Nat.le_refl _⟩ (As := [.ref (Z.1 1), .ref (Z.1 p1), .int p2]) rfl rfl (Nat.le_of_ble_eq_true rfl) dX7_readCommands_27) (fun H locs hW => ?_)
          refine x_ifne (tgt := 35) C hf dX7_readCommands_30 (by decide) (fun hf => ?_) (fun hf => ?_)
          · refine x_iinc (w := 1) C hf dX7_readCommands_35 hl (k := 3) rfl (by decide) (by decide) (fun v4 => [(3, .int v4), (0, .ref (Z.1 1)), (1, .ref (Z.1 p1)), (2, .int p2)]) (fun _ => rfl) (fun v4 ls hf hl => ?_)
            refine lv_goto (tgt := 2) C.1 C.2.1 dX7_readCommands_38 (by decide) ?_
            exact ih v4 u3.2 ls _ _ hW (lv_sub hl [1, 2, 3, 0] rfl) hf
          · refine lv_iconst (v := 0) C.1 C.2.1 dX7_readCommands_33 (by decide) ?_
            obtain rfl := Option.some.inj hf
            exact x_zret C hW (by decide) dX7_readCommands_34 rfl
set_option maxRecDepth 20000 in
set_option maxHeartbeats 1000000 in
theorem b_X7_readCommands {l : Launch} {Z : ZT} {g : Hp} {n0 : Nat} {cf_X7_readBlock : Hp → Nat → Int32 → Option (Int32 × Hp)} {cf_X7_readCommand : Hp → Nat → Int32 → Option (Int32 × Hp)} {cf_X7_readCommands : Hp → Nat → Int32 → Option (Int32 × Hp)} {cf_X7_readIf : Hp → Nat → Int32 → Int32 → Option (Int32 × Hp)} {cf_X7_readRepeat : Hp → Nat → Int32 → Int32 → Option (Int32 × Hp)} {h : Hp} {p1 : Nat} {p2 : Int32} (hcf_X7_readBlock : ∀ {h g : Hp} {p1 : Nat} {p2 : Int32} {out : Int32 × Hp} (hk_p1 : knd p1 = 6), cf_X7_readBlock h p1 p2 = some out → Met l yX7_readBlock (wY yX7_readBlock cX7_readBlock 3 (some .boolean)) (rmD (10 + n0)) (va_Pc [.ref (Z.1 1), .ref (Z.1 p1), .int p2] (Wd Z h g)) (va_Qi (fun r (_ : Unit) => r = out.1) (fun _ => Wd Z out.2 g) (FR Z)) 0 0 (FR Z)) (hcf_X7_readCommand : ∀ {h g : Hp} {p1 : Nat} {p2 : Int32} {out : Int32 × Hp} (hk_p1 : knd p1 = 6), cf_X7_readCommand h p1 p2 = some out → Met l yX7_readCommand (wY yX7_readCommand cX7_readCommand 6 (some .boolean)) (rmD (10 + n0)) (va_Pc [.ref (Z.1 1), .ref (Z.1 p1), .int p2] (Wd Z h g)) (va_Qi (fun r (_ : Unit) => r = out.1) (fun _ => Wd Z out.2 g) (FR Z)) 0 0 (FR Z)) (hcf_X7_readCommands : ∀ {h g : Hp} {p1 : Nat} {p2 : Int32} {out : Int32 × Hp} (hk_p1 : knd p1 = 6), cf_X7_readCommands h p1 p2 = some out → Met l yX7_readCommands (wY yX7_readCommands cX7_readCommands 4 (some .boolean)) (rmD (10 + n0)) (va_Pc [.ref (Z.1 1), .ref (Z.1 p1), .int p2] (Wd Z h g)) (va_Qi (fun r (_ : Unit) => r = out.1) (fun _ => Wd Z out.2 g) (FR Z)) 0 0 (FR Z)) (hcf_X7_readIf : ∀ {h g : Hp} {p1 : Nat} {p2 : Int32} {p3 : Int32} {out : Int32 × Hp} (hk_p1 : knd p1 = 6), cf_X7_readIf h p1 p2 p3 = some out → Met l yX7_readIf (wY yX7_readIf cX7_readIf 4 (some .boolean)) (rmD (10 + n0)) (va_Pc [.ref (Z.1 1), .ref (Z.1 p1), .int p2, .int p3] (Wd Z h g)) (va_Qi (fun r (_ : Unit) => r = out.1) (fun _ => Wd Z out.2 g) (FR Z)) 0 0 (FR Z)) (hcf_X7_readRepeat : ∀ {h g : Hp} {p1 : Nat} {p2 : Int32} {p3 : Int32} {out : Int32 × Hp} (hk_p1 : knd p1 = 6), cf_X7_readRepeat h p1 p2 p3 = some out → Met l yX7_readRepeat (wY yX7_readRepeat cX7_readRepeat 5 (some .boolean)) (rmD (10 + n0)) (va_Pc [.ref (Z.1 1), .ref (Z.1 p1), .int p2, .int p3] (Wd Z h g)) (va_Qi (fun r (_ : Unit) => r = out.1) (fun _ => Wd Z out.2 g) (FR Z)) 0 0 (FR Z)) (hk_p1 : knd p1 = 6) {out : Int32 × Hp} (hf : B_X7_readCommands cf_X7_readBlock cf_X7_readCommand cf_X7_readCommands cf_X7_readIf cf_X7_readRepeat h p1 p2 = some out) : Met l yX7_readCommands (wY yX7_readCommands cX7_readCommands 4 (some .boolean)) (rmD (10 + n0 + 1)) (va_Pc [.ref (Z.1 1), .ref (Z.1 p1), .int p2] (Wd Z h g)) (va_Qi (fun r (_ : Unit) => r = out.1) (fun _ => Wd Z out.2 g) (FR Z)) 0 0 (FR Z) := by
  refine metX RX7 rfl (by decide +kernel) (Nat.le_of_ble_eq_true rfl) ?_
  intro p e s m args below meth c C hW ls hl
  have hl : lv_has ls 4 [(0, .ref (Z.1 1)), (1, .ref (Z.1 p1)), (2, .int p2)] := hl
  unfold B_X7_readCommands at hf
  refine lv_iconst (v := 0) C.1 C.2.1 dX7_readCommands_0 (by decide) ?_
  refine lv_istore_n (lv' := [(3, .int (0 : Int32)), (0, .ref (Z.1 1)), (1, .ref (Z.1 p1)), (2, .int p2)]) C.1 C.2.1 dX7_readCommands_1 rfl hl (by decide) rfl (fun ls hl => ?_)
  exact l_X7_readCommands_2 hk_p1 C hcf_X7_readBlock hcf_X7_readCommand hcf_X7_readCommands hcf_X7_readIf hcf_X7_readRepeat FU (0 : Int32) h ls _ _ hW (lv_sub hl [1, 2, 3, 0] rfl) hf
set_option maxRecDepth 20000 in
set_option maxHeartbeats 1000000 in
theorem b_X7_readIf {l : Launch} {Z : ZT} {g : Hp} {n0 : Nat} {cf_X7_readBlock : Hp → Nat → Int32 → Option (Int32 × Hp)} {cf_X7_readCommand : Hp → Nat → Int32 → Option (Int32 × Hp)} {cf_X7_readCommands : Hp → Nat → Int32 → Option (Int32 × Hp)} {cf_X7_readIf : Hp → Nat → Int32 → Int32 → Option (Int32 × Hp)} {cf_X7_readRepeat : Hp → Nat → Int32 → Int32 → Option (Int32 × Hp)} {h : Hp} {p1 : Nat} {p2 : Int32} {p3 : Int32} (hcf_X7_readBlock : ∀ {h g : Hp} {p1 : Nat} {p2 : Int32} {out : Int32 × Hp} (hk_p1 : knd p1 = 6), cf_X7_readBlock h p1 p2 = some out → Met l yX7_readBlock (wY yX7_readBlock cX7_readBlock 3 (some .boolean)) (rmD (10 + n0)) (va_Pc [.ref (Z.1 1), .ref (Z.1 p1), .int p2] (Wd Z h g)) (va_Qi (fun r (_ : Unit) => r = out.1) (fun _ => Wd Z out.2 g) (FR Z)) 0 0 (FR Z)) (hcf_X7_readCommand : ∀ {h g : Hp} {p1 : Nat} {p2 : Int32} {out : Int32 × Hp} (hk_p1 : knd p1 = 6), cf_X7_readCommand h p1 p2 = some out → Met l yX7_readCommand (wY yX7_readCommand cX7_readCommand 6 (some .boolean)) (rmD (10 + n0)) (va_Pc [.ref (Z.1 1), .ref (Z.1 p1), .int p2] (Wd Z h g)) (va_Qi (fun r (_ : Unit) => r = out.1) (fun _ => Wd Z out.2 g) (FR Z)) 0 0 (FR Z)) (hcf_X7_readCommands : ∀ {h g : Hp} {p1 : Nat} {p2 : Int32} {out : Int32 × Hp} (hk_p1 : knd p1 = 6), cf_X7_readCommands h p1 p2 = some out → Met l yX7_readCommands (wY yX7_readCommands cX7_readCommands 4 (some .boolean)) (rmD (10 + n0)) (va_Pc [.ref (Z.1 1), .ref (Z.1 p1), .int p2] (Wd Z h g)) (va_Qi (fun r (_ : Unit) => r = out.1) (fun _ => Wd Z out.2 g) (FR Z)) 0 0 (FR Z)) (hcf_X7_readIf : ∀ {h g : Hp} {p1 : Nat} {p2 : Int32} {p3 : Int32} {out : Int32 × Hp} (hk_p1 : knd p1 = 6), cf_X7_readIf h p1 p2 p3 = some out → Met l yX7_readIf (wY yX7_readIf cX7_readIf 4 (some .boolean)) (rmD (10 + n0)) (va_Pc [.ref (Z.1 1), .ref (Z.1 p1), .int p2, .int p3] (Wd Z h g)) (va_Qi (fun r (_ : Unit) => r = out.1) (fun _ => Wd Z out.2 g) (FR Z)) 0 0 (FR Z)) (hcf_X7_readRepeat : ∀ {h g : Hp} {p1 : Nat} {p2 : Int32} {p3 : Int32} {out : Int32 × Hp} (hk_p1 : knd p1 = 6), cf_X7_readRepeat h p1 p2 p3 = some out → Met l yX7_readRepeat (wY yX7_readRepeat cX7_readRepeat 5 (some .boolean)) (rmD (10 + n0)) (va_Pc [.ref (Z.1 1), .ref (Z.1 p1), .int p2, .int p3] (Wd Z h g)) (va_Qi (fun r (_ : Unit) => r = out.1) (fun _ => Wd Z out.2 g) (FR Z)) 0 0 (FR Z)) (hk_p1 : knd p1 = 6) {out : Int32 × Hp} (hf : B_X7_readIf cf_X7_readBlock cf_X7_readCommand cf_X7_readCommands cf_X7_readIf cf_X7_readRepeat h p1 p2 p3 = some out) : Met l yX7_readIf (wY yX7_readIf cX7_readIf 4 (some .boolean)) (rmD (10 + n0 + 1)) (va_Pc [.ref (Z.1 1), .ref (Z.1 p1), .int p2, .int p3] (Wd Z h g)) (va_Qi (fun r (_ : Unit) => r = out.1) (fun _ => Wd Z out.2 g) (FR Z)) 0 0 (FR Z) := by
  refine metX RX7 rfl (by decide +kernel) (Nat.le_of_ble_eq_true rfl) ?_
  intro p e s m args below meth c C hW ls hl
  have hl : lv_has ls 4 [(0, .ref (Z.1 1)), (1, .ref (Z.1 p1)), (2, .int p2), (3, .int p3)] := hl
  unfold B_X7_readIf at hf
  refine lv_aload_n C.1 C.2.1 dX7_readIf_0 rfl (lv_at hl 0 rfl) ?_
  refine lv_aload_n C.1 C.2.1 dX7_readIf_1 rfl (lv_at hl 1 rfl) ?_
  refine lv_iconst (v := 2) C.1 C.2.1 dX7_readIf_2 (by decide) ?_
  refine lv_iload_n C.1 C.2.1 dX7_readIf_3 rfl (lv_at hl 2 rfl) ?_
  refine lv_imul C.1 C.2.1 dX7_readIf_4 ?_
  obtain ⟨u1, hcu1, hf⟩ := bnd_t hf
  refine x_calli hW (x_runS C hW hl (c_X7_readPhrase hk_p1 hcu1) (cw_X7_81) ct_X7_readPhrase (rm_ok (by omega) (by decide)) ⟨Nat.le_refl _, Nat.le_refl _⟩ (As := [.ref (Z.1 1), .ref (Z.1 p1), .int ((2 : Int32) * p2)]) rfl rfl (Nat.le_of_ble_eq_true rfl) dX7_readIf_5) (fun H locs hW => ?_)
  refine x_ifeq (tgt := 20) C hf dX7_readIf_8 (by decide) (fun hf => ?_) (fun hf => ?_)
  · refine lv_iconst (v := 0) C.1 C.2.1 dX7_readIf_20 (by decide) ?_
    obtain rfl := Option.some.inj hf
    exact x_zret C hW (by decide) dX7_readIf_21 rfl
  · refine lv_aload_n C.1 C.2.1 dX7_readIf_11 rfl (lv_at hl 0 rfl) ?_
    refine lv_aload_n C.1 C.2.1 dX7_readIf_12 rfl (lv_at hl 1 rfl) ?_
    refine lv_iload_n C.1 C.2.1 dX7_readIf_13 rfl (lv_at hl 3 rfl) ?_
    obtain ⟨u2, hcu2, hf⟩ := bnd_t hf
    refine x_calli hW (x_runS C hW hl (hcf_X7_readBlock hk_p1 hcu2) (cw_X7_96) ct_X7_readBlock (rm_ok (by omega) (by decide)) ⟨Nat.le_refl _, Nat.le_refl _⟩ (As := [.ref (Z.1 1), .ref (Z.1 p1), .int p3]) rfl rfl (Nat.le_of_ble_eq_true rfl) dX7_readIf_14) (fun H locs hW => ?_)
    refine x_ifne (tgt := 22) C hf dX7_readIf_17 (by decide) (fun hf => ?_) (fun hf => ?_)
    · refine lv_aload_n C.1 C.2.1 dX7_readIf_22 rfl (lv_at hl 1 rfl) ?_
      refine xg_X7_99 C hW hk_p1 dX7_readIf_23 ?_
      refine lv_iload_n C.1 C.2.1 dX7_readIf_26 rfl (lv_at hl 2 rfl) ?_
      refine lv_aload_n C.1 C.2.1 dX7_readIf_27 rfl (lv_at hl 1 rfl) ?_
      refine xg_X7_9 C hW hk_p1 dX7_readIf_28 ?_
      refine x_iastC C hW (o_X6_3 hk_p1) hf dX7_readIf_31 (fun h3 H locs hf hW => ?_)
      refine lv_aload_n C.1 C.2.1 dX7_readIf_32 rfl (lv_at hl 0 rfl) ?_
      refine x_ldcS C ms_X7_102 dX7_readIf_33 ?_
      obtain ⟨u4, hcu4, hf⟩ := bnd_t hf
      refine x_calli hW (x_runV C hW hl (wk7 (k_1)) rfl rfl (c_X9_isKeyword (by decide) hcu4) (cw_X7_67) ci_X9_isKeyword cs_X9_isKeyword (rm_ok (by omega) (by decide)) ⟨Nat.le_refl _, Nat.le_refl _⟩ (As := [.ref (Z.2.2.2.2 (2 * 14))]) rfl rfl (Nat.le_of_ble_eq_true rfl) dX7_readIf_35) (fun H locs hW => ?_)
      refine x_ifne (tgt := 43) C hf dX7_readIf_38 (by decide) (fun hf => ?_) (fun hf => ?_)
      · refine lv_aload_n C.1 C.2.1 dX7_readIf_43 rfl (lv_at hl 0 rfl) ?_
        obtain ⟨u5, hcu5, hf⟩ := bnd_t hf
        refine x_callv hW (x_runV C hW hl (wk7 (k_1)) rfl rfl (c_X9_advance hcu5) (cw_X7_45) ci_X9_advance cs_X9_advance (rm_ok (by omega) (by decide)) ⟨Nat.le_refl _, Nat.le_refl _⟩ (As := []) rfl rfl (Nat.le_of_ble_eq_true rfl) dX7_readIf_44) (fun H locs hW => ?_)
        refine lv_aload_n C.1 C.2.1 dX7_readIf_47 rfl (lv_at hl 0 rfl) ?_
        refine lv_aload_n C.1 C.2.1 dX7_readIf_48 rfl (lv_at hl 1 rfl) ?_
        refine lv_iload_n C.1 C.2.1 dX7_readIf_49 rfl (lv_at hl 3 rfl) ?_
        obtain ⟨u6, hcu6, hf⟩ := bnd_t hf
        refine x_calli hW (x_runS C hW hl (hcf_X7_readBlock hk_p1 hcu6) (cw_X7_96) ct_X7_readBlock (rm_ok (by omega) (by decide)) ⟨Nat.le_refl _, Nat.le_refl _⟩ (As := [.ref (Z.1 1), .ref (Z.1 p1), .int p3]) rfl rfl (Nat.le_of_ble_eq_true rfl) dX7_readIf_50) (fun H locs hW => ?_)
        obtain ⟨hz, hf⟩ := ck_t hf
        obtain rfl := Option.some.inj hf
        exact x_zret C hW hz dX7_readIf_53 rfl
      · refine lv_iconst (v := 1) C.1 C.2.1 dX7_readIf_41 (by decide) ?_
        obtain rfl := Option.some.inj hf
        exact x_zret C hW (by decide) dX7_readIf_42 rfl
    · refine lv_iconst (v := 0) C.1 C.2.1 dX7_readIf_20 (by decide) ?_
      obtain rfl := Option.some.inj hf
      exact x_zret C hW (by decide) dX7_readIf_21 rfl
set_option maxRecDepth 20000 in
set_option maxHeartbeats 1000000 in
theorem b_X7_readRepeat {l : Launch} {Z : ZT} {g : Hp} {n0 : Nat} {cf_X7_readBlock : Hp → Nat → Int32 → Option (Int32 × Hp)} {cf_X7_readCommand : Hp → Nat → Int32 → Option (Int32 × Hp)} {cf_X7_readCommands : Hp → Nat → Int32 → Option (Int32 × Hp)} {cf_X7_readIf : Hp → Nat → Int32 → Int32 → Option (Int32 × Hp)} {cf_X7_readRepeat : Hp → Nat → Int32 → Int32 → Option (Int32 × Hp)} {h : Hp} {p1 : Nat} {p2 : Int32} {p3 : Int32} (hcf_X7_readBlock : ∀ {h g : Hp} {p1 : Nat} {p2 : Int32} {out : Int32 × Hp} (hk_p1 : knd p1 = 6), cf_X7_readBlock h p1 p2 = some out → Met l yX7_readBlock (wY yX7_readBlock cX7_readBlock 3 (some .boolean)) (rmD (10 + n0)) (va_Pc [.ref (Z.1 1), .ref (Z.1 p1), .int p2] (Wd Z h g)) (va_Qi (fun r (_ : Unit) => r = out.1) (fun _ => Wd Z out.2 g) (FR Z)) 0 0 (FR Z)) (hcf_X7_readCommand : ∀ {h g : Hp} {p1 : Nat} {p2 : Int32} {out : Int32 × Hp} (hk_p1 : knd p1 = 6), cf_X7_readCommand h p1 p2 = some out → Met l yX7_readCommand (wY yX7_readCommand cX7_readCommand 6 (some .boolean)) (rmD (10 + n0)) (va_Pc [.ref (Z.1 1), .ref (Z.1 p1), .int p2] (Wd Z h g)) (va_Qi (fun r (_ : Unit) => r = out.1) (fun _ => Wd Z out.2 g) (FR Z)) 0 0 (FR Z)) (hcf_X7_readCommands : ∀ {h g : Hp} {p1 : Nat} {p2 : Int32} {out : Int32 × Hp} (hk_p1 : knd p1 = 6), cf_X7_readCommands h p1 p2 = some out → Met l yX7_readCommands (wY yX7_readCommands cX7_readCommands 4 (some .boolean)) (rmD (10 + n0)) (va_Pc [.ref (Z.1 1), .ref (Z.1 p1), .int p2] (Wd Z h g)) (va_Qi (fun r (_ : Unit) => r = out.1) (fun _ => Wd Z out.2 g) (FR Z)) 0 0 (FR Z)) (hcf_X7_readIf : ∀ {h g : Hp} {p1 : Nat} {p2 : Int32} {p3 : Int32} {out : Int32 × Hp} (hk_p1 : knd p1 = 6), cf_X7_readIf h p1 p2 p3 = some out → Met l yX7_readIf (wY yX7_readIf cX7_readIf 4 (some .boolean)) (rmD (10 + n0)) (va_Pc [.ref (Z.1 1), .ref (Z.1 p1), .int p2, .int p3] (Wd Z h g)) (va_Qi (fun r (_ : Unit) => r = out.1) (fun _ => Wd Z out.2 g) (FR Z)) 0 0 (FR Z)) (hcf_X7_readRepeat : ∀ {h g : Hp} {p1 : Nat} {p2 : Int32} {p3 : Int32} {out : Int32 × Hp} (hk_p1 : knd p1 = 6), cf_X7_readRepeat h p1 p2 p3 = some out → Met l yX7_readRepeat (wY yX7_readRepeat cX7_readRepeat 5 (some .boolean)) (rmD (10 + n0)) (va_Pc [.ref (Z.1 1), .ref (Z.1 p1), .int p2, .int p3] (Wd Z h g)) (va_Qi (fun r (_ : Unit) => r = out.1) (fun _ => Wd Z out.2 g) (FR Z)) 0 0 (FR Z)) (hk_p1 : knd p1 = 6) {out : Int32 × Hp} (hf : B_X7_readRepeat cf_X7_readBlock cf_X7_readCommand cf_X7_readCommands cf_X7_readIf cf_X7_readRepeat h p1 p2 p3 = some out) : Met l yX7_readRepeat (wY yX7_readRepeat cX7_readRepeat 5 (some .boolean)) (rmD (10 + n0 + 1)) (va_Pc [.ref (Z.1 1), .ref (Z.1 p1), .int p2, .int p3] (Wd Z h g)) (va_Qi (fun r (_ : Unit) => r = out.1) (fun _ => Wd Z out.2 g) (FR Z)) 0 0 (FR Z) := by
  refine metX RX7 rfl (by decide +kernel) (Nat.le_of_ble_eq_true rfl) ?_
  intro p e s m args below meth c C hW ls hl
  have hl : lv_has ls 5 [(0, .ref (Z.1 1)), (1, .ref (Z.1 p1)), (2, .int p2), (3, .int p3)] := hl
  unfold B_X7_readRepeat at hf
  refine lv_aload_n C.1 C.2.1 dX7_readRepeat_0 rfl (lv_at hl 0 rfl) ?_
  refine lv_iconst (v := 1) C.1 C.2.1 dX7_readRepeat_1 (by decide) ?_
  refine lv_bipush (v := 9) C.1 C.2.1 dX7_readRepeat_2 (by decide) ?_
  obtain ⟨u1, hcu1, hf⟩ := bnd_t hf
  refine x_calli hW (x_runV C hW hl (wk7 (k_1)) rfl rfl (c_X9_numberHere hcu1) (cw_X7_89) ci_X9_numberHere cs_X9_numberHere (rm_ok (by omega) (by decide)) ⟨Nat.le_refl _, Nat.le_refl _⟩ (As := [.int (1 : Int32), .int (9 : Int32)]) rfl rfl (Nat.le_of_ble_eq_true rfl) dX7_readRepeat_4) (fun H locs hW => ?_)
  refine lv_istore (lv' := [(4, .int u1.1), (0, .ref (Z.1 1)), (1, .ref (Z.1 p1)), (2, .int p2), (3, .int p3)]) C.1 C.2.1 dX7_readRepeat_7 hl (by decide) rfl (fun ls hl => ?_)
  refine lv_iload C.1 C.2.1 dX7_readRepeat_9 (lv_at hl 0 rfl) ?_
  refine lv_iconst (v := -1) C.1 C.2.1 dX7_readRepeat_11 (by decide) ?_
  refine x_cmpne (tgt := 17) C hf dX7_readRepeat_12 (by decide) (fun hf => ?_) (fun hf => ?_)
  · refine lv_aload_n C.1 C.2.1 dX7_readRepeat_17 rfl (lv_at hl 1 rfl) ?_
    obtain ⟨u2, hcu2, hf⟩ := bnd_t hf
    refine x_callv hW (x_runV C hW hl (wk7 (k_1)) rfl rfl (c_X9_advance hcu2) (cw_X7_45) ci_X9_advance cs_X9_advance (rm_ok (by omega) (by decide)) ⟨Nat.le_refl _, Nat.le_refl _⟩ (As := []) rfl rfl (Nat.le_of_ble_eq_true rfl) dX7_readRepeat_18) (fun H locs hW => ?_)
    refine lv_aload_n C.1 C.2.1 dX7_readRepeat_21 rfl (lv_at hl 2 rfl) ?_
    refine xg_X7_93 C hW hk_p1 dX7_readRepeat_22 ?_
    refine lv_iload_n C.1 C.2.1 dX7_readRepeat_25 rfl (lv_at hl 3 rfl) ?_
    refine lv_iload C.1 C.2.1 dX7_readRepeat_26 (lv_at hl 0 rfl) ?_
    refine x_iastC C hW (o_X6_2 hk_p1) hf dX7_readRepeat_28 (fun h3 H locs hf hW => ?_)
    refine lv_aload_n C.1 C.2.1 dX7_readRepeat_29 rfl (lv_at hl 1 rfl) ?_
    refine lv_aload_n C.1 C.2.1 dX7_readRepeat_30 rfl (lv_at hl 2 rfl) ?_
    refine lv_iload_n C.1 C.2.1 dX7_readRepeat_31 rfl (lv_at hl 4 rfl) ?_
    obtain ⟨u4, hcu4, hf⟩ := bnd_t hf
    refine x_calli hW (x_runS C hW hl (hcf_X7_readBlock hk_p1 hcu4) (cw_X7_96) ct_X7_readBlock (rm_ok (by omega) (by decide)) ⟨Nat.le_refl _, Nat.le_refl _⟩ (As := [.ref (Z.1 1), .ref (Z.1 p1), .int p3]) rfl rfl (Nat.le_of_ble_eq_true rfl) dX7_readRepeat_32) (fun H locs hW => ?_)
    obtain ⟨hz, hf⟩ := ck_t hf
    obtain rfl := Option.some.inj hf
    exact x_zret C hW hz dX7_readRepeat_35 rfl
  · refine lv_iconst (v := 0) C.1 C.2.1 dX7_readRepeat_15 (by decide) ?_
    obtain rfl := Option.some.inj hf
    exact x_zret C hW (by decide) dX7_readRepeat_16 rfl
set_option maxRecDepth 20000 in
set_option maxHeartbeats 1000000 in
theorem rec_X7_readBlock {l : Launch} {Z : ZT} : ∀ n : Nat, (∀ {h g : Hp} {p1 : Nat} {p2 : Int32} {out : Int32 × Hp} (hk_p1 : knd p1 = 6), (REC_X7_readBlock n).1 h p1 p2 = some out → Met l yX7_readBlock (wY yX7_readBlock cX7_readBlock 3 (some .boolean)) (rmD (10 + n)) (va_Pc [.ref (Z.1 1), .ref (Z.1 p1), .int p2] (Wd Z h g)) (va_Qi (fun r (_ : Unit) => r = out.1) (fun _ => Wd Z out.2 g) (FR Z)) 0 0 (FR Z)) ∧ (∀ {h g : Hp} {p1 : Nat} {p2 : Int32} {out : Int32 × Hp} (hk_p1 : knd p1 = 6), (REC_X7_readBlock n).2.1 h p1 p2 = some out → Met l yX7_readCommand (wY yX7_readCommand cX7_readCommand 6 (some .boolean)) (rmD (10 + n)) (va_Pc [.ref (Z.1 1), .ref (Z.1 p1), .int p2] (Wd Z h g)) (va_Qi (fun r (_ : Unit) => r = out.1) (fun _ => Wd Z out.2 g) (FR Z)) 0 0 (FR Z)) ∧ (∀ {h g : Hp} {p1 : Nat} {p2 : Int32} {out : Int32 × Hp} (hk_p1 : knd p1 = 6), (REC_X7_readBlock n).2.2.1 h p1 p2 = some out → Met l yX7_readCommands (wY yX7_readCommands cX7_readCommands 4 (some .boolean)) (rmD (10 + n)) (va_Pc [.ref (Z.1 1), .ref (Z.1 p1), .int p2] (Wd Z h g)) (va_Qi (fun r (_ : Unit) => r = out.1) (fun _ => Wd Z out.2 g) (FR Z)) 0 0 (FR Z)) ∧ (∀ {h g : Hp} {p1 : Nat} {p2 : Int32} {p3 : Int32} {out : Int32 × Hp} (hk_p1 : knd p1 = 6), (REC_X7_readBlock n).2.2.2.1 h p1 p2 p3 = some out → Met l yX7_readIf (wY yX7_readIf cX7_readIf 4 (some .boolean)) (rmD (10 + n)) (va_Pc [.ref (Z.1 1), .ref (Z.1 p1), .int p2, .int p3] (Wd Z h g)) (va_Qi (fun r (_ : Unit) => r = out.1) (fun _ => Wd Z out.2 g) (FR Z)) 0 0 (FR Z)) ∧ (∀ {h g : Hp} {p1 : Nat} {p2 : Int32} {p3 : Int32} {out : Int32 × Hp} (hk_p1 : knd p1 = 6), (REC_X7_readBlock n).2.2.2.2 h p1 p2 p3 = some out → Met l yX7_readRepeat (wY yX7_readRepeat cX7_readRepeat 5 (some .boolean)) (rmD (10 + n)) (va_Pc [.ref (Z.1 1), .ref (Z.1 p1), .int p2, .int p3] (Wd Z h g)) (va_Qi (fun r (_ : Unit) => r = out.1) (fun _ => Wd Z out.2 g) (FR Z)) 0 0 (FR Z)) := by
  intro n
  induction n with
  | zero => exact ⟨(fun hk_p1 hf => no_none hf), (fun hk_p1 hf => no_none hf), (fun hk_p1 hf => no_none hf), (fun hk_p1 hf => no_none hf), (fun hk_p1 hf => no_none hf)⟩
  | succ n ih =>
    exact ⟨(fun hk_p1 hf => b_X7_readBlock (n0 := n) (fun hk_p1 z => ih.1 hk_p1 z) (fun hk_p1 z => ih.2.1 hk_p1 z) (fun hk_p1 z => ih.2.2.1 hk_p1 z) (fun hk_p1 z => ih.2.2.2.1 hk_p1 z) (fun hk_p1 z => ih.2.2.2.2 hk_p1 z) hk_p1 hf), (fun hk_p1 hf => b_X7_readCommand (n0 := n) (fun hk_p1 z => ih.1 hk_p1 z) (fun hk_p1 z => ih.2.1 hk_p1 z) (fun hk_p1 z => ih.2.2.1 hk_p1 z) (fun hk_p1 z => ih.2.2.2.1 hk_p1 z) (fun hk_p1 z => ih.2.2.2.2 hk_p1 z) hk_p1 hf), (fun hk_p1 hf => b_X7_readCommands (n0 := n) (fun hk_p1 z => ih.1 hk_p1 z) (fun hk_p1 z => ih.2.1 hk_p1 z) (fun hk_p1 z => ih.2.2.1 hk_p1 z) (fun hk_p1 z => ih.2.2.2.1 hk_p1 z) (fun hk_p1 z => ih.2.2.2.2 hk_p1 z) hk_p1 hf), (fun hk_p1 hf => b_X7_readIf (n0 := n) (fun hk_p1 z => ih.1 hk_p1 z) (fun hk_p1 z => ih.2.1 hk_p1 z) (fun hk_p1 z => ih.2.2.1 hk_p1 z) (fun hk_p1 z => ih.2.2.2.1 hk_p1 z) (fun hk_p1 z => ih.2.2.2.2 hk_p1 z) hk_p1 hf), (fun hk_p1 hf => b_X7_readRepeat (n0 := n) (fun hk_p1 z => ih.1 hk_p1 z) (fun hk_p1 z => ih.2.1 hk_p1 z) (fun hk_p1 z => ih.2.2.1 hk_p1 z) (fun hk_p1 z => ih.2.2.2.1 hk_p1 z) (fun hk_p1 z => ih.2.2.2.2 hk_p1 z) hk_p1 hf)⟩
set_option maxRecDepth 20000 in
set_option maxHeartbeats 1000000 in
theorem c_X7_readBlock {l : Launch} {Z : ZT} : ∀ {h g : Hp} {p1 : Nat} {p2 : Int32} {out : Int32 × Hp} (hk_p1 : knd p1 = 6), f_X7_readBlock h p1 p2 = some out → Met l yX7_readBlock (wY yX7_readBlock cX7_readBlock 3 (some .boolean)) (rmD (10 + 64)) (va_Pc [.ref (Z.1 1), .ref (Z.1 p1), .int p2] (Wd Z h g)) (va_Qi (fun r (_ : Unit) => r = out.1) (fun _ => Wd Z out.2 g) (FR Z)) 0 0 (FR Z) := (rec_X7_readBlock 64).1
set_option maxRecDepth 20000 in
set_option maxHeartbeats 1000000 in
theorem c_X7_readCommand {l : Launch} {Z : ZT} : ∀ {h g : Hp} {p1 : Nat} {p2 : Int32} {out : Int32 × Hp} (hk_p1 : knd p1 = 6), f_X7_readCommand h p1 p2 = some out → Met l yX7_readCommand (wY yX7_readCommand cX7_readCommand 6 (some .boolean)) (rmD (10 + 64)) (va_Pc [.ref (Z.1 1), .ref (Z.1 p1), .int p2] (Wd Z h g)) (va_Qi (fun r (_ : Unit) => r = out.1) (fun _ => Wd Z out.2 g) (FR Z)) 0 0 (FR Z) := (rec_X7_readBlock 64).2.1
set_option maxRecDepth 20000 in
set_option maxHeartbeats 1000000 in
theorem c_X7_readCommands {l : Launch} {Z : ZT} : ∀ {h g : Hp} {p1 : Nat} {p2 : Int32} {out : Int32 × Hp} (hk_p1 : knd p1 = 6), f_X7_readCommands h p1 p2 = some out → Met l yX7_readCommands (wY yX7_readCommands cX7_readCommands 4 (some .boolean)) (rmD (10 + 64)) (va_Pc [.ref (Z.1 1), .ref (Z.1 p1), .int p2] (Wd Z h g)) (va_Qi (fun r (_ : Unit) => r = out.1) (fun _ => Wd Z out.2 g) (FR Z)) 0 0 (FR Z) := (rec_X7_readBlock 64).2.2.1
set_option maxRecDepth 20000 in
set_option maxHeartbeats 1000000 in
theorem c_X7_readIf {l : Launch} {Z : ZT} : ∀ {h g : Hp} {p1 : Nat} {p2 : Int32} {p3 : Int32} {out : Int32 × Hp} (hk_p1 : knd p1 = 6), f_X7_readIf h p1 p2 p3 = some out → Met l yX7_readIf (wY yX7_readIf cX7_readIf 4 (some .boolean)) (rmD (10 + 64)) (va_Pc [.ref (Z.1 1), .ref (Z.1 p1), .int p2, .int p3] (Wd Z h g)) (va_Qi (fun r (_ : Unit) => r = out.1) (fun _ => Wd Z out.2 g) (FR Z)) 0 0 (FR Z) := (rec_X7_readBlock 64).2.2.2.1
set_option maxRecDepth 20000 in
set_option maxHeartbeats 1000000 in
theorem c_X7_readRepeat {l : Launch} {Z : ZT} : ∀ {h g : Hp} {p1 : Nat} {p2 : Int32} {p3 : Int32} {out : Int32 × Hp} (hk_p1 : knd p1 = 6), f_X7_readRepeat h p1 p2 p3 = some out → Met l yX7_readRepeat (wY yX7_readRepeat cX7_readRepeat 5 (some .boolean)) (rmD (10 + 64)) (va_Pc [.ref (Z.1 1), .ref (Z.1 p1), .int p2, .int p3] (Wd Z h g)) (va_Qi (fun r (_ : Unit) => r = out.1) (fun _ => Wd Z out.2 g) (FR Z)) 0 0 (FR Z) := (rec_X7_readBlock 64).2.2.2.2
set_option maxRecDepth 20000 in
set_option maxHeartbeats 1000000 in
theorem c_X7_read {l : Launch} {Z : ZT} {g : Hp} {h : Hp} {p1 : Nat} (hk_p1 : knd p1 = 6) {out : Int32 × Hp} (hf : f_X7_read h p1 = some out) : Met l yX7_read (wY yX7_read cX7_read 2 (some .boolean)) (rmD 76) (va_Pc [.ref (Z.1 1), .ref (Z.1 p1)] (Wd Z h g)) (va_Qi (fun r (_ : Unit) => r = out.1) (fun _ => Wd Z out.2 g) (FR Z)) 0 0 (FR Z) := by
  refine metX RX7 rfl (by decide +kernel) (Nat.le_of_ble_eq_true rfl) ?_
  intro p e s m args below meth c C hW ls hl
  have hl : lv_has ls 2 [(0, .ref (Z.1 1)), (1, .ref (Z.1 p1))] := hl
  unfold f_X7_read at hf
  refine lv_aload_n C.1 C.2.1 dX7_read_0 rfl (lv_at hl 1 rfl) ?_
  refine lv_iconst (v := 0) C.1 C.2.1 dX7_read_1 (by decide) ?_
  refine xp_X7_9 C hW hk_p1 hf dX7_read_2 (fun h1 H locs hf hW => ?_)
  refine lv_aload_n C.1 C.2.1 dX7_read_5 rfl (lv_at hl 0 rfl) ?_
  obtain ⟨u2, hcu2, hf⟩ := bnd_t hf
  refine x_callv hW (x_runV C hW hl (wk7 (k_1)) rfl rfl (c_X9_begin hcu2) (cw_X7_15) ci_X9_begin cs_X9_begin (rm_ok (by decide) (by decide)) ⟨Nat.le_refl _, Nat.le_refl _⟩ (As := []) rfl rfl (Nat.le_of_ble_eq_true rfl) dX7_read_6) (fun H locs hW => ?_)
  refine lv_aload_n C.1 C.2.1 dX7_read_9 rfl (lv_at hl 0 rfl) ?_
  refine lv_aload_n C.1 C.2.1 dX7_read_10 rfl (lv_at hl 1 rfl) ?_
  refine lv_iconst (v := 0) C.1 C.2.1 dX7_read_11 (by decide) ?_
  obtain ⟨u3, hcu3, hf⟩ := bnd_t hf
  refine x_calli hW (x_runS C hW hl (c_X7_readCommands hk_p1 hcu3) (cw_X7_20) ct_X7_readCommands (rm_ok (by decide) (by decide)) ⟨Nat.le_refl _, Nat.le_refl _⟩ (As := [.ref (Z.1 1), .ref (Z.1 p1), .int (0 : Int32)]) rfl rfl (Nat.le_of_ble_eq_true rfl) dX7_read_12) (fun H locs hW => ?_)
  refine x_ifne (tgt := 20) C hf dX7_read_15 (by decide) (fun hf => ?_) (fun hf => ?_)
  · refine lv_aload_n C.1 C.2.1 dX7_read_20 rfl (lv_at hl 0 rfl) ?_
    obtain ⟨u4, hcu4, hf⟩ := bnd_t hf
    refine x_calli hW (x_runV C hW hl (wk7 (k_1)) rfl rfl (c_X9_isEnd hcu4) (cw_X7_26) ci_X9_isEnd cs_X9_isEnd (rm_ok (by decide) (by decide)) ⟨Nat.le_refl _, Nat.le_refl _⟩ (As := []) rfl rfl (Nat.le_of_ble_eq_true rfl) dX7_read_21) (fun H locs hW => ?_)
    refine x_ifne (tgt := 35) C hf dX7_read_24 (by decide) (fun hf => ?_) (fun hf => ?_)
    · refine lv_iconst (v := 1) C.1 C.2.1 dX7_read_35 (by decide) ?_
      refine lv_goto (tgt := 40) C.1 C.2.1 dX7_read_36 (by decide) ?_
      obtain rfl := Option.some.inj hf
      exact x_zret C hW (by decide) dX7_read_40 rfl
    · refine lv_aload_n C.1 C.2.1 dX7_read_27 rfl (lv_at hl 0 rfl) ?_
      refine lv_iconst (v := 1) C.1 C.2.1 dX7_read_28 (by decide) ?_
      obtain ⟨u5, hcu5, hf⟩ := bnd_t hf
      refine x_calli hW (x_runV C hW hl (wk7 (k_1)) rfl rfl (c_X9_fail hcu5) (cw_X7_30) ci_X9_fail cs_X9_fail (rm_ok (by decide) (by decide)) ⟨Nat.le_refl _, Nat.le_refl _⟩ (As := [.int (1 : Int32)]) rfl rfl (Nat.le_of_ble_eq_true rfl) dX7_read_29) (fun H locs hW => ?_)
      refine x_ifeq (tgt := 39) C hf dX7_read_32 (by decide) (fun hf => ?_) (fun hf => ?_)
      · refine lv_iconst (v := 0) C.1 C.2.1 dX7_read_39 (by decide) ?_
        obtain rfl := Option.some.inj hf
        exact x_zret C hW (by decide) dX7_read_40 rfl
      · refine lv_iconst (v := 1) C.1 C.2.1 dX7_read_35 (by decide) ?_
        refine lv_goto (tgt := 40) C.1 C.2.1 dX7_read_36 (by decide) ?_
        obtain rfl := Option.some.inj hf
        exact x_zret C hW (by decide) dX7_read_40 rfl
  · refine lv_iconst (v := 0) C.1 C.2.1 dX7_read_18 (by decide) ?_
    obtain rfl := Option.some.inj hf
    exact x_zret C hW (by decide) dX7_read_19 rfl
