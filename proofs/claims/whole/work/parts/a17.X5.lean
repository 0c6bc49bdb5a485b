abbrev cX5_exchangeScript : ByteArray := prog_7_method_2_code
def yX5_exchangeScript : MethodName := ⟨RX5, "exchangeScript", "(LTranscriptCutter$Script;)LTranscriptCutter$Script;"⟩
theorem dX5_exchangeScript_0 : decode cX5_exchangeScript 0 = .ok (.aload_n 0, 1) := by decide +kernel
theorem dX5_exchangeScript_1 : decode cX5_exchangeScript 1 = .ok (.getfield 12, 3) := by decide +kernel
theorem dX5_exchangeScript_4 : decode cX5_exchangeScript 4 = .ok (.astore_n 2, 1) := by decide +kernel
theorem dX5_exchangeScript_5 : decode cX5_exchangeScript 5 = .ok (.aload_n 0, 1) := by decide +kernel
theorem dX5_exchangeScript_6 : decode cX5_exchangeScript 6 = .ok (.aload_n 1, 1) := by decide +kernel
theorem dX5_exchangeScript_7 : decode cX5_exchangeScript 7 = .ok (.putfield 12, 3) := by decide +kernel
theorem dX5_exchangeScript_10 : decode cX5_exchangeScript 10 = .ok (.aload_n 2, 1) := by decide +kernel
theorem dX5_exchangeScript_11 : decode cX5_exchangeScript 11 = .ok (.areturn, 1) := by decide +kernel
theorem ci_X5_exchangeScript : Cond.instanceMethod yX5_exchangeScript ∈ TW := TW_of 1085 (by decide +kernel) (by decide +kernel)
theorem cs_X5_exchangeScript : Cond.selects yX5_exchangeScript.cls yX5_exchangeScript yX5_exchangeScript ∈ TW := TW_of 1086 (by decide +kernel) (by decide +kernel)
abbrev cX5_runCommand : ByteArray := prog_7_method_5_code
def yX5_runCommand : MethodName := ⟨RX5, "runCommand", "(LTranscriptCutter$Film;II)V"⟩
theorem dX5_runCommand_0 : decode cX5_runCommand 0 = .ok (.aload_n 0, 1) := by decide +kernel
theorem dX5_runCommand_1 : decode cX5_runCommand 1 = .ok (.getfield 18, 3) := by decide +kernel
theorem dX5_runCommand_4 : decode cX5_runCommand 4 = .ok (.sipush 200, 3) := by decide +kernel
theorem dX5_runCommand_7 : decode cX5_runCommand 7 = .ok (.if_icmp .lt 9, 3) := by decide +kernel
theorem dX5_runCommand_10 : decode cX5_runCommand 10 = .ok (.aload_n 0, 1) := by decide +kernel
theorem dX5_runCommand_11 : decode cX5_runCommand 11 = .ok (.iconst 1, 1) := by decide +kernel
theorem dX5_runCommand_12 : decode cX5_runCommand 12 = .ok (.putfield 25, 3) := by decide +kernel
theorem dX5_runCommand_15 : decode cX5_runCommand 15 = .ok (.return_, 1) := by decide +kernel
theorem dX5_runCommand_16 : decode cX5_runCommand 16 = .ok (.aload_n 0, 1) := by decide +kernel
theorem dX5_runCommand_17 : decode cX5_runCommand 17 = .ok (.dup, 1) := by decide +kernel
theorem dX5_runCommand_18 : decode cX5_runCommand 18 = .ok (.getfield 18, 3) := by decide +kernel
theorem dX5_runCommand_21 : decode cX5_runCommand 21 = .ok (.iconst 1, 1) := by decide +kernel
theorem dX5_runCommand_22 : decode cX5_runCommand 22 = .ok (.iadd, 1) := by decide +kernel
theorem dX5_runCommand_23 : decode cX5_runCommand 23 = .ok (.putfield 18, 3) := by decide +kernel
theorem dX5_runCommand_26 : decode cX5_runCommand 26 = .ok (.iconst 2, 1) := by decide +kernel
theorem dX5_runCommand_27 : decode cX5_runCommand 27 = .ok (.iload_n 2, 1) := by decide +kernel
theorem dX5_runCommand_28 : decode cX5_runCommand 28 = .ok (.imul, 1) := by decide +kernel
theorem dX5_runCommand_29 : decode cX5_runCommand 29 = .ok (.istore 4, 2) := by decide +kernel
theorem dX5_runCommand_31 : decode cX5_runCommand 31 = .ok (.iconst 1, 1) := by decide +kernel
theorem dX5_runCommand_32 : decode cX5_runCommand 32 = .ok (.istore 5, 2) := by decide +kernel
theorem dX5_runCommand_34 : decode cX5_runCommand 34 = .ok (.aload_n 0, 1) := by decide +kernel
theorem dX5_runCommand_35 : decode cX5_runCommand 35 = .ok (.getfield 12, 3) := by decide +kernel
theorem dX5_runCommand_38 : decode cX5_runCommand 38 = .ok (.getfield 44, 3) := by decide +kernel
theorem dX5_runCommand_41 : decode cX5_runCommand 41 = .ok (.iload_n 2, 1) := by decide +kernel
theorem dX5_runCommand_42 : decode cX5_runCommand 42 = .ok (.iaload, 1) := by decide +kernel
theorem dX5_runCommand_43 : decode cX5_runCommand 43 = .ok (.tableswitch 110 0 4 #[33, 49, 66, 81, 100], 33) := by decide +kernel
theorem dX5_runCommand_76 : decode cX5_runCommand 76 = .ok (.aload_n 1, 1) := by decide +kernel
theorem dX5_runCommand_77 : decode cX5_runCommand 77 = .ok (.aload_n 0, 1) := by decide +kernel
theorem dX5_runCommand_78 : decode cX5_runCommand 78 = .ok (.getfield 12, 3) := by decide +kernel
theorem dX5_runCommand_81 : decode cX5_runCommand 81 = .ok (.iload 4, 2) := by decide +kernel
theorem dX5_runCommand_83 : decode cX5_runCommand 83 = .ok (.iconst 1, 1) := by decide +kernel
theorem dX5_runCommand_84 : decode cX5_runCommand 84 = .ok (.invokevirtual 47, 3) := by decide +kernel
theorem dX5_runCommand_87 : decode cX5_runCommand 87 = .ok (.istore 5, 2) := by decide +kernel
theorem dX5_runCommand_89 : decode cX5_runCommand 89 = .ok (.goto 71, 3) := by decide +kernel
theorem dX5_runCommand_92 : decode cX5_runCommand 92 = .ok (.aload_n 1, 1) := by decide +kernel
theorem dX5_runCommand_93 : decode cX5_runCommand 93 = .ok (.aload_n 0, 1) := by decide +kernel
theorem dX5_runCommand_94 : decode cX5_runCommand 94 = .ok (.getfield 12, 3) := by decide +kernel
theorem dX5_runCommand_97 : decode cX5_runCommand 97 = .ok (.iload 4, 2) := by decide +kernel
theorem dX5_runCommand_99 : decode cX5_runCommand 99 = .ok (.bipush 40, 2) := by decide +kernel
theorem dX5_runCommand_101 : decode cX5_runCommand 101 = .ok (.invokevirtual 47, 3) := by decide +kernel
theorem dX5_runCommand_104 : decode cX5_runCommand 104 = .ok (.istore 5, 2) := by decide +kernel
theorem dX5_runCommand_106 : decode cX5_runCommand 106 = .ok (.goto 54, 3) := by decide +kernel
theorem dX5_runCommand_109 : decode cX5_runCommand 109 = .ok (.aload_n 1, 1) := by decide +kernel
theorem dX5_runCommand_110 : decode cX5_runCommand 110 = .ok (.aload_n 0, 1) := by decide +kernel
theorem dX5_runCommand_111 : decode cX5_runCommand 111 = .ok (.getfield 12, 3) := by decide +kernel
theorem dX5_runCommand_114 : decode cX5_runCommand 114 = .ok (.iload 4, 2) := by decide +kernel
theorem dX5_runCommand_116 : decode cX5_runCommand 116 = .ok (.invokevirtual 53, 3) := by decide +kernel
theorem dX5_runCommand_119 : decode cX5_runCommand 119 = .ok (.istore 5, 2) := by decide +kernel
theorem dX5_runCommand_121 : decode cX5_runCommand 121 = .ok (.goto 39, 3) := by decide +kernel
theorem dX5_runCommand_124 : decode cX5_runCommand 124 = .ok (.aload_n 1, 1) := by decide +kernel
theorem dX5_runCommand_125 : decode cX5_runCommand 125 = .ok (.aload_n 0, 1) := by decide +kernel
theorem dX5_runCommand_126 : decode cX5_runCommand 126 = .ok (.getfield 12, 3) := by decide +kernel
theorem dX5_runCommand_129 : decode cX5_runCommand 129 = .ok (.iload 4, 2) := by decide +kernel
theorem dX5_runCommand_131 : decode cX5_runCommand 131 = .ok (.iload 4, 2) := by decide +kernel
theorem dX5_runCommand_133 : decode cX5_runCommand 133 = .ok (.iconst 1, 1) := by decide +kernel
theorem dX5_runCommand_134 : decode cX5_runCommand 134 = .ok (.iadd, 1) := by decide +kernel
theorem dX5_runCommand_135 : decode cX5_runCommand 135 = .ok (.invokevirtual 57, 3) := by decide +kernel
theorem dX5_runCommand_138 : decode cX5_runCommand 138 = .ok (.istore 5, 2) := by decide +kernel
theorem dX5_runCommand_140 : decode cX5_runCommand 140 = .ok (.goto 20, 3) := by decide +kernel
theorem dX5_runCommand_143 : decode cX5_runCommand 143 = .ok (.aload_n 0, 1) := by decide +kernel
theorem dX5_runCommand_144 : decode cX5_runCommand 144 = .ok (.aload_n 1, 1) := by decide +kernel
theorem dX5_runCommand_145 : decode cX5_runCommand 145 = .ok (.iload_n 2, 1) := by decide +kernel
theorem dX5_runCommand_146 : decode cX5_runCommand 146 = .ok (.iload_n 3, 1) := by decide +kernel
theorem dX5_runCommand_147 : decode cX5_runCommand 147 = .ok (.invokevirtual 60, 3) := by decide +kernel
theorem dX5_runCommand_150 : decode cX5_runCommand 150 = .ok (.goto 10, 3) := by decide +kernel
theorem dX5_runCommand_153 : decode cX5_runCommand 153 = .ok (.aload_n 0, 1) := by decide +kernel
theorem dX5_runCommand_154 : decode cX5_runCommand 154 = .ok (.aload_n 1, 1) := by decide +kernel
theorem dX5_runCommand_155 : decode cX5_runCommand 155 = .ok (.iload_n 2, 1) := by decide +kernel
theorem dX5_runCommand_156 : decode cX5_runCommand 156 = .ok (.iload_n 3, 1) := by decide +kernel
theorem dX5_runCommand_157 : decode cX5_runCommand 157 = .ok (.invokevirtual 63, 3) := by decide +kernel
theorem dX5_runCommand_160 : decode cX5_runCommand 160 = .ok (.iload 5, 2) := by decide +kernel
theorem dX5_runCommand_162 : decode cX5_runCommand 162 = .ok (.ifCond .ne 13, 3) := by decide +kernel
theorem dX5_runCommand_165 : decode cX5_runCommand 165 = .ok (.aload_n 0, 1) := by decide +kernel
theorem dX5_runCommand_166 : decode cX5_runCommand 166 = .ok (.dup, 1) := by decide +kernel
theorem dX5_runCommand_167 : decode cX5_runCommand 167 = .ok (.getfield 22, 3) := by decide +kernel
theorem dX5_runCommand_170 : decode cX5_runCommand 170 = .ok (.iconst 1, 1) := by decide +kernel
theorem dX5_runCommand_171 : decode cX5_runCommand 171 = .ok (.iadd, 1) := by decide +kernel
theorem dX5_runCommand_172 : decode cX5_runCommand 172 = .ok (.putfield 22, 3) := by decide +kernel
theorem dX5_runCommand_175 : decode cX5_runCommand 175 = .ok (.return_, 1) := by decide +kernel
theorem ci_X5_runCommand : Cond.instanceMethod yX5_runCommand ∈ TW := TW_of 654 (by decide +kernel) (by decide +kernel)
theorem cs_X5_runCommand : Cond.selects yX5_runCommand.cls yX5_runCommand yX5_runCommand ∈ TW := TW_of 3 (by decide +kernel) (by decide +kernel)
abbrev cX5_runCommands : ByteArray := prog_7_method_4_code
def yX5_runCommands : MethodName := ⟨RX5, "runCommands", "(LTranscriptCutter$Film;III)V"⟩
theorem dX5_runCommands_0 : decode cX5_runCommands 0 = .ok (.iload 4, 2) := by decide +kernel
theorem dX5_runCommands_2 : decode cX5_runCommands 2 = .ok (.iconst 5, 1) := by decide +kernel
theorem dX5_runCommands_3 : decode cX5_runCommands 3 = .ok (.if_icmp .le 4, 3) := by decide +kernel
theorem dX5_runCommands_6 : decode cX5_runCommands 6 = .ok (.return_, 1) := by decide +kernel
theorem dX5_runCommands_7 : decode cX5_runCommands 7 = .ok (.iload_n 2, 1) := by decide +kernel
theorem dX5_runCommands_8 : decode cX5_runCommands 8 = .ok (.istore 5, 2) := by decide +kernel
theorem dX5_runCommands_10 : decode cX5_runCommands 10 = .ok (.iconst 0, 1) := by decide +kernel
theorem dX5_runCommands_11 : decode cX5_runCommands 11 = .ok (.istore 6, 2) := by decide +kernel
theorem dX5_runCommands_13 : decode cX5_runCommands 13 = .ok (.iload 6, 2) := by decide +kernel
theorem dX5_runCommands_15 : decode cX5_runCommands 15 = .ok (.bipush 30, 2) := by decide +kernel
theorem dX5_runCommands_17 : decode cX5_runCommands 17 = .ok (.if_icmp .ge 43, 3) := by decide +kernel
theorem dX5_runCommands_20 : decode cX5_runCommands 20 = .ok (.iload 5, 2) := by decide +kernel
theorem dX5_runCommands_22 : decode cX5_runCommands 22 = .ok (.iload_n 3, 1) := by decide +kernel
theorem dX5_runCommands_23 : decode cX5_runCommands 23 = .ok (.if_icmp .ge 37, 3) := by decide +kernel
theorem dX5_runCommands_26 : decode cX5_runCommands 26 = .ok (.aload_n 0, 1) := by decide +kernel
theorem dX5_runCommands_27 : decode cX5_runCommands 27 = .ok (.getfield 25, 3) := by decide +kernel
theorem dX5_runCommands_30 : decode cX5_runCommands 30 = .ok (.ifCond .ne 30, 3) := by decide +kernel
theorem dX5_runCommands_33 : decode cX5_runCommands 33 = .ok (.aload_n 0, 1) := by decide +kernel
theorem dX5_runCommands_34 : decode cX5_runCommands 34 = .ok (.aload_n 1, 1) := by decide +kernel
theorem dX5_runCommands_35 : decode cX5_runCommands 35 = .ok (.iload 5, 2) := by decide +kernel
theorem dX5_runCommands_37 : decode cX5_runCommands 37 = .ok (.iload 4, 2) := by decide +kernel
theorem dX5_runCommands_39 : decode cX5_runCommands 39 = .ok (.invokevirtual 36, 3) := by decide +kernel
theorem dX5_runCommands_42 : decode cX5_runCommands 42 = .ok (.aload_n 0, 1) := by decide +kernel
theorem dX5_runCommands_43 : decode cX5_runCommands 43 = .ok (.getfield 12, 3) := by decide +kernel
theorem dX5_runCommands_46 : decode cX5_runCommands 46 = .ok (.getfield 40, 3) := by decide +kernel
theorem dX5_runCommands_49 : decode cX5_runCommands 49 = .ok (.iload 5, 2) := by decide +kernel
theorem dX5_runCommands_51 : decode cX5_runCommands 51 = .ok (.iaload, 1) := by decide +kernel
theorem dX5_runCommands_52 : decode cX5_runCommands 52 = .ok (.istore 5, 2) := by decide +kernel
theorem dX5_runCommands_54 : decode cX5_runCommands 54 = .ok (.iinc 6 1, 3) := by decide +kernel
theorem dX5_runCommands_57 : decode cX5_runCommands 57 = .ok (.goto (-44), 3) := by decide +kernel
theorem dX5_runCommands_60 : decode cX5_runCommands 60 = .ok (.return_, 1) := by decide +kernel
theorem ci_X5_runCommands : Cond.instanceMethod yX5_runCommands ∈ TW := TW_of 650 (by decide +kernel) (by decide +kernel)
theorem cs_X5_runCommands : Cond.selects yX5_runCommands.cls yX5_runCommands yX5_runCommands ∈ TW := TW_of 2 (by decide +kernel) (by decide +kernel)
abbrev cX5_runIf : ByteArray := prog_7_method_6_code
def yX5_runIf : MethodName := ⟨RX5, "runIf", "(LTranscriptCutter$Film;II)V"⟩
theorem dX5_runIf_0 : decode cX5_runIf 0 = .ok (.aload_n 0, 1) := by decide +kernel
theorem dX5_runIf_1 : decode cX5_runIf 1 = .ok (.getfield 12, 3) := by decide +kernel
theorem dX5_runIf_4 : decode cX5_runIf 4 = .ok (.getfield 66, 3) := by decide +kernel
theorem dX5_runIf_7 : decode cX5_runIf 7 = .ok (.iload_n 2, 1) := by decide +kernel
theorem dX5_runIf_8 : decode cX5_runIf 8 = .ok (.iaload, 1) := by decide +kernel
theorem dX5_runIf_9 : decode cX5_runIf 9 = .ok (.istore 4, 2) := by decide +kernel
theorem dX5_runIf_11 : decode cX5_runIf 11 = .ok (.aload_n 1, 1) := by decide +kernel
theorem dX5_runIf_12 : decode cX5_runIf 12 = .ok (.aload_n 0, 1) := by decide +kernel
theorem dX5_runIf_13 : decode cX5_runIf 13 = .ok (.getfield 12, 3) := by decide +kernel
theorem dX5_runIf_16 : decode cX5_runIf 16 = .ok (.iconst 2, 1) := by decide +kernel
theorem dX5_runIf_17 : decode cX5_runIf 17 = .ok (.iload_n 2, 1) := by decide +kernel
theorem dX5_runIf_18 : decode cX5_runIf 18 = .ok (.imul, 1) := by decide +kernel
theorem dX5_runIf_19 : decode cX5_runIf 19 = .ok (.invokevirtual 69, 3) := by decide +kernel
theorem dX5_runIf_22 : decode cX5_runIf 22 = .ok (.iconst (-1), 1) := by decide +kernel
theorem dX5_runIf_23 : decode cX5_runIf 23 = .ok (.if_icmp .eq 19, 3) := by decide +kernel
theorem dX5_runIf_26 : decode cX5_runIf 26 = .ok (.aload_n 0, 1) := by decide +kernel
theorem dX5_runIf_27 : decode cX5_runIf 27 = .ok (.aload_n 1, 1) := by decide +kernel
theorem dX5_runIf_28 : decode cX5_runIf 28 = .ok (.iload_n 2, 1) := by decide +kernel
theorem dX5_runIf_29 : decode cX5_runIf 29 = .ok (.iconst 1, 1) := by decide +kernel
theorem dX5_runIf_30 : decode cX5_runIf 30 = .ok (.iadd, 1) := by decide +kernel
theorem dX5_runIf_31 : decode cX5_runIf 31 = .ok (.iload 4, 2) := by decide +kernel
theorem dX5_runIf_33 : decode cX5_runIf 33 = .ok (.iload_n 3, 1) := by decide +kernel
theorem dX5_runIf_34 : decode cX5_runIf 34 = .ok (.iconst 1, 1) := by decide +kernel
theorem dX5_runIf_35 : decode cX5_runIf 35 = .ok (.iadd, 1) := by decide +kernel
theorem dX5_runIf_36 : decode cX5_runIf 36 = .ok (.invokevirtual 32, 3) := by decide +kernel
theorem dX5_runIf_39 : decode cX5_runIf 39 = .ok (.goto 22, 3) := by decide +kernel
theorem dX5_runIf_42 : decode cX5_runIf 42 = .ok (.aload_n 0, 1) := by decide +kernel
theorem dX5_runIf_43 : decode cX5_runIf 43 = .ok (.aload_n 1, 1) := by decide +kernel
theorem dX5_runIf_44 : decode cX5_runIf 44 = .ok (.iload 4, 2) := by decide +kernel
theorem dX5_runIf_46 : decode cX5_runIf 46 = .ok (.aload_n 0, 1) := by decide +kernel
theorem dX5_runIf_47 : decode cX5_runIf 47 = .ok (.getfield 12, 3) := by decide +kernel
theorem dX5_runIf_50 : decode cX5_runIf 50 = .ok (.getfield 40, 3) := by decide +kernel
theorem dX5_runIf_53 : decode cX5_runIf 53 = .ok (.iload_n 2, 1) := by decide +kernel
theorem dX5_runIf_54 : decode cX5_runIf 54 = .ok (.iaload, 1) := by decide +kernel
theorem dX5_runIf_55 : decode cX5_runIf 55 = .ok (.iload_n 3, 1) := by decide +kernel
theorem dX5_runIf_56 : decode cX5_runIf 56 = .ok (.iconst 1, 1) := by decide +kernel
theorem dX5_runIf_57 : decode cX5_runIf 57 = .ok (.iadd, 1) := by decide +kernel
theorem dX5_runIf_58 : decode cX5_runIf 58 = .ok (.invokevirtual 32, 3) := by decide +kernel
theorem dX5_runIf_61 : decode cX5_runIf 61 = .ok (.return_, 1) := by decide +kernel
theorem ci_X5_runIf : Cond.instanceMethod yX5_runIf ∈ TW := TW_of 738 (by decide +kernel) (by decide +kernel)
theorem cs_X5_runIf : Cond.selects yX5_runIf.cls yX5_runIf yX5_runIf ∈ TW := TW_of 8 (by decide +kernel) (by decide +kernel)
abbrev cX5_runRepeat : ByteArray := prog_7_method_7_code
def yX5_runRepeat : MethodName := ⟨RX5, "runRepeat", "(LTranscriptCutter$Film;II)V"⟩
theorem dX5_runRepeat_0 : decode cX5_runRepeat 0 = .ok (.iconst 0, 1) := by decide +kernel
theorem dX5_runRepeat_1 : decode cX5_runRepeat 1 = .ok (.istore 4, 2) := by decide +kernel
theorem dX5_runRepeat_3 : decode cX5_runRepeat 3 = .ok (.iload 4, 2) := by decide +kernel
theorem dX5_runRepeat_5 : decode cX5_runRepeat 5 = .ok (.aload_n 0, 1) := by decide +kernel
theorem dX5_runRepeat_6 : decode cX5_runRepeat 6 = .ok (.getfield 12, 3) := by decide +kernel
theorem dX5_runRepeat_9 : decode cX5_runRepeat 9 = .ok (.getfield 73, 3) := by decide +kernel
theorem dX5_runRepeat_12 : decode cX5_runRepeat 12 = .ok (.iload_n 2, 1) := by decide +kernel
theorem dX5_runRepeat_13 : decode cX5_runRepeat 13 = .ok (.iaload, 1) := by decide +kernel
theorem dX5_runRepeat_14 : decode cX5_runRepeat 14 = .ok (.if_icmp .ge 36, 3) := by decide +kernel
theorem dX5_runRepeat_17 : decode cX5_runRepeat 17 = .ok (.aload_n 0, 1) := by decide +kernel
theorem dX5_runRepeat_18 : decode cX5_runRepeat 18 = .ok (.getfield 25, 3) := by decide +kernel
theorem dX5_runRepeat_21 : decode cX5_runRepeat 21 = .ok (.ifCond .ne 29, 3) := by decide +kernel
theorem dX5_runRepeat_24 : decode cX5_runRepeat 24 = .ok (.aload_n 0, 1) := by decide +kernel
theorem dX5_runRepeat_25 : decode cX5_runRepeat 25 = .ok (.aload_n 1, 1) := by decide +kernel
theorem dX5_runRepeat_26 : decode cX5_runRepeat 26 = .ok (.iload_n 2, 1) := by decide +kernel
theorem dX5_runRepeat_27 : decode cX5_runRepeat 27 = .ok (.iconst 1, 1) := by decide +kernel
theorem dX5_runRepeat_28 : decode cX5_runRepeat 28 = .ok (.iadd, 1) := by decide +kernel
theorem dX5_runRepeat_29 : decode cX5_runRepeat 29 = .ok (.aload_n 0, 1) := by decide +kernel
theorem dX5_runRepeat_30 : decode cX5_runRepeat 30 = .ok (.getfield 12, 3) := by decide +kernel
theorem dX5_runRepeat_33 : decode cX5_runRepeat 33 = .ok (.getfield 40, 3) := by decide +kernel
theorem dX5_runRepeat_36 : decode cX5_runRepeat 36 = .ok (.iload_n 2, 1) := by decide +kernel
theorem dX5_runRepeat_37 : decode cX5_runRepeat 37 = .ok (.iaload, 1) := by decide +kernel
theorem dX5_runRepeat_38 : decode cX5_runRepeat 38 = .ok (.iload_n 3, 1) := by decide +kernel
theorem dX5_runRepeat_39 : decode cX5_runRepeat 39 = .ok (.iconst 1, 1) := by decide +kernel
theorem dX5_runRepeat_40 : decode cX5_runRepeat 40 = .ok (.iadd, 1) := by decide +kernel
theorem dX5_runRepeat_41 : decode cX5_runRepeat 41 = .ok (.invokevirtual 32, 3) := by decide +kernel
theorem dX5_runRepeat_44 : decode cX5_runRepeat 44 = .ok (.iinc 4 1, 3) := by decide +kernel
theorem dX5_runRepeat_47 : decode cX5_runRepeat 47 = .ok (.goto (-44), 3) := by decide +kernel
theorem dX5_runRepeat_50 : decode cX5_runRepeat 50 = .ok (.return_, 1) := by decide +kernel
theorem ci_X5_runRepeat : Cond.instanceMethod yX5_runRepeat ∈ TW := TW_of 743 (by decide +kernel) (by decide +kernel)
theorem cs_X5_runRepeat : Cond.selects yX5_runRepeat.cls yX5_runRepeat yX5_runRepeat ∈ TW := TW_of 9 (by decide +kernel) (by decide +kernel)
abbrev cX5_runAll : ByteArray := prog_7_method_3_code
def yX5_runAll : MethodName := ⟨RX5, "runAll", "(LTranscriptCutter$Film;)V"⟩
theorem dX5_runAll_0 : decode cX5_runAll 0 = .ok (.aload_n 0, 1) := by decide +kernel
theorem dX5_runAll_1 : decode cX5_runAll 1 = .ok (.iconst 0, 1) := by decide +kernel
theorem dX5_runAll_2 : decode cX5_runAll 2 = .ok (.putfield 18, 3) := by decide +kernel
theorem dX5_runAll_5 : decode cX5_runAll 5 = .ok (.aload_n 0, 1) := by decide +kernel
theorem dX5_runAll_6 : decode cX5_runAll 6 = .ok (.iconst 0, 1) := by decide +kernel
theorem dX5_runAll_7 : decode cX5_runAll 7 = .ok (.putfield 22, 3) := by decide +kernel
theorem dX5_runAll_10 : decode cX5_runAll 10 = .ok (.aload_n 0, 1) := by decide +kernel
theorem dX5_runAll_11 : decode cX5_runAll 11 = .ok (.iconst 0, 1) := by decide +kernel
theorem dX5_runAll_12 : decode cX5_runAll 12 = .ok (.putfield 25, 3) := by decide +kernel
theorem dX5_runAll_15 : decode cX5_runAll 15 = .ok (.aload_n 0, 1) := by decide +kernel
theorem dX5_runAll_16 : decode cX5_runAll 16 = .ok (.aload_n 1, 1) := by decide +kernel
theorem dX5_runAll_17 : decode cX5_runAll 17 = .ok (.iconst 0, 1) := by decide +kernel
theorem dX5_runAll_18 : decode cX5_runAll 18 = .ok (.aload_n 0, 1) := by decide +kernel
theorem dX5_runAll_19 : decode cX5_runAll 19 = .ok (.getfield 12, 3) := by decide +kernel
theorem dX5_runAll_22 : decode cX5_runAll 22 = .ok (.getfield 29, 3) := by decide +kernel
theorem dX5_runAll_25 : decode cX5_runAll 25 = .ok (.iconst 0, 1) := by decide +kernel
theorem dX5_runAll_26 : decode cX5_runAll 26 = .ok (.invokevirtual 32, 3) := by decide +kernel
theorem dX5_runAll_29 : decode cX5_runAll 29 = .ok (.return_, 1) := by decide +kernel
theorem ci_X5_runAll : Cond.instanceMethod yX5_runAll ∈ TW := TW_of 645 (by decide +kernel) (by decide +kernel)
theorem cs_X5_runAll : Cond.selects yX5_runAll.cls yX5_runAll yX5_runAll ∈ TW := TW_of 646 (by decide +kernel) (by decide +kernel)
theorem cw_X5_47 : CWd RX5 47 yX1_cutPhrase cX1_cutPhrase 6 (some .boolean) 3 := ⟨TW_of 656 (by decide +kernel) (by decide +kernel), TW_of 659 (by decide +kernel) (by decide +kernel), TW_of 105 (by decide +kernel) (by decide +kernel), by decide +kernel⟩
theorem cw_X5_53 : CWd RX5 53 yX1_keepPhraseAgain cX1_keepPhraseAgain 4 (some .boolean) 2 := ⟨TW_of 697 (by decide +kernel) (by decide +kernel), TW_of 700 (by decide +kernel) (by decide +kernel), TW_of 105 (by decide +kernel) (by decide +kernel), by decide +kernel⟩
theorem cw_X5_57 : CWd RX5 57 yX1_carryPhrase cX1_carryPhrase 9 (some .boolean) 3 := ⟨TW_of 721 (by decide +kernel) (by decide +kernel), TW_of 724 (by decide +kernel) (by decide +kernel), TW_of 105 (by decide +kernel) (by decide +kernel), by decide +kernel⟩
theorem cw_X5_60 : CWd RX5 60 yX5_runIf cX5_runIf 5 none 3 := ⟨TW_of 736 (by decide +kernel) (by decide +kernel), TW_of 739 (by decide +kernel) (by decide +kernel), TW_of 109 (by decide +kernel) (by decide +kernel), by decide +kernel⟩
theorem cw_X5_63 : CWd RX5 63 yX5_runRepeat cX5_runRepeat 5 none 3 := ⟨TW_of 741 (by decide +kernel) (by decide +kernel), TW_of 744 (by decide +kernel) (by decide +kernel), TW_of 109 (by decide +kernel) (by decide +kernel), by decide +kernel⟩
theorem cw_X5_36 : CWd RX5 36 yX5_runCommand cX5_runCommand 6 none 3 := ⟨TW_of 652 (by decide +kernel) (by decide +kernel), TW_of 655 (by decide +kernel) (by decide +kernel), TW_of 109 (by decide +kernel) (by decide +kernel), by decide +kernel⟩
theorem cw_X5_32 : CWd RX5 32 yX5_runCommands cX5_runCommands 7 none 4 := ⟨TW_of 648 (by decide +kernel) (by decide +kernel), TW_of 651 (by decide +kernel) (by decide +kernel), TW_of 109 (by decide +kernel) (by decide +kernel), by decide +kernel⟩
theorem cw_X5_69 : CWd RX5 69 yX1_findPhrase cX1_findPhrase 6 (some .int) 2 := ⟨TW_of 740 (by decide +kernel) (by decide +kernel), TW_of 663 (by decide +kernel) (by decide +kernel), TW_of 105 (by decide +kernel) (by decide +kernel), by decide +kernel⟩
set_option maxRecDepth 20000 in
set_option maxHeartbeats 1000000 in
theorem c_X5_exchangeScript {l : Launch} {Z : ZT} {g : Hp} {h : Hp} {p1 : Nat} (hk_p1 : knd p1 = 6) {out : Nat × Hp} (hf : f_X5_exchangeScript h p1 = some out) : Met l yX5_exchangeScript (wY yX5_exchangeScript cX5_exchangeScript 3 (some (.object "TranscriptCutter$Script"))) (rmD 0) (va_Pc [.ref (Z.1 15), .ref (Z.1 p1)] (Wd Z h g)) (va_Qr (fun (_ : Unit) => True) (fun _ a t => a = Z.1 out.1 ∧ Wd Z out.2 g t) (FR Z)) 0 0 (FR Z) := by
  refine metX RX5 rfl (by decide +kernel) (Nat.le_of_ble_eq_true rfl) ?_
  intro p e s m args below meth c C hW ls hl
  have hl : lv_has ls 3 [(0, .ref (Z.1 15)), (1, .ref (Z.1 p1))] := hl
  unfold f_X5_exchangeScript at hf
  refine lv_aload_n C.1 C.2.1 dX5_exchangeScript_0 rfl (lv_at hl 0 rfl) ?_
  refine xg_X5_12 C hW (k_15) hf dX5_exchangeScript_1 (fun q1 hk_q1 hf => ?_)
  refine lv_astore_n (lv' := [(2, .ref (Z.1 q1)), (0, .ref (Z.1 15)), (1, .ref (Z.1 p1))]) C.1 C.2.1 dX5_exchangeScript_4 rfl hl (by decide) rfl (fun ls hl => ?_)
  refine lv_aload_n C.1 C.2.1 dX5_exchangeScript_5 rfl (lv_at hl 1 rfl) ?_
  refine lv_aload_n C.1 C.2.1 dX5_exchangeScript_6 rfl (lv_at hl 2 rfl) ?_
  refine xp_X5_12 C hW (k_15) hk_p1 hf dX5_exchangeScript_7 (fun h2 H locs hf hW => ?_)
  refine lv_aload_n C.1 C.2.1 dX5_exchangeScript_10 rfl (lv_at hl 0 rfl) ?_
  obtain rfl := Option.some.inj hf
  exact x_aret C hW rfl dX5_exchangeScript_11
set_option maxRecDepth 20000 in
set_option maxHeartbeats 1000000 in
theorem j_X5_runCommand_160 {l : Launch} {Z : ZT} {g : Hp} {n0 : Nat} {cf_X5_runCommand : Hp → Int32 → Int32 → Option (Hp)} {cf_X5_runCommands : Hp → Int32 → Int32 → Int32 → Option (Hp)} {cf_X5_runIf : Hp → Int32 → Int32 → Option (Hp)} {cf_X5_runRepeat : Hp → Int32 → Int32 → Option (Hp)} {p2 : Int32} {p3 : Int32} {h : Hp} {x5 : Int32} {p : Program} {e : Env} {s : State} {m : MethodId} {args : Array Value} {below : List Frame} {meth : Method} {c : Code} (C : CX p s m args meth c cX5_runCommand RX5 6 none Z) {out : Hp} (hcf_X5_runCommand : ∀ {h g : Hp} {p2 : Int32} {p3 : Int32} {out : Hp}, cf_X5_runCommand h p2 p3 = some out → Met l yX5_runCommand (wY yX5_runCommand cX5_runCommand 6 none) (rmD (4 + n0)) (va_Pc [.ref (Z.1 15), .ref (Z.1 3), .int p2, .int p3] (Wd Z h g)) (va_Qv (fun (_ : Unit) => True) (fun _ => Wd Z out g) (FR Z)) 0 0 (FR Z)) (hcf_X5_runCommands : ∀ {h g : Hp} {p2 : Int32} {p3 : Int32} {p4 : Int32} {out : Hp}, cf_X5_runCommands h p2 p3 p4 = some out → Met l yX5_runCommands (wY yX5_runCommands cX5_runCommands 7 none) (rmD (4 + n0)) (va_Pc [.ref (Z.1 15), .ref (Z.1 3), .int p2, .int p3, .int p4] (Wd Z h g)) (va_Qv (fun (_ : Unit) => True) (fun _ => Wd Z out g) (FR Z)) 0 0 (FR Z)) (hcf_X5_runIf : ∀ {h g : Hp} {p2 : Int32} {p3 : Int32} {out : Hp}, cf_X5_runIf h p2 p3 = some out → Met l yX5_runIf (wY yX5_runIf cX5_runIf 5 none) (rmD (4 + n0)) (va_Pc [.ref (Z.1 15), .ref (Z.1 3), .int p2, .int p3] (Wd Z h g)) (va_Qv (fun (_ : Unit) => True) (fun _ => Wd Z out g) (FR Z)) 0 0 (FR Z)) (hcf_X5_runRepeat : ∀ {h g : Hp} {p2 : Int32} {p3 : Int32} {out : Hp}, cf_X5_runRepeat h p2 p3 = some out → Met l yX5_runRepeat (wY yX5_runRepeat cX5_runRepeat 5 none) (rmD (4 + n0)) (va_Pc [.ref (Z.1 15), .ref (Z.1 3), .int p2, .int p3] (Wd Z h g)) (va_Qv (fun (_ : Unit) => True) (fun _ => Wd Z out g) (FR Z)) 0 0 (FR Z)) {ls : Array Slot} {H : Heap} {locs : List Loc} (hW : XW Z h g s.heap H locs) (hl : lv_has ls 6 [(0, .ref (Z.1 15)), (1, .ref (Z.1 3)), (2, .int p2), (3, .int p3), (5, .int x5)]) (hf : J_X5_runCommand_160 cf_X5_runCommand cf_X5_runCommands cf_X5_runIf cf_X5_runRepeat p2 p3 h x5 = some out) : W p l e (rmD (4 + n0 + 1)) s m args below meth c H locs 0 0 (MQ below (va_Qv (fun (_ : Unit) => True) (fun _ => Wd Z out g) (FR Z)) args s 0 0 (FR Z)) (F0 m 160 ls []) := by
  refine lv_iload C.1 C.2.1 dX5_runCommand_160 (lv_at hl 4 rfl) ?_
  refine x_ifne (tgt := 175) C hf dX5_runCommand_162 (by decide) (fun hf => ?_) (fun hf => ?_)
  · obtain rfl := Option.some.inj hf
    exact x_vret C hW dX5_runCommand_175 trivial
  · refine lv_aload_n C.1 C.2.1 dX5_runCommand_165 rfl (lv_at hl 0 rfl) ?_
    refine lv_dup C.1 C.2.1 dX5_runCommand_166 rfl ?_
    refine xg_X5_22 C hW (k_15) dX5_runCommand_167 ?_
    refine lv_iconst (v := 1) C.1 C.2.1 dX5_runCommand_170 (by decide) ?_
    refine lv_iadd C.1 C.2.1 dX5_runCommand_171 ?_
    refine xp_X5_22 C hW (k_15) hf dX5_runCommand_172 (fun h1 H locs hf hW => ?_)
    obtain rfl := Option.some.inj hf
    exact x_vret C hW dX5_runCommand_175 trivial
set_option maxRecDepth 20000 in
set_option maxHeartbeats 1000000 in
theorem b_X5_runCommand {l : Launch} {Z : ZT} {g : Hp} {n0 : Nat} {cf_X5_runCommand : Hp → Int32 → Int32 → Option (Hp)} {cf_X5_runCommands : Hp → Int32 → Int32 → Int32 → Option (Hp)} {cf_X5_runIf : Hp → Int32 → Int32 → Option (Hp)} {cf_X5_runRepeat : Hp → Int32 → Int32 → Option (Hp)} {h : Hp} {p2 : Int32} {p3 : Int32} (hcf_X5_runCommand : ∀ {h g : Hp} {p2 : Int32} {p3 : Int32} {out : Hp}, cf_X5_runCommand h p2 p3 = some out → Met l yX5_runCommand (wY yX5_runCommand cX5_runCommand 6 none) (rmD (4 + n0)) (va_Pc [.ref (Z.1 15), .ref (Z.1 3), .int p2, .int p3] (Wd Z h g)) (va_Qv (fun (_ : Unit) => True) (fun _ => Wd Z out g) (FR Z)) 0 0 (FR Z)) (hcf_X5_runCommands : ∀ {h g : Hp} {p2 : Int32} {p3 : Int32} {p4 : Int32} {out : Hp}, cf_X5_runCommands h p2 p3 p4 = some out → Met l yX5_runCommands (wY yX5_runCommands cX5_runCommands 7 none) (rmD (4 + n0)) (va_Pc [.ref (Z.1 15), .ref (Z.1 3), .int p2, .int p3, .int p4] (Wd Z h g)) (va_Qv (fun (_ : Unit) => True) (fun _ => Wd Z out g) (FR Z)) 0 0 (FR Z)) (hcf_X5_runIf : ∀ {h g : Hp} {p2 : Int32} {p3 : Int32} {out : Hp}, cf_X5_runIf h p2 p3 = some out → Met l yX5_runIf (wY yX5_runIf cX5_runIf 5 none) (rmD (4 + n0)) (va_Pc [.ref (Z.1 15), .ref (Z.1 3), .int p2, .int p3] (Wd Z h g)) (va_Qv (fun (_ : Unit) => True) (fun _ => Wd Z out g) (FR Z)) 0 0 (FR Z)) (hcf_X5_runRepeat : ∀ {h g : Hp} {p2 : Int32} {p3 : Int32} {out : Hp}, cf_X5_runRepeat h p2 p3 = some out → Met l yX5_runRepeat (wY yX5_runRepeat cX5_runRepeat 5 none) (rmD (4 + n0)) (va_Pc [.ref (Z.1 15), .ref (Z.1 3), .int p2, .int p3] (Wd Z h g)) (va_Qv (fun (_ : Unit) => True) (fun _ => Wd Z out g) (FR Z)) 0 0 (FR Z)) {out : Hp} (hf : B_X5_runCommand cf_X5_runCommand cf_X5_runCommands cf_X5_runIf cf_X5_runRepeat h p2 p3 = some out) : Met l yX5_runCommand (wY yX5_runCommand cX5_runCommand 6 none) (rmD (4 + n0 + 1)) (va_Pc [.ref (Z.1 15), .ref (Z.1 3), .int p2, .int p3] (Wd Z h g)) (va_Qv (fun (_ : Unit) => True) (fun _ => Wd Z out g) (FR Z)) 0 0 (FR Z) := by
  refine metX RX5 rfl (by decide +kernel) (Nat.le_of_ble_eq_true rfl) ?_
  intro p e s m args below meth c C hW ls hl
  have hl : lv_has ls 6 [(0, .ref (Z.1 15)), (1, .ref (Z.1 3)), (2, .int p2), (3, .int p3)] := hl
  unfold B_X5_runCommand at hf
  refine lv_aload_n C.1 C.2.1 dX5_runCommand_0 rfl (lv_at hl 0 rfl) ?_
  refine xg_X5_18 C hW (k_15) dX5_runCommand_1 ?_
  refine lv_sipush (v := 200) C.1 C.2.1 dX5_runCommand_4 (by decide) ?_
  refine x_cmplt (tgt := 16) C hf dX5_runCommand_7 (by decide) (fun hf => ?_) (fun hf => ?_)
  · refine lv_aload_n C.1 C.2.1 dX5_runCommand_16 rfl (lv_at hl 0 rfl) ?_
    refine lv_dup C.1 C.2.1 dX5_runCommand_17 rfl ?_
    refine xg_X5_18 C hW (k_15) dX5_runCommand_18 ?_
    refine lv_iconst (v := 1) C.1 C.2.1 dX5_runCommand_21 (by decide) ?_
    refine lv_iadd C.1 C.2.1 dX5_runCommand_22 ?_
    refine xp_X5_18 C hW (k_15) hf dX5_runCommand_23 (fun h2 H locs hf hW => ?_)
    refine lv_iconst (v := 2) C.1 C.2.1 dX5_runCommand_26 (by decide) ?_
    refine lv_iload_n C.1 C.2.1 dX5_runCommand_27 rfl (lv_at hl 2 rfl) ?_
    refine lv_imul C.1 C.2.1 dX5_runCommand_28 ?_
    refine x_ist C hf dX5_runCommand_29 hl (by decide) (fun v3 => [(4, .int v3), (0, .ref (Z.1 15)), (1, .ref (Z.1 3)), (2, .int p2), (3, .int p3)]) (fun _ => rfl) (fun v3 ls hf hl => ?_)
    refine lv_iconst (v := 1) C.1 C.2.1 dX5_runCommand_31 (by decide) ?_
    refine lv_istore (lv' := [(5, .int (1 : Int32)), (4, .int v3), (0, .ref (Z.1 15)), (1, .ref (Z.1 3)), (2, .int p2), (3, .int p3)]) C.1 C.2.1 dX5_runCommand_32 hl (by decide) rfl (fun ls hl => ?_)
    refine lv_aload_n C.1 C.2.1 dX5_runCommand_34 rfl (lv_at hl 2 rfl) ?_
    refine xg_X5_12 C hW (k_15) hf dX5_runCommand_35 (fun q4 hk_q4 hf => ?_)
    refine xg_X5_44 C hW hk_q4 dX5_runCommand_38 ?_
    refine lv_iload_n C.1 C.2.1 dX5_runCommand_41 rfl (lv_at hl 4 rfl) ?_
    refine x_ialdC C hW (o_X6_1 hk_q4) hf dX5_runCommand_42 (fun hf => ?_)
    rcases Classical.em (h2 (q4 + 1) (ix p2) = 0) with q0 | q0
    · rw [if_pos q0] at hf
      refine x_swin (tgt := 76) C q0 dX5_runCommand_43 (by decide) (by decide) rfl (by decide) ?_
      refine lv_aload_n C.1 C.2.1 dX5_runCommand_76 rfl (lv_at hl 3 rfl) ?_
      refine lv_aload_n C.1 C.2.1 dX5_runCommand_77 rfl (lv_at hl 2 rfl) ?_
      refine xg_X5_12 C hW (k_15) hf dX5_runCommand_78 (fun q5 hk_q5 hf => ?_)
      refine lv_iload C.1 C.2.1 dX5_runCommand_81 (lv_at hl 1 rfl) ?_
      refine lv_iconst (v := 1) C.1 C.2.1 dX5_runCommand_83 (by decide) ?_
      obtain ⟨u6, hcu6, hf⟩ := bnd_t hf
      refine x_calli hW (x_runV C hW hl (wk1 (k_3)) rfl rfl (c_X1_cutPhrase hk_q5 hcu6) (cw_X5_47) ci_X1_cutPhrase cs_X1_cutPhrase (rm_ok (by omega) (by decide)) ⟨Nat.le_refl _, Nat.le_refl _⟩ (As := [.ref (Z.1 q5), .int v3, .int (1 : Int32)]) rfl rfl (Nat.le_of_ble_eq_true rfl) dX5_runCommand_84) (fun H locs hW => ?_)
      refine lv_istore (lv' := [(5, .int u6.1), (4, .int v3), (0, .ref (Z.1 15)), (1, .ref (Z.1 3)), (2, .int p2), (3, .int p3)]) C.1 C.2.1 dX5_runCommand_87 hl (by decide) rfl (fun ls hl => ?_)
      refine lv_goto (tgt := 160) C.1 C.2.1 dX5_runCommand_89 (by decide) ?_
      exact j_X5_runCommand_160 C hcf_X5_runCommand hcf_X5_runCommands hcf_X5_runIf hcf_X5_runRepeat hW (lv_sub hl [2, 3, 4, 5, 0] rfl) hf
    · rw [if_neg q0] at hf
      rcases Classical.em (h2 (q4 + 1) (ix p2) = 1) with q1 | q1
      · rw [if_pos q1] at hf
        refine x_swin (tgt := 92) C q1 dX5_runCommand_43 (by decide) (by decide) rfl (by decide) ?_
        refine lv_aload_n C.1 C.2.1 dX5_runCommand_92 rfl (lv_at hl 3 rfl) ?_
        refine lv_aload_n C.1 C.2.1 dX5_runCommand_93 rfl (lv_at hl 2 rfl) ?_
        refine xg_X5_12 C hW (k_15) hf dX5_runCommand_94 (fun q7 hk_q7 hf => ?_)
        refine lv_iload C.1 C.2.1 dX5_runCommand_97 (lv_at hl 1 rfl) ?_
        refine lv_bipush (v := 40) C.1 C.2.1 dX5_runCommand_99 (by decide) ?_
        obtain ⟨u8, hcu8, hf⟩ := bnd_t hf
        refine x_calli hW (x_runV C hW hl (wk1 (k_3)) rfl rfl (c_X1_cutPhrase hk_q7 hcu8) (cw_X5_47) ci_X1_cutPhrase cs_X1_cutPhrase (rm_ok (by omega) (by decide)) ⟨Nat.le_refl _, Nat.le_refl _⟩ (As := [.ref (Z.1 q7), .int v3, .int (40 : Int32)]) rfl rfl (Nat.le_of_ble_eq_true rfl) dX5_runCommand_101) (fun H locs hW => ?_)
        refine lv_istore (lv' := [(5, .int u8.1), (4, .int v3), (0, .ref (Z.1 15)), (1, .ref (Z.1 3)), (2, .int p2), (3, .int p3)]) C.1 C.2.1 dX5_runCommand_104 hl (by decide) rfl (fun ls hl => ?_)
        refine lv_goto (tgt := 160) C.1 C.2.1 dX5_runCommand_106 (by decide) ?_
        exact j_X5_runCommand_160 C hcf_X5_runCommand hcf_X5_runCommands hcf_X5_runIf hcf_X5_runRepeat hW (lv_sub hl [2, 3, 4, 5, 0] rfl) hf
      · rw [if_neg q1] at hf
        rcases Classical.em (h2 (q4 + 1) (ix p2) = 2) with q2 | q2
        · rw [if_pos q2] at hf
          refine x_swin (tgt := 109) C q2 dX5_runCommand_43 (by decide) (by decide) rfl (by decide) ?_
          refine lv_aload_n C.1 C.2.1 dX5_runCommand_109 rfl (lv_at hl 3 rfl) ?_
          refine lv_aload_n C.1 C.2.1 dX5_runCommand_110 rfl (lv_at hl 2 rfl) ?_
          refine xg_X5_12 C hW (k_15) hf dX5_runCommand_111 (fun q9 hk_q9 hf => ?_)
          refine lv_iload C.1 C.2.1 dX5_runCommand_114 (lv_at hl 1 rfl) ?_
          obtain ⟨u10, hcu10, hf⟩ := bnd_t hf
          refine x_calli hW (x_runV C hW hl (wk1 (k_3)) rfl rfl (c_X1_keepPhraseAgain hk_q9 hcu10) (cw_X5_53) ci_X1_keepPhraseAgain cs_X1_keepPhraseAgain (rm_ok (by omega) (by decide)) ⟨Nat.le_refl _, Nat.le_refl _⟩ (As := [.ref (Z.1 q9), .int v3]) rfl rfl (Nat.le_of_ble_eq_true rfl) dX5_runCommand_116) (fun H locs hW => ?_)
          refine lv_istore (lv' := [(5, .int u10.1), (4, .int v3), (0, .ref (Z.1 15)), (1, .ref (Z.1 3)), (2, .int p2), (3, .int p3)]) C.1 C.2.1 dX5_runCommand_119 hl (by decide) rfl (fun ls hl => ?_)
          refine lv_goto (tgt := 160) C.1 C.2.1 dX5_runCommand_121 (by decide) ?_
          exact j_X5_runCommand_160 C hcf_X5_runCommand hcf_X5_runCommands hcf_X5_runIf hcf_X5_runRepeat hW (lv_sub hl [2, 3, 4, 5, 0] rfl) hf
        · rw [if_neg q2] at hf
          rcases Classical.em (h2 (q4 + 1) (ix p2) = 3) with q3 | q3
          · rw [if_pos q3] at hf
            refine x_swin (tgt := 124) C q3 dX5_runCommand_43 (by decide) (by decide) rfl (by decide) ?_
            refine lv_aload_n C.1 C.2.1 dX5_runCommand_124 rfl (lv_at hl 3 rfl) ?_
            refine lv_aload_n C.1 C.2.1 dX5_runCommand_125 rfl (lv_at hl 2 rfl) ?_
            refine xg_X5_12 C hW (k_15) hf dX5_runCommand_126 (fun q11 hk_q11 hf => ?_)
            refine lv_iload C.1 C.2.1 dX5_runCommand_129 (lv_at hl 1 rfl) ?_
            refine lv_iload C.1 C.2.1 dX5_runCommand_131 (lv_at hl 1 rfl) ?_
            refine lv_iconst (v := 1) C.1 C.2.1 dX5_runCommand_133 (by decide) ?_
            refine lv_iadd C.1 C.2.1 dX5_runCommand_134 ?_
            obtain ⟨u12, hcu12, hf⟩ := bnd_t hf
            refine x_calli hW (x_runV C hW hl (wk1 (k_3)) rfl rfl (c_X1_carryPhrase hk_q11 hcu12) (cw_X5_57) ci_X1_carryPhrase cs_X1_carryPhrase (rm_ok (by omega) (by decide)) ⟨Nat.le_refl _, Nat.le_refl _⟩ (As := [.ref (Z.1 q11), .int v3, .int (v3 + (1 : Int32))]) rfl rfl (Nat.le_of_ble_eq_true rfl) dX5_runCommand_135) (fun H locs hW => ?_)
            refine lv_istore (lv' := [(5, .int u12.1), (4, .int v3), (0, .ref (Z.1 15)), (1, .ref (Z.1 3)), (2, .int p2), (3, .int p3)]) C.1 C.2.1 dX5_runCommand_138 hl (by decide) rfl (fun ls hl => ?_)
            refine lv_goto (tgt := 160) C.1 C.2.1 dX5_runCommand_140 (by decide) ?_
            exact j_X5_runCommand_160 C hcf_X5_runCommand hcf_X5_runCommands hcf_X5_runIf hcf_X5_runRepeat hW (lv_sub hl [2, 3, 4, 5, 0] rfl) hf
          · rw [if_neg q3] at hf
            rcases Classical.em (h2 (q4 + 1) (ix p2) = 4) with q4 | q4
            · rw [if_pos q4] at hf
              refine x_swin (tgt := 143) C q4 dX5_runCommand_43 (by decide) (by decide) rfl (by decide) ?_
              refine lv_aload_n C.1 C.2.1 dX5_runCommand_143 rfl (lv_at hl 2 rfl) ?_
              refine lv_aload_n C.1 C.2.1 dX5_runCommand_144 rfl (lv_at hl 3 rfl) ?_
              refine lv_iload_n C.1 C.2.1 dX5_runCommand_145 rfl (lv_at hl 4 rfl) ?_
              refine lv_iload_n C.1 C.2.1 dX5_runCommand_146 rfl (lv_at hl 5 rfl) ?_
              obtain ⟨u13, hcu13, hf⟩ := bnd_t hf
              refine x_callv hW (x_runV C hW hl (wk5 (k_15)) rfl rfl (hcf_X5_runIf hcu13) (cw_X5_60) ci_X5_runIf cs_X5_runIf (rm_ok (by omega) (by decide)) ⟨Nat.le_refl _, Nat.le_refl _⟩ (As := [.ref (Z.1 3), .int p2, .int p3]) rfl rfl (Nat.le_of_ble_eq_true rfl) dX5_runCommand_147) (fun H locs hW => ?_)
              refine lv_goto (tgt := 160) C.1 C.2.1 dX5_runCommand_150 (by decide) ?_
              exact j_X5_runCommand_160 C hcf_X5_runCommand hcf_X5_runCommands hcf_X5_runIf hcf_X5_runRepeat hW (lv_sub hl [2, 3, 4, 5, 0] rfl) hf
            · rw [if_neg q4] at hf
              refine lv_tableOut (tgt := 153) C.1 C.2.1 dX5_runCommand_43 (x_nN (n := 4) (fun k hk => by
                rcases (show k = 0 ∨ k = 1 ∨ k = 2 ∨ k = 3 ∨ k = 4 by omega) with rfl | rfl | rfl | rfl | rfl
                · exact q0
                · exact q1
                · exact q2
                · exact q3
                · exact q4
                ) (by decide)) (by decide) ?_
              refine lv_aload_n C.1 C.2.1 dX5_runCommand_153 rfl (lv_at hl 2 rfl) ?_
              refine lv_aload_n C.1 C.2.1 dX5_runCommand_154 rfl (lv_at hl 3 rfl) ?_
              refine lv_iload_n C.1 C.2.1 dX5_runCommand_155 rfl (lv_at hl 4 rfl) ?_
              refine lv_iload_n C.1 C.2.1 dX5_runCommand_156 rfl (lv_at hl 5 rfl) ?_
              obtain ⟨u14, hcu14, hf⟩ := bnd_t hf
              refine x_callv hW (x_runV C hW hl (wk5 (k_15)) rfl rfl (hcf_X5_runRepeat hcu14) (cw_X5_63) ci_X5_runRepeat cs_X5_runRepeat (rm_ok (by omega) (by decide)) ⟨Nat.le_refl _, Nat.le_refl _⟩ (As := [.ref (Z.1 3), .int p2, .int p3]) rfl rfl (Nat.le_of_ble_eq_true rfl) dX5_runCommand_157) (fun H locs hW => ?_)
              exact j_X5_runCommand_160 C hcf_X5_runCommand hcf_X5_runCommands hcf_X5_runIf hcf_X5_runRepeat hW (lv_sub hl [2, 3, 4, 5, 0] rfl) hf
  · refine lv_aload_n C.1 C.2.1 dX5_runCommand_10 rfl (lv_at hl 0 rfl) ?_
    refine lv_iconst (v := 1) C.1 C.2.1 dX5_runCommand_11 (by decide) ?_
    refine xp_X5_25 C hW (k_15) (by decide) hf dX5_runCommand_12 (fun h15 H locs hf hW => ?_)
    obtain rfl := Option.some.inj hf
    exact x_vret C hW dX5_runCommand_15 trivial
set_option maxRecDepth 20000 in
set_option maxHeartbeats 1000000 in
theorem l_X5_runCommands_13 {l : Launch} {Z : ZT} {g : Hp} {n0 : Nat} {cf_X5_runCommand : Hp → Int32 → Int32 → Option (Hp)} {cf_X5_runCommands : Hp → Int32 → Int32 → Int32 → Option (Hp)} {cf_X5_runIf : Hp → Int32 → Int32 → Option (Hp)} {cf_X5_runRepeat : Hp → Int32 → Int32 → Option (Hp)} {p2 : Int32} {p3 : Int32} {p4 : Int32} {p : Program} {e : Env} {s : State} {m : MethodId} {args : Array Value} {below : List Frame} {meth : Method} {c : Code} (C : CX p s m args meth c cX5_runCommands RX5 7 none Z) {out : Hp} (hcf_X5_runCommand : ∀ {h g : Hp} {p2 : Int32} {p3 : Int32} {out : Hp}, cf_X5_runCommand h p2 p3 = some out → Met l yX5_runCommand (wY yX5_runCommand cX5_runCommand 6 none) (rmD (4 + n0)) (va_Pc [.ref (Z.1 15), .ref (Z.1 3), .int p2, .int p3] (Wd Z h g)) (va_Qv (fun (_ : Unit) => True) (fun _ => Wd Z out g) (FR Z)) 0 0 (FR Z)) (hcf_X5_runCommands : ∀ {h g : Hp} {p2 : Int32} {p3 : Int32} {p4 : Int32} {out : Hp}, cf_X5_runCommands h p2 p3 p4 = some out → Met l yX5_runCommands (wY yX5_runCommands cX5_runCommands 7 none) (rmD (4 + n0)) (va_Pc [.ref (Z.1 15), .ref (Z.1 3), .int p2, .int p3, .int p4] (Wd Z h g)) (va_Qv (fun (_ : Unit) => True) (fun _ => Wd Z out g) (FR Z)) 0 0 (FR Z)) (hcf_X5_runIf : ∀ {h g : Hp} {p2 : Int32} {p3 : Int32} {out : Hp}, cf_X5_runIf h p2 p3 = some out → Met l yX5_runIf (wY yX5_runIf cX5_runIf 5 none) (rmD (4 + n0)) (va_Pc [.ref (Z.1 15), .ref (Z.1 3), .int p2, .int p3] (Wd Z h g)) (va_Qv (fun (_ : Unit) => True) (fun _ => Wd Z out g) (FR Z)) 0 0 (FR Z)) (hcf_X5_runRepeat : ∀ {h g : Hp} {p2 : Int32} {p3 : Int32} {out : Hp}, cf_X5_runRepeat h p2 p3 = some out → Met l yX5_runRepeat (wY yX5_runRepeat cX5_runRepeat 5 none) (rmD (4 + n0)) (va_Pc [.ref (Z.1 15), .ref (Z.1 3), .int p2, .int p3] (Wd Z h g)) (va_Qv (fun (_ : Unit) => True) (fun _ => Wd Z out g) (FR Z)) 0 0 (FR Z)) : ∀ (n : Nat) (x5 : Int32) (x6 : Int32) (h : Hp) (ls : Array Slot) (H : Heap) (locs : List Loc), XW Z h g s.heap H locs → lv_has ls 7 [(0, .ref (Z.1 15)), (1, .ref (Z.1 3)), (2, .int p2), (3, .int p3), (4, .int p4), (5, .int x5), (6, .int x6)] → Lp (F_X5_runCommands_13 cf_X5_runCommand cf_X5_runCommands cf_X5_runIf cf_X5_runRepeat p2 p3 p4) n (x5, x6, h) = some out → W p l e (rmD (4 + n0 + 1)) s m args below meth c H locs 0 0 (MQ below (va_Qv (fun (_ : Unit) => True) (fun _ => Wd Z out g) (FR Z)) args s 0 0 (FR Z)) (F0 m 13 ls []) := by
  intro n
  induction n with
  | zero => intro x5 x6 h ls H locs hW hl hf; cases hf
  | succ n ih =>
    intro x5 x6 h ls H locs hW hl hf
    rw [Lp_s] at hf
    refine lv_iload C.1 C.2.1 dX5_runCommands_13 (lv_at hl 6 rfl) ?_
    refine lv_bipush (v := 30) C.1 C.2.1 dX5_runCommands_15 (by decide) ?_
    refine x_cmpge (tgt := 60) C hf dX5_runCommands_17 (by decide) (fun hf => ?_) (fun hf => ?_)
    · obtain rfl := Option.some.inj hf
      exact x_vret C hW dX5_runCommands_60 trivial
    · refine lv_iload C.1 C.2.1 dX5_runCommands_20 (lv_at hl 5 rfl) ?_
      refine lv_iload_n C.1 C.2.1 dX5_runCommands_22 rfl (lv_at hl 3 rfl) ?_
      refine x_cmpge (tgt := 60) C hf dX5_runCommands_23 (by decide) (fun hf => ?_) (fun hf => ?_)
      · obtain rfl := Option.some.inj hf
        exact x_vret C hW dX5_runCommands_60 trivial
      · refine lv_aload_n C.1 C.2.1 dX5_runCommands_26 rfl (lv_at hl 0 rfl) ?_
        refine xg_X5_25 C hW (k_15) dX5_runCommands_27 ?_
        refine x_ifne (tgt := 60) C hf dX5_runCommands_30 (by decide) (fun hf => ?_) (fun hf => ?_)
        · obtain rfl := Option.some.inj hf
          exact x_vret C hW dX5_runCommands_60 trivial
        · refine lv_aload_n C.1 C.2.1 dX5_runCommands_33 rfl (lv_at hl 0 rfl) ?_
          refine lv_aload_n C.1 C.2.1 dX5_runCommands_34 rfl (lv_at hl 1 rfl) ?_
          refine lv_iload C.1 C.2.1 dX5_runCommands_35 (lv_at hl 5 rfl) ?_
          refine lv_iload C.1 C.2.1 dX5_runCommands_37 (lv_at hl 4 rfl) ?_
          obtain ⟨u1, hcu1, hf⟩ := bnd_t hf
          refine x_callv hW (x_runV C hW hl (wk5 (k_15)) rfl rfl (hcf_X5_runCommand hcu1) (cw_X5_36) ci_X5_runCommand cs_X5_runCommand (rm_ok (by omega) (by decide)) ⟨Nat.le_refl _, Nat.le_refl _⟩ (As := [.ref (Z.1 3), .int x5, .int p4]) rfl rfl (Nat.le_of_ble_eq_true rfl) dX5_runCommands_39) (fun H locs hW => ?_)
          refine lv_aload_n C.1 C.2.1 dX5_runCommands_42 rfl (lv_at hl 0 rfl) ?_
          refine xg_X5_12 C hW (k_15) hf dX5_runCommands_43 (fun q2 hk_q2 hf => ?_)
          refine xg_X5_40 C hW hk_q2 dX5_runCommands_46 ?_
          refine lv_iload C.1 C.2.1 dX5_runCommands_49 (lv_at hl 5 rfl) ?_
          refine x_ialdC C hW (o_X6_4 hk_q2) hf dX5_runCommands_51 (fun hf => ?_)
          refine x_ist C hf dX5_runCommands_52 hl (by decide) (fun v3 => [(5, .int v3), (0, .ref (Z.1 15)), (1, .ref (Z.1 3)), (2, .int p2), (3, .int p3), (4, .int p4), (6, .int x6)]) (fun _ => rfl) (fun v3 ls hf hl => ?_)
          refine x_iinc (w := 1) C hf dX5_runCommands_54 hl (k := 6) rfl (by decide) (by decide) (fun v4 => [(6, .int v4), (5, .int v3), (0, .ref (Z.1 15)), (1, .ref (Z.1 3)), (2, .int p2), (3, .int p3), (4, .int p4)]) (fun _ => rfl) (fun v4 ls hf hl => ?_)
          refine lv_goto (tgt := 13) C.1 C.2.1 dX5_runCommands_57 (by decide) ?_
          exact ih v3 v4 u1 ls _ _ hW (lv_sub hl [2, 3, 4, 5, 6, 1, 0] rfl) hf
set_option maxRecDepth 20000 in
set_option maxHeartbeats 1000000 in
theorem b_X5_runCommands {l : Launch} {Z : ZT} {g : Hp} {n0 : Nat} {cf_X5_runCommand : Hp → Int32 → Int32 → Option (Hp)} {cf_X5_runCommands : Hp → Int32 → Int32 → Int32 → Option (Hp)} {cf_X5_runIf : Hp → Int32 → Int32 → Option (Hp)} {cf_X5_runRepeat : Hp → Int32 → Int32 → Option (Hp)} {h : Hp} {p2 : Int32} {p3 : Int32} {p4 : Int32} (hcf_X5_runCommand : ∀ {h g : Hp} {p2 : Int32} {p3 : Int32} {out : Hp}, cf_X5_runCommand h p2 p3 = some out → Met l yX5_runCommand (wY yX5_runCommand cX5_runCommand 6 none) (rmD (4 + n0)) (va_Pc [.ref (Z.1 15), .ref (Z.1 3), .int p2, .int p3] (Wd Z h g)) (va_Qv (fun (_ : Unit) => True) (fun _ => Wd Z out g) (FR Z)) 0 0 (FR Z)) (hcf_X5_runCommands : ∀ {h g : Hp} {p2 : Int32} {p3 : Int32} {p4 : Int32} {out : Hp}, cf_X5_runCommands h p2 p3 p4 = some out → Met l yX5_runCommands (wY yX5_runCommands cX5_runCommands 7 none) (rmD (4 + n0)) (va_Pc [.ref (Z.1 15), .ref (Z.1 3), .int p2, .int p3, .int p4] (Wd Z h g)) (va_Qv (fun (_ : Unit) => True) (fun _ => Wd Z out g) (FR Z)) 0 0 (FR Z)) (hcf_X5_runIf : ∀ {h g : Hp} {p2 : Int32} {p3 : Int32} {out : Hp}, cf_X5_runIf h p2 p3 = some out → Met l yX5_runIf (wY yX5_runIf cX5_runIf 5 none) (rmD (4 + n0)) (va_Pc [.ref (Z.1 15), .ref (Z.1 3), .int p2, .int p3] (Wd Z h g)) (va_Qv (fun (_ : Unit) => True) (fun _ => Wd Z out g) (FR Z)) 0 0 (FR Z)) (hcf_X5_runRepeat : ∀ {h g : Hp} {p2 : Int32} {p3 : Int32} {out : Hp}, cf_X5_runRepeat h p2 p3 = some out → Met l yX5_runRepeat (wY yX5_runRepeat cX5_runRepeat 5 none) (rmD (4 + n0)) (va_Pc [.ref (Z.1 15), .ref (Z.1 3), .int p2, .int p3] (Wd Z h g)) (va_Qv (fun (_ : Unit) => True) (fun _ => Wd Z out g) (FR Z)) 0 0 (FR Z)) {out : Hp} (hf : B_X5_runCommands cf_X5_runCommand cf_X5_runCommands cf_X5_runIf cf_X5_runRepeat h p2 p3 p4 = some out) : Met l yX5_runCommands (wY yX5_runCommands cX5_runCommands 7 none) (rmD (4 + n0 + 1)) (va_Pc [.ref (Z.1 15), .ref (Z.1 3), .int p2, .int p3, .int p4] (Wd Z h g)) (va_Qv (fun (_ : Unit) => True) (fun _ => Wd Z out g) (FR Z)) 0 0 (FR Z) := by
  refine metX RX5 rfl (by decide +kernel) (Nat.le_of_ble_eq_true rfl) ?_
  intro p e s m args below meth c C hW ls hl
  have hl : lv_has ls 7 [(0, .ref (Z.1 15)), (1, .ref (Z.1 3)), (2, .int p2), (3, .int p3), (4, .int p4)] := hl
  unfold B_X5_runCommands at hf
  refine lv_iload C.1 C.2.1 dX5_runCommands_0 (lv_at hl 4 rfl) ?_
  refine lv_iconst (v := 5) C.1 C.2.1 dX5_runCommands_2 (by decide) ?_
  refine x_cmple (tgt := 7) C hf dX5_runCommands_3 (by decide) (fun hf => ?_) (fun hf => ?_)
  · refine lv_iload_n C.1 C.2.1 dX5_runCommands_7 rfl (lv_at hl 2 rfl) ?_
    refine lv_istore (lv' := [(5, .int p2), (0, .ref (Z.1 15)), (1, .ref (Z.1 3)), (2, .int p2), (3, .int p3), (4, .int p4)]) C.1 C.2.1 dX5_runCommands_8 hl (by decide) rfl (fun ls hl => ?_)
    refine lv_iconst (v := 0) C.1 C.2.1 dX5_runCommands_10 (by decide) ?_
    refine lv_istore (lv' := [(6, .int (0 : Int32)), (5, .int p2), (0, .ref (Z.1 15)), (1, .ref (Z.1 3)), (2, .int p2), (3, .int p3), (4, .int p4)]) C.1 C.2.1 dX5_runCommands_11 hl (by decide) rfl (fun ls hl => ?_)
    exact l_X5_runCommands_13 C hcf_X5_runCommand hcf_X5_runCommands hcf_X5_runIf hcf_X5_runRepeat FU p2 (0 : Int32) h ls _ _ hW (lv_sub hl [2, 3, 4, 5, 6, 1, 0] rfl) hf
  · obtain rfl := Option.some.inj hf
    exact x_vret C hW dX5_runCommands_6 trivial
set_option maxRecDepth 20000 in
set_option maxHeartbeats 1000000 in
theorem b_X5_runIf {l : Launch} {Z : ZT} {g : Hp} {n0 : Nat} {cf_X5_runCommand : Hp → Int32 → Int32 → Option (Hp)} {cf_X5_runCommands : Hp → Int32 → Int32 → Int32 → Option (Hp)} {cf_X5_runIf : Hp → Int32 → Int32 → Option (Hp)} {cf_X5_runRepeat : Hp → Int32 → Int32 → Option (Hp)} {h : Hp} {p2 : Int32} {p3 : Int32} (hcf_X5_runCommand : ∀ {h g : Hp} {p2 : Int32} {p3 : Int32} {out : Hp}, cf_X5_runCommand h p2 p3 = some out → Met l yX5_runCommand (wY yX5_runCommand cX5_runCommand 6 none) (rmD (4 + n0)) (va_Pc [.ref (Z.1 15), .ref (Z.1 3), .int p2, .int p3] (Wd Z h g)) (va_Qv (fun (_ : Unit) => True) (fun _ => Wd Z out g) (FR Z)) 0 0 (FR Z)) (hcf_X5_runCommands : ∀ {h g : Hp} {p2 : Int32} {p3 : Int32} {p4 : Int32} {out : Hp}, cf_X5_runCommands h p2 p3 p4 = some out → Met l yX5_runCommands (wY yX5_runCommands cX5_runCommands 7 none) (rmD (4 + n0)) (va_Pc [.ref (Z.1 15), .ref (Z.1 3), .int p2, .int p3, .int p4] (Wd Z h g)) (va_Qv (fun (_ : Unit) => True) (fun _ => Wd Z out g) (FR Z)) 0 0 (FR Z)) (hcf_X5_runIf : ∀ {h g : Hp} {p2 : Int32} {p3 : Int32} {out : Hp}, cf_X5_runIf h p2 p3 = some out → Met l yX5_runIf (wY yX5_runIf cX5_runIf 5 none) (rmD (4 + n0)) (va_Pc [.ref (Z.1 15), .ref (Z.1 3), .int p2, .int p3] (Wd Z h g)) (va_Qv (fun (_ : Unit) => True) (fun _ => Wd Z out g) (FR Z)) 0 0 (FR Z)) (hcf_X5_runRepeat : ∀ {h g : Hp} {p2 : Int32} {p3 : Int32} {out : Hp}, cf_X5_runRepeat h p2 p3 = some out → Met l yX5_runRepeat (wY yX5_runRepeat cX5_runRepeat 5 none) (rmD (4 + n0)) (va_Pc [.ref (Z.1 15), .ref (Z.1 3), .int p2, .int p3] (Wd Z h g)) (va_Qv (fun (_ : Unit) => True) (fun _ => Wd Z out g) (FR Z)) 0 0 (FR Z)) {out : Hp} (hf : B_X5_runIf cf_X5_runCommand cf_X5_runCommands cf_X5_runIf cf_X5_runRepeat h p2 p3 = some out) : Met l yX5_runIf (wY yX5_runIf cX5_runIf 5 none) (rmD (4 + n0 + 1)) (va_Pc [.ref (Z.1 15), .ref (Z.1 3), .int p2, .int p3] (Wd Z h g)) (va_Qv (fun (_ : Unit) => True) (fun _ => Wd Z out g) (FR Z)) 0 0 (FR Z) := by
  refine metX RX5 rfl (by decide +kernel) (Nat.le_of_ble_eq_true rfl) ?_
  intro p e s m args below meth c C hW ls hl
  have hl : lv_has ls 5 [(0, .ref (Z.1 15)), (1, .ref (Z.1 3)), (2, .int p2), (3, .int p3)] := hl
  unfold B_X5_runIf at hf
  refine lv_aload_n C.1 C.2.1 dX5_runIf_0 rfl (lv_at hl 0 rfl) ?_
  refine xg_X5_12 C hW (k_15) hf dX5_runIf_1 (fun q1 hk_q1 hf => ?_)
  refine xg_X5_66 C hW hk_q1 dX5_runIf_4 ?_
  refine lv_iload_n C.1 C.2.1 dX5_runIf_7 rfl (lv_at hl 2 rfl) ?_
  refine x_ialdC C hW (o_X6_3 hk_q1) hf dX5_runIf_8 (fun hf => ?_)
  refine x_ist C hf dX5_runIf_9 hl (by decide) (fun v2 => [(4, .int v2), (0, .ref (Z.1 15)), (1, .ref (Z.1 3)), (2, .int p2), (3, .int p3)]) (fun _ => rfl) (fun v2 ls hf hl => ?_)
  refine lv_aload_n C.1 C.2.1 dX5_runIf_11 rfl (lv_at hl 2 rfl) ?_
  refine lv_aload_n C.1 C.2.1 dX5_runIf_12 rfl (lv_at hl 1 rfl) ?_
  refine xg_X5_12 C hW (k_15) hf dX5_runIf_13 (fun q3 hk_q3 hf => ?_)
  refine lv_iconst (v := 2) C.1 C.2.1 dX5_runIf_16 (by decide) ?_
  refine lv_iload_n C.1 C.2.1 dX5_runIf_17 rfl (lv_at hl 3 rfl) ?_
  refine lv_imul C.1 C.2.1 dX5_runIf_18 ?_
  obtain ⟨u4, hcu4, hf⟩ := bnd_t hf
  refine x_calli hW (x_runV C hW hl (wk1 (k_3)) rfl rfl (c_X1_findPhrase hk_q3 hcu4) (cw_X5_69) ci_X1_findPhrase cs_X1_findPhrase (rm_ok (by omega) (by decide)) ⟨Nat.le_refl _, Nat.le_refl _⟩ (As := [.ref (Z.1 q3), .int ((2 : Int32) * p2)]) rfl rfl (Nat.le_of_ble_eq_true rfl) dX5_runIf_19) (fun H locs hW => ?_)
  refine lv_iconst (v := -1) C.1 C.2.1 dX5_runIf_22 (by decide) ?_
  refine x_cmpeq (tgt := 42) C hf dX5_runIf_23 (by decide) (fun hf => ?_) (fun hf => ?_)
  · refine lv_aload_n C.1 C.2.1 dX5_runIf_42 rfl (lv_at hl 1 rfl) ?_
    refine lv_aload_n C.1 C.2.1 dX5_runIf_43 rfl (lv_at hl 2 rfl) ?_
    refine lv_iload C.1 C.2.1 dX5_runIf_44 (lv_at hl 0 rfl) ?_
    refine lv_aload_n C.1 C.2.1 dX5_runIf_46 rfl (lv_at hl 1 rfl) ?_
    refine xg_X5_12 C hW (k_15) hf dX5_runIf_47 (fun q5 hk_q5 hf => ?_)
    refine xg_X5_40 C hW hk_q5 dX5_runIf_50 ?_
    refine lv_iload_n C.1 C.2.1 dX5_runIf_53 rfl (lv_at hl 3 rfl) ?_
    refine x_ialdC C hW (o_X6_4 hk_q5) hf dX5_runIf_54 (fun hf => ?_)
    refine lv_iload_n C.1 C.2.1 dX5_runIf_55 rfl (lv_at hl 4 rfl) ?_
    refine lv_iconst (v := 1) C.1 C.2.1 dX5_runIf_56 (by decide) ?_
    refine lv_iadd C.1 C.2.1 dX5_runIf_57 ?_
    obtain ⟨u6, hcu6, hf⟩ := bnd_t hf
    refine x_callv hW (x_runV C hW hl (wk5 (k_15)) rfl rfl (hcf_X5_runCommands hcu6) (cw_X5_32) ci_X5_runCommands cs_X5_runCommands (rm_ok (by omega) (by decide)) ⟨Nat.le_refl _, Nat.le_refl _⟩ (As := [.ref (Z.1 3), .int v2, .int (h (q5 + 4) (ix p2)), .int (p3 + (1 : Int32))]) rfl rfl (Nat.le_of_ble_eq_true rfl) dX5_runIf_58) (fun H locs hW => ?_)
    obtain rfl := Option.some.inj hf
    exact x_vret C hW dX5_runIf_61 trivial
  · refine lv_aload_n C.1 C.2.1 dX5_runIf_26 rfl (lv_at hl 1 rfl) ?_
    refine lv_aload_n C.1 C.2.1 dX5_runIf_27 rfl (lv_at hl 2 rfl) ?_
    refine lv_iload_n C.1 C.2.1 dX5_runIf_28 rfl (lv_at hl 3 rfl) ?_
    refine lv_iconst (v := 1) C.1 C.2.1 dX5_runIf_29 (by decide) ?_
    refine lv_iadd C.1 C.2.1 dX5_runIf_30 ?_
    refine lv_iload C.1 C.2.1 dX5_runIf_31 (lv_at hl 0 rfl) ?_
    refine lv_iload_n C.1 C.2.1 dX5_runIf_33 rfl (lv_at hl 4 rfl) ?_
    refine lv_iconst (v := 1) C.1 C.2.1 dX5_runIf_34 (by decide) ?_
    refine lv_iadd C.1 C.2.1 dX5_runIf_35 ?_
    obtain ⟨u7, hcu7, hf⟩ := bnd_t hf
    refine x_callv hW (x_runV C hW hl (wk5 (k_15)) rfl rfl (hcf_X5_runCommands hcu7) (cw_X5_32) ci_X5_runCommands cs_X5_runCommands (rm_ok (by omega) (by decide)) ⟨Nat.le_refl _, Nat.le_refl _⟩ (As := [.ref (Z.1 3), .int (p2 + (1 : Int32)), .int v2, .int (p3 + (1 : Int32))]) rfl rfl (Nat.le_of_ble_eq_true rfl) dX5_runIf_36) (fun H locs hW => ?_)
    refine lv_goto (tgt := 61) C.1 C.2.1 dX5_runIf_39 (by decide) ?_
    obtain rfl := Option.some.inj hf
    exact x_vret C hW dX5_runIf_61 trivial
set_option maxRecDepth 20000 in
set_option maxHeartbeats 1000000 in
theorem l_X5_runRepeat_3 {l : Launch} {Z : ZT} {g : Hp} {n0 : Nat} {cf_X5_runCommand : Hp → Int32 → Int32 → Option (Hp)} {cf_X5_runCommands : Hp → Int32 → Int32 → Int32 → Option (Hp)} {cf_X5_runIf : Hp → Int32 → Int32 → Option (Hp)} {cf_X5_runRepeat : Hp → Int32 → Int32 → Option (Hp)} {p2 : Int32} {p3 : Int32} {p : Program} {e : Env} {s : State} {m : MethodId} {args : Array Value} {below : List Frame} {meth : Method} {c : Code} (C : CX p s m args meth c cX5_runRepeat RX5 5 none Z) {out : Hp} (hcf_X5_runCommand : ∀ {h g : Hp} {p2 : Int32} {p3 : Int32} {out : Hp}, cf_X5_runCommand h p2 p3 = some out → Met l yX5_runCommand (wY yX5_runCommand cX5_runCommand 6 none) (rmD (4 + n0)) (va_Pc [.ref (Z.1 15), .ref (Z.1 3), .int p2, .int p3] (Wd Z h g)) (va_Qv (fun (_ : Unit) => True) (fun _ => Wd Z out g) (FR Z)) 0 0 (FR Z)) (hcf_X5_runCommands : ∀ {h g : Hp} {p2 : Int32} {p3 : Int32} {p4 : Int32} {out : Hp}, cf_X5_runCommands h p2 p3 p4 = some out → Met l yX5_runCommands (wY yX5_runCommands cX5_runCommands 7 none) (rmD (4 + n0)) (va_Pc [.ref (Z.1 15), .ref (Z.1 3), .int p2, .int p3, .int p4] (Wd Z h g)) (va_Qv (fun (_ : Unit) => True) (fun _ => Wd Z out g) (FR Z)) 0 0 (FR Z)) (hcf_X5_runIf : ∀ {h g : Hp} {p2 : Int32} {p3 : Int32} {out : Hp}, cf_X5_runIf h p2 p3 = some out → Met l yX5_runIf (wY yX5_runIf cX5_runIf 5 none) (rmD (4 + n0)) (va_Pc [.ref (Z.1 15), .ref (Z.1 3), .int p2, .int p3] (Wd Z h g)) (va_Qv (fun (_ : Unit) => True) (fun _ => Wd Z out g) (FR Z)) 0 0 (FR Z)) (hcf_X5_runRepeat : ∀ {h g : Hp} {p2 : Int32} {p3 : Int32} {out : Hp}, cf_X5_runRepeat h p2 p3 = some out → Met l yX5_runRepeat (wY yX5_runRepeat cX5_runRepeat 5 none) (rmD (4 + n0)) (va_Pc [.ref (Z.1 15), .ref (Z.1 3), .int p2, .int p3] (Wd Z h g)) (va_Qv (fun (_ : Unit) => True) (fun _ => Wd Z out g) (FR Z)) 0 0 (FR Z)) : ∀ (n : Nat) (x4 : Int32) (h : Hp) (ls : Array Slot) (H : Heap) (locs : List Loc), XW Z h g s.heap H locs → lv_has ls 5 [(0, .ref (Z.1 15)), (1, .ref (Z.1 3)), (2, .int p2), (3, .int p3), (4, .int x4)] → Lp (F_X5_runRepeat_3 cf_X5_runCommand cf_X5_runCommands cf_X5_runIf cf_X5_runRepeat p2 p3) n (x4, h) = some out → W p l e (rmD (4 + n0 + 1)) s m args below meth c H locs 0 0 (MQ below (va_Qv (fun (_ : Unit) => True) (fun _ => Wd Z out g) (FR Z)) args s 0 0 (FR Z)) (F0 m 3 ls []) := by
  intro n
  induction n with
  | zero => intro x4 h ls H locs hW hl hf; cases hf
  | succ n ih =>
    intro x4 h ls H locs hW hl hf
    rw [Lp_s] at hf
    rw [F_X5_runRepeat_3] at hf
    try dsimp only at hf
    refine lv_iload C.1 C.2.1 dX5_runRepeat_3 (lv_at hl 4 rfl) ?_
    refine lv_aload_n C.1 C.2.1 dX5_runRepeat_5 rfl (lv_at hl 0 rfl) ?_
    refine xg_X5_12 C hW (k_15) hf dX5_runRepeat_6 (fun q1 hk_q1 hf => ?_)
    refine xg_X5_73 C hW hk_q1 dX5_runRepeat_9 ?_
    refine lv_iload_n C.1 C.2.1 dX5_runRepeat_12 rfl (lv_at hl 2 rfl) ?_
    refine x_ialdC C hW (o_X6_2 hk_q1) hf dX5_runRepeat_13 (fun hf => ?_)
    refine x_cmpge (tgt := 50) C hf dX5_runRepeat_14 (by decide) (fun hf => ?_) (fun hf => ?_)
    · obtain rfl := Option.some.inj hf
      exact x_vret C hW dX5_runRepeat_50 trivial
    · refine lv_aload_n C.1 C.2.1 dX5_runRepeat_17 rfl (lv_at hl 0 rfl) ?_
      refine xg_X5_25 C hW (k_15) dX5_runRepeat_18 ?_
      refine x_ifne (tgt := 50) C hf dX5_runRepeat_21 (by decide) (fun hf => ?_) (fun hf => ?_)
      · obtain rfl := Option.some.inj hf
        exact x_vret C hW dX5_runRepeat_50 trivial
      · refine lv_aload_n C.1 C.2.1 dX5_runRepeat_24 rfl (lv_at hl 0 rfl) ?_
        refine lv_aload_n C.1 C.2.1 dX5_runRepeat_25 rfl (lv_at hl 1 rfl) ?_
        refine lv_iload_n C.1 C.2.1 dX5_runRepeat_26 rfl (lv_at hl 2 rfl) ?_
        refine lv_iconst (v := 1) C.1 C.2.1 dX5_runRepeat_27 (by decide) ?_
        refine lv_iadd C.1 C.2.1 dX5_runRepeat_28 ?_
        refine lv_aload_n C.1 C.2.1 dX5_runRepeat_29 rfl (lv_at hl 0 rfl) ?_
        refine xg_X5_12 C hW (k_15) hf dX5_runRepeat_30 (fun q2 hk_q2 hf => ?_)
        refine xg_X5_40 C hW hk_q2 dX5_runRepeat_33 ?_
        refine lv_iload_n C.1 C.2.1 dX5_runRepeat_36 rfl (lv_at hl 2 rfl) ?_
        refine x_ialdC C hW (o_X6_4 hk_q2) hf dX5_runRepeat_37 (fun hf => ?_)
        refine lv_iload_n C.1 C.2.1 dX5_runRepeat_38 rfl (lv_at hl 3 rfl) ?_
        refine lv_iconst (v := 1) C.1 C.2.1 dX5_runRepeat_39 (by decide) ?_
        refine lv_iadd C.1 C.2.1 dX5_runRepeat_40 ?_
        obtain ⟨u3, hcu3, hf⟩ := bnd_t hf
        refine x_callv hW (x_runV C hW hl (wk5 (k_15)) rfl rfl (hcf_X5_runCommands hcu3) (cw_X5_32) ci_X5_runCommands cs_X5_runCommands (rm_ok (by omega) (by decide)) ⟨Nat.le_refl _, Nat.le_refl _⟩ (As := [.ref (Z.1 3), .int (p2 + (1 : Int32)), .int (h (q2 + 4) (ix p2)), .int (p3 + (1 : Int32))]) rfl rfl (Nat.le_of_ble_eq_true rfl) dX5_runRepeat_41) (fun H locs hW => ?_)
        refine x_iinc (w := 1) C hf dX5_runRepeat_44 hl (k := 4) rfl (by decide) (by decide) (fun v4 => [(4, .int v4), (0, .ref (Z.1 15)), (1, .ref (Z.1 3)), (2, .int p2), (3, .int p3)]) (fun _ => rfl) (fun v4 ls hf hl => ?_)
        refine lv_goto (tgt := 3) C.1 C.2.1 dX5_runRepeat_47 (by decide) ?_
        exact ih v4 u3 ls _ _ hW (lv_sub hl [1, 2, 3, 4, 0] rfl) hf
set_option maxRecDepth 20000 in
set_option maxHeartbeats 1000000 in
theorem b_X5_runRepeat {l : Launch} {Z : ZT} {g : Hp} {n0 : Nat} {cf_X5_runCommand : Hp → Int32 → Int32 → Option (Hp)} {cf_X5_runCommands : Hp → Int32 → Int32 → Int32 → Option (Hp)} {cf_X5_runIf : Hp → Int32 → Int32 → Option (Hp)} {cf_X5_runRepeat : Hp → Int32 → Int32 → Option (Hp)} {h : Hp} {p2 : Int32} {p3 : Int32} (hcf_X5_runCommand : ∀ {h g : Hp} {p2 : Int32} {p3 : Int32} {out : Hp}, cf_X5_runCommand h p2 p3 = some out → Met l yX5_runCommand (wY yX5_runCommand cX5_runCommand 6 none) (rmD (4 + n0)) (va_Pc [.ref (Z.1 15), .ref (Z.1 3), .int p2, .int p3] (Wd Z h g)) (va_Qv (fun (_ : Unit) => True) (fun _ => Wd Z out g) (FR Z)) 0 0 (FR Z)) (hcf_X5_runCommands : ∀ {h g : Hp} {p2 : Int32} {p3 : Int32} {p4 : Int32} {out : Hp}, cf_X5_runCommands h p2 p3 p4 = some out → Met l yX5_runCommands (wY yX5_runCommands cX5_runCommands 7 none) (rmD (4 + n0)) (va_Pc [.ref (Z.1 15), .ref (Z.1 3), .int p2, .int p3, .int p4] (Wd Z h g)) (va_Qv (fun (_ : Unit) => True) (fun _ => Wd Z out g) (FR Z)) 0 0 (FR Z)) (hcf_X5_runIf : ∀ {h g : Hp} {p2 : Int32} {p3 : Int32} {out : Hp}, cf_X5_runIf h p2 p3 = some out → Met l yX5_runIf (wY yX5_runIf cX5_runIf 5 none) (rmD (4 + n0)) (va_Pc [.ref (Z.1 15), .ref (Z.1 3), .int p2, .int p3] (Wd Z h g)) (va_Qv (fun (_ : Unit) => True) (fun _ => Wd Z out g) (FR Z)) 0 0 (FR Z)) (hcf_X5_runRepeat : ∀ {h g : Hp} {p2 : Int32} {p3 : Int32} {out : Hp}, cf_X5_runRepeat h p2 p3 = some out → Met l yX5_runRepeat (wY yX5_runRepeat cX5_runRepeat 5 none) (rmD (4 + n0)) (va_Pc [.ref (Z.1 15), .ref (Z.1 3), .int p2, .int p3] (Wd Z h g)) (va_Qv (fun (_ : Unit) => True) (fun _ => Wd Z out g) (FR Z)) 0 0 (FR Z)) {out : Hp} (hf : B_X5_runRepeat cf_X5_runCommand cf_X5_runCommands cf_X5_runIf cf_X5_runRepeat h p2 p3 = some out) : Met l yX5_runRepeat (wY yX5_runRepeat cX5_runRepeat 5 none) (rmD (4 + n0 + 1)) (va_Pc [.ref (Z.1 15), .ref (Z.1 3), .int p2, .int p3] (Wd Z h g)) (va_Qv (fun (_ : Unit) => True) (fun _ => Wd Z out g) (FR Z)) 0 0 (FR Z) := by
  refine metX RX5 rfl (by decide +kernel) (Nat.le_of_ble_eq_true rfl) ?_
  intro p e s m args below meth c C hW ls hl
  have hl : lv_has ls 5 [(0, .ref (Z.1 15)), (1, .ref (Z.1 3)), (2, .int p2), (3, .int p3)] := hl
  unfold B_X5_runRepeat at hf
  refine lv_iconst (v := 0) C.1 C.2.1 dX5_runRepeat_0 (by decide) ?_
  refine lv_istore (lv' := [(4, .int (0 : Int32)), (0, .ref (Z.1 15)), (1, .ref (Z.1 3)), (2, .int p2), (3, .int p3)]) C.1 C.2.1 dX5_runRepeat_1 hl (by decide) rfl (fun ls hl => ?_)
  exact l_X5_runRepeat_3 C hcf_X5_runCommand hcf_X5_runCommands hcf_X5_runIf hcf_X5_runRepeat FU (0 : Int32) h ls _ _ hW (lv_sub hl [1, 2, 3, 4, 0] rfl) hf
set_option maxRecDepth 20000 in
set_option maxHeartbeats 1000000 in
theorem rec_X5_runCommand {l : Launch} {Z : ZT} : ∀ n : Nat, (∀ {h g : Hp} {p2 : Int32} {p3 : Int32} {out : Hp}, (REC_X5_runCommand n).1 h p2 p3 = some out → Met l yX5_runCommand (wY yX5_runCommand cX5_runCommand 6 none) (rmD (4 + n)) (va_Pc [.ref (Z.1 15), .ref (Z.1 3), .int p2, .int p3] (Wd Z h g)) (va_Qv (fun (_ : Unit) => True) (fun _ => Wd Z out g) (FR Z)) 0 0 (FR Z)) ∧ (∀ {h g : Hp} {p2 : Int32} {p3 : Int32} {p4 : Int32} {out : Hp}, (REC_X5_runCommand n).2.1 h p2 p3 p4 = some out → Met l yX5_runCommands (wY yX5_runCommands cX5_runCommands 7 none) (rmD (4 + n)) (va_Pc [.ref (Z.1 15), .ref (Z.1 3), .int p2, .int p3, .int p4] (Wd Z h g)) (va_Qv (fun (_ : Unit) => True) (fun _ => Wd Z out g) (FR Z)) 0 0 (FR Z)) ∧ (∀ {h g : Hp} {p2 : Int32} {p3 : Int32} {out : Hp}, (REC_X5_runCommand n).2.2.1 h p2 p3 = some out → Met l yX5_runIf (wY yX5_runIf cX5_runIf 5 none) (rmD (4 + n)) (va_Pc [.ref (Z.1 15), .ref (Z.1 3), .int p2, .int p3] (Wd Z h g)) (va_Qv (fun (_ : Unit) => True) (fun _ => Wd Z out g) (FR Z)) 0 0 (FR Z)) ∧ (∀ {h g : Hp} {p2 : Int32} {p3 : Int32} {out : Hp}, (REC_X5_runCommand n).2.2.2 h p2 p3 = some out → Met l yX5_runRepeat (wY yX5_runRepeat cX5_runRepeat 5 none) (rmD (4 + n)) (va_Pc [.ref (Z.1 15), .ref (Z.1 3), .int p2, .int p3] (Wd Z h g)) (va_Qv (fun (_ : Unit) => True) (fun _ => Wd Z out g) (FR Z)) 0 0 (FR Z)) := by
  intro n
  induction n with
  | zero => exact ⟨(fun hf => no_none hf), (fun hf => no_none hf), (fun hf => no_none hf), (fun hf => no_none hf)⟩
  | succ n ih =>
    exact ⟨(fun hf => b_X5_runCommand (n0 := n) (fun z => ih.1 z) (fun z => ih.2.1 z) (fun z => ih.2.2.1 z) (fun z => ih.2.2.2 z) hf), (fun hf => b_X5_runCommands (n0 := n) (fun z => ih.1 z) (fun z => ih.2.1 z) (fun z => ih.2.2.1 z) (fun z => ih.2.2.2 z) hf), (fun hf => b_X5_runIf (n0 := n) (fun z => ih.1 z) (fun z => ih.2.1 z) (fun z => ih.2.2.1 z) (fun z => ih.2.2.2 z) hf), (fun hf => b_X5_runRepeat (n0 := n) (fun z => ih.1 z) (fun z => ih.2.1 z) (fun z => ih.2.2.1 z) (fun z => ih.2.2.2 z) hf)⟩
set_option maxRecDepth 20000 in
set_option maxHeartbeats 1000000 in
theorem c_X5_runCommand {l : Launch} {Z : ZT} : ∀ {h g : Hp} {p2 : Int32} {p3 : Int32} {out : Hp}, f_X5_runCommand h p2 p3 = some out → Met l yX5_runCommand (wY yX5_runCommand cX5_runCommand 6 none) (rmD (4 + 64)) (va_Pc [.ref (Z.1 15), .ref (Z.1 3), .int p2, .int p3] (Wd Z h g)) (va_Qv (fun (_ : Unit) => True) (fun _ => Wd Z out g) (FR Z)) 0 0 (FR Z) := (rec_X5_runCommand 64).1
set_option maxRecDepth 20000 in
set_option maxHeartbeats 1000000 in
theorem c_X5_runCommands {l : Launch} {Z : ZT} : ∀ {h g : Hp} {p2 : Int32} {p3 : Int32} {p4 : Int32} {out : Hp}, f_X5_runCommands h p2 p3 p4 = some out → Met l yX5_runCommands (wY yX5_runCommands cX5_runCommands 7 none) (rmD (4 + 64)) (va_Pc [.ref (Z.1 15), .ref (Z.1 3), .int p2, .int p3, .int p4] (Wd Z h g)) (va_Qv (fun (_ : Unit) => True) (fun _ => Wd Z out g) (FR Z)) 0 0 (FR Z) := (rec_X5_runCommand 64).2.1
set_option maxRecDepth 20000 in
set_option maxHeartbeats 1000000 in
theorem c_X5_runIf {l : Launch} {Z : ZT} : ∀ {h g : Hp} {p2 : Int32} {p3 : Int32} {out : Hp}, f_X5_runIf h p2 p3 = some out → Met l yX5_runIf (wY yX5_runIf cX5_runIf 5 none) (rmD (4 + 64)) (va_Pc [.ref (Z.1 15), .ref (Z.1 3), .int p2, .int p3] (Wd Z h g)) (va_Qv (fun (_ : Unit) => True) (fun _ => Wd Z out g) (FR Z)) 0 0 (FR Z) := (rec_X5_runCommand 64).2.2.1
set_option maxRecDepth 20000 in
set_option maxHeartbeats 1000000 in
theorem c_X5_runRepeat {l : Launch} {Z : ZT} : ∀ {h g : Hp} {p2 : Int32} {p3 : Int32} {out : Hp}, f_X5_runRepeat h p2 p3 = some out → Met l yX5_runRepeat (wY yX5_runRepeat cX5_runRepeat 5 none) (rmD (4 + 64)) (va_Pc [.ref (Z.1 15), .ref (Z.1 3), .int p2, .int p3] (Wd Z h g)) (va_Qv (fun (_ : Unit) => True) (fun _ => Wd Z out g) (FR Z)) 0 0 (FR Z) := (rec_X5_runCommand 64).2.2.2
set_option maxRecDepth 20000 in
set_option maxHeartbeats 1000000 in
theorem c_X5_runAll {l : Launch} {Z : ZT} {g : Hp} {h : Hp} {out : Hp} (hf : f_X5_runAll h = some out) : Met l yX5_runAll (wY yX5_runAll cX5_runAll 2 none) (rmD 70) (va_Pc [.ref (Z.1 15), .ref (Z.1 3)] (Wd Z h g)) (va_Qv (fun (_ : Unit) => True) (fun _ => Wd Z out g) (FR Z)) 0 0 (FR Z) := by
  refine metX RX5 rfl (by decide +kernel) (Nat.le_of_ble_eq_true rfl) ?_
  intro p e s m args below meth c C hW ls hl
  have hl : lv_has ls 2 [(0, .ref (Z.1 15)), (1, .ref (Z.1 3))] := hl
  unfold f_X5_runAll at hf
  refine lv_aload_n C.1 C.2.1 dX5_runAll_0 rfl (lv_at hl 0 rfl) ?_
  refine lv_iconst (v := 0) C.1 C.2.1 dX5_runAll_1 (by decide) ?_
  refine xp_X5_18 C hW (k_15) hf dX5_runAll_2 (fun h1 H locs hf hW => ?_)
  refine lv_aload_n C.1 C.2.1 dX5_runAll_5 rfl (lv_at hl 0 rfl) ?_
  refine lv_iconst (v := 0) C.1 C.2.1 dX5_runAll_6 (by decide) ?_
  refine xp_X5_22 C hW (k_15) hf dX5_runAll_7 (fun h2 H locs hf hW => ?_)
  refine lv_aload_n C.1 C.2.1 dX5_runAll_10 rfl (lv_at hl 0 rfl) ?_
  refine lv_iconst (v := 0) C.1 C.2.1 dX5_runAll_11 (by decide) ?_
  refine xp_X5_25 C hW (k_15) (by decide) hf dX5_runAll_12 (fun h3 H locs hf hW => ?_)
  refine lv_aload_n C.1 C.2.1 dX5_runAll_15 rfl (lv_at hl 0 rfl) ?_
  refine lv_aload_n C.1 C.2.1 dX5_runAll_16 rfl (lv_at hl 1 rfl) ?_
  refine lv_iconst (v := 0) C.1 C.2.1 dX5_runAll_17 (by decide) ?_
  refine lv_aload_n C.1 C.2.1 dX5_runAll_18 rfl (lv_at hl 0 rfl) ?_
  refine xg_X5_12 C hW (k_15) hf dX5_runAll_19 (fun q4 hk_q4 hf => ?_)
  refine xg_X5_29 C hW hk_q4 dX5_runAll_22 ?_
  refine lv_iconst (v := 0) C.1 C.2.1 dX5_runAll_25 (by decide) ?_
  obtain ⟨u5, hcu5, hf⟩ := bnd_t hf
  refine x_callv hW (x_runV C hW hl (wk5 (k_15)) rfl rfl (c_X5_runCommands hcu5) (cw_X5_32) ci_X5_runCommands cs_X5_runCommands (rm_ok (by decide) (by decide)) ⟨Nat.le_refl _, Nat.le_refl _⟩ (As := [.ref (Z.1 3), .int (0 : Int32), .int (h3 q4 0), .int (0 : Int32)]) rfl rfl (Nat.le_of_ble_eq_true rfl) dX5_runAll_26) (fun H locs hW => ?_)
  obtain rfl := Option.some.inj hf
  exact x_vret C hW dX5_runAll_29 trivial
