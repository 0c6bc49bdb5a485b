abbrev cL_load : ByteArray := method_3_code
def yL_load : MethodName := ⟨RL, "load", "(LTranscriptCutter;[J)I"⟩
theorem dL_load_0 : decode cL_load 0 = .ok (.aload_n 1, 1) := by decide +kernel
theorem dL_load_1 : decode cL_load 1 = .ok (.iconst 0, 1) := by decide +kernel
theorem dL_load_2 : decode cL_load 2 = .ok (.aload_n 0, 1) := by decide +kernel
theorem dL_load_3 : decode cL_load 3 = .ok (.invokevirtual 7, 3) := by decide +kernel
theorem dL_load_6 : decode cL_load 6 = .ok (.i2l, 1) := by decide +kernel
theorem dL_load_7 : decode cL_load 7 = .ok (.lastore, 1) := by decide +kernel
theorem dL_load_8 : decode cL_load 8 = .ok (.goto 6, 3) := by decide +kernel
theorem dL_load_11 : decode cL_load 11 = .ok (.astore_n 2, 1) := by decide +kernel
theorem dL_load_12 : decode cL_load 12 = .ok (.iconst 1, 1) := by decide +kernel
theorem dL_load_13 : decode cL_load 13 = .ok (.ireturn, 1) := by decide +kernel
theorem dL_load_14 : decode cL_load 14 = .ok (.iconst 0, 1) := by decide +kernel
theorem dL_load_15 : decode cL_load 15 = .ok (.ireturn, 1) := by decide +kernel
theorem ct_L_load : Cond.static yL_load ∈ TW := TW_of 841 (by decide +kernel) (by decide +kernel)
theorem cX_L_load : Cond.codeWith yL_load cL_load 3 (some .int) [(0, 8, 11, 13)] ∈ TW := TW_of 842 (by decide +kernel) (by decide +kernel)
theorem cl_L_13 : Cond.classLink RL 13 (exn 2) ∈ TW := TW_of 843 (by decide +kernel) (by decide +kernel)
theorem cw_L_7 : CWd RL 7 yX10_load cX10_load 2 (some .int) 0 := ⟨TW_of 844 (by decide +kernel) (by decide +kernel), TW_of 847 (by decide +kernel) (by decide +kernel), TW_of 103 (by decide +kernel) (by decide +kernel), by decide +kernel⟩
abbrev cL_loadScript : ByteArray := method_4_code
def yL_loadScript : MethodName := ⟨RL, "loadScript", "(LTranscriptCutter;[J)I"⟩
theorem dL_loadScript_0 : decode cL_loadScript 0 = .ok (.aload_n 1, 1) := by decide +kernel
theorem dL_loadScript_1 : decode cL_loadScript 1 = .ok (.iconst 0, 1) := by decide +kernel
theorem dL_loadScript_2 : decode cL_loadScript 2 = .ok (.aload_n 0, 1) := by decide +kernel
theorem dL_loadScript_3 : decode cL_loadScript 3 = .ok (.invokevirtual 15, 3) := by decide +kernel
theorem dL_loadScript_6 : decode cL_loadScript 6 = .ok (.i2l, 1) := by decide +kernel
theorem dL_loadScript_7 : decode cL_loadScript 7 = .ok (.lastore, 1) := by decide +kernel
theorem dL_loadScript_8 : decode cL_loadScript 8 = .ok (.goto 6, 3) := by decide +kernel
theorem dL_loadScript_11 : decode cL_loadScript 11 = .ok (.astore_n 2, 1) := by decide +kernel
theorem dL_loadScript_12 : decode cL_loadScript 12 = .ok (.iconst 1, 1) := by decide +kernel
theorem dL_loadScript_13 : decode cL_loadScript 13 = .ok (.ireturn, 1) := by decide +kernel
theorem dL_loadScript_14 : decode cL_loadScript 14 = .ok (.iconst 0, 1) := by decide +kernel
theorem dL_loadScript_15 : decode cL_loadScript 15 = .ok (.ireturn, 1) := by decide +kernel
theorem ct_L_loadScript : Cond.static yL_loadScript ∈ TW := TW_of 1033 (by decide +kernel) (by decide +kernel)
theorem cX_L_loadScript : Cond.codeWith yL_loadScript cL_loadScript 3 (some .int) [(0, 8, 11, 13)] ∈ TW := TW_of 1034 (by decide +kernel) (by decide +kernel)
theorem cw_L_15 : CWd RL 15 yX10_loadScript cX10_loadScript 2 (some .int) 0 := ⟨TW_of 1035 (by decide +kernel) (by decide +kernel), TW_of 1038 (by decide +kernel) (by decide +kernel), TW_of 103 (by decide +kernel) (by decide +kernel), by decide +kernel⟩
abbrev cL_wordField : ByteArray := method_5_code
def yL_wordField : MethodName := ⟨RL, "wordField", "(LTranscriptCutter;II[J)I"⟩
theorem dL_wordField_0 : decode cL_wordField 0 = .ok (.aload_n 3, 1) := by decide +kernel
theorem dL_wordField_1 : decode cL_wordField 1 = .ok (.iconst 0, 1) := by decide +kernel
theorem dL_wordField_2 : decode cL_wordField 2 = .ok (.aload_n 0, 1) := by decide +kernel
theorem dL_wordField_3 : decode cL_wordField 3 = .ok (.iload_n 1, 1) := by decide +kernel
theorem dL_wordField_4 : decode cL_wordField 4 = .ok (.iload_n 2, 1) := by decide +kernel
theorem dL_wordField_5 : decode cL_wordField 5 = .ok (.invokevirtual 18, 3) := by decide +kernel
theorem dL_wordField_8 : decode cL_wordField 8 = .ok (.i2l, 1) := by decide +kernel
theorem dL_wordField_9 : decode cL_wordField 9 = .ok (.lastore, 1) := by decide +kernel
theorem dL_wordField_10 : decode cL_wordField 10 = .ok (.goto 7, 3) := by decide +kernel
theorem dL_wordField_13 : decode cL_wordField 13 = .ok (.astore 4, 2) := by decide +kernel
theorem dL_wordField_15 : decode cL_wordField 15 = .ok (.iconst 1, 1) := by decide +kernel
theorem dL_wordField_16 : decode cL_wordField 16 = .ok (.ireturn, 1) := by decide +kernel
theorem dL_wordField_17 : decode cL_wordField 17 = .ok (.iconst 0, 1) := by decide +kernel
theorem dL_wordField_18 : decode cL_wordField 18 = .ok (.ireturn, 1) := by decide +kernel
theorem ct_L_wordField : Cond.static yL_wordField ∈ TW := TW_of 1089 (by decide +kernel) (by decide +kernel)
theorem cX_L_wordField : Cond.codeWith yL_wordField cL_wordField 5 (some .int) [(0, 10, 13, 22)] ∈ TW := TW_of 1090 (by decide +kernel) (by decide +kernel)
theorem cl_L_22 : Cond.classLink RL 22 (exn 1) ∈ TW := TW_of 1091 (by decide +kernel) (by decide +kernel)
theorem cw_L_18 : CWd RL 18 yX10_wordField cX10_wordField 4 (some .int) 2 := ⟨TW_of 1092 (by decide +kernel) (by decide +kernel), TW_of 1095 (by decide +kernel) (by decide +kernel), TW_of 103 (by decide +kernel) (by decide +kernel), by decide +kernel⟩
abbrev cL_isSameText : ByteArray := method_6_code
def yL_isSameText : MethodName := ⟨RL, "isSameText", "(LTranscriptCutter;II[J)I"⟩
theorem dL_isSameText_0 : decode cL_isSameText 0 = .ok (.aload_n 3, 1) := by decide +kernel
theorem dL_isSameText_1 : decode cL_isSameText 1 = .ok (.iconst 0, 1) := by decide +kernel
theorem dL_isSameText_2 : decode cL_isSameText 2 = .ok (.aload_n 0, 1) := by decide +kernel
theorem dL_isSameText_3 : decode cL_isSameText 3 = .ok (.iload_n 1, 1) := by decide +kernel
theorem dL_isSameText_4 : decode cL_isSameText 4 = .ok (.iload_n 2, 1) := by decide +kernel
theorem dL_isSameText_5 : decode cL_isSameText 5 = .ok (.invokevirtual 24, 3) := by decide +kernel
theorem dL_isSameText_8 : decode cL_isSameText 8 = .ok (.ifCond .eq 7, 3) := by decide +kernel
theorem dL_isSameText_11 : decode cL_isSameText 11 = .ok (.lconst 1, 1) := by decide +kernel
theorem dL_isSameText_12 : decode cL_isSameText 12 = .ok (.goto 4, 3) := by decide +kernel
theorem dL_isSameText_15 : decode cL_isSameText 15 = .ok (.lconst 0, 1) := by decide +kernel
theorem dL_isSameText_16 : decode cL_isSameText 16 = .ok (.lastore, 1) := by decide +kernel
theorem dL_isSameText_17 : decode cL_isSameText 17 = .ok (.goto 7, 3) := by decide +kernel
theorem dL_isSameText_20 : decode cL_isSameText 20 = .ok (.astore 4, 2) := by decide +kernel
theorem dL_isSameText_22 : decode cL_isSameText 22 = .ok (.iconst 1, 1) := by decide +kernel
theorem dL_isSameText_23 : decode cL_isSameText 23 = .ok (.ireturn, 1) := by decide +kernel
theorem dL_isSameText_24 : decode cL_isSameText 24 = .ok (.iconst 0, 1) := by decide +kernel
theorem dL_isSameText_25 : decode cL_isSameText 25 = .ok (.ireturn, 1) := by decide +kernel
theorem ct_L_isSameText : Cond.static yL_isSameText ∈ TW := TW_of 1129 (by decide +kernel) (by decide +kernel)
theorem cX_L_isSameText : Cond.codeWith yL_isSameText cL_isSameText 5 (some .int) [(0, 17, 20, 22)] ∈ TW := TW_of 1130 (by decide +kernel) (by decide +kernel)
theorem cw_L_24 : CWd RL 24 yX10_isSameText cX10_isSameText 3 (some .boolean) 2 := ⟨TW_of 1131 (by decide +kernel) (by decide +kernel), TW_of 1134 (by decide +kernel) (by decide +kernel), TW_of 103 (by decide +kernel) (by decide +kernel), by decide +kernel⟩
abbrev cL_overlap : ByteArray := method_7_code
def yL_overlap : MethodName := ⟨RL, "overlap", "(LTranscriptCutter;II[J)I"⟩
theorem dL_overlap_0 : decode cL_overlap 0 = .ok (.aload_n 3, 1) := by decide +kernel
theorem dL_overlap_1 : decode cL_overlap 1 = .ok (.iconst 0, 1) := by decide +kernel
theorem dL_overlap_2 : decode cL_overlap 2 = .ok (.aload_n 0, 1) := by decide +kernel
theorem dL_overlap_3 : decode cL_overlap 3 = .ok (.iload_n 1, 1) := by decide +kernel
theorem dL_overlap_4 : decode cL_overlap 4 = .ok (.iload_n 2, 1) := by decide +kernel
theorem dL_overlap_5 : decode cL_overlap 5 = .ok (.invokevirtual 28, 3) := by decide +kernel
theorem dL_overlap_8 : decode cL_overlap 8 = .ok (.ifCond .eq 7, 3) := by decide +kernel
theorem dL_overlap_11 : decode cL_overlap 11 = .ok (.lconst 1, 1) := by decide +kernel
theorem dL_overlap_12 : decode cL_overlap 12 = .ok (.goto 4, 3) := by decide +kernel
theorem dL_overlap_15 : decode cL_overlap 15 = .ok (.lconst 0, 1) := by decide +kernel
theorem dL_overlap_16 : decode cL_overlap 16 = .ok (.lastore, 1) := by decide +kernel
theorem dL_overlap_17 : decode cL_overlap 17 = .ok (.goto 7, 3) := by decide +kernel
theorem dL_overlap_20 : decode cL_overlap 20 = .ok (.astore 4, 2) := by decide +kernel
theorem dL_overlap_22 : decode cL_overlap 22 = .ok (.iconst 1, 1) := by decide +kernel
theorem dL_overlap_23 : decode cL_overlap 23 = .ok (.ireturn, 1) := by decide +kernel
theorem dL_overlap_24 : decode cL_overlap 24 = .ok (.iconst 0, 1) := by decide +kernel
theorem dL_overlap_25 : decode cL_overlap 25 = .ok (.ireturn, 1) := by decide +kernel
theorem ct_L_overlap : Cond.static yL_overlap ∈ TW := TW_of 1136 (by decide +kernel) (by decide +kernel)
theorem cX_L_overlap : Cond.codeWith yL_overlap cL_overlap 5 (some .int) [(0, 17, 20, 22)] ∈ TW := TW_of 1137 (by decide +kernel) (by decide +kernel)
theorem cw_L_28 : CWd RL 28 yX10_overlap cX10_overlap 3 (some .boolean) 2 := ⟨TW_of 1138 (by decide +kernel) (by decide +kernel), TW_of 1141 (by decide +kernel) (by decide +kernel), TW_of 103 (by decide +kernel) (by decide +kernel), by decide +kernel⟩
abbrev cL_blockField : ByteArray := method_8_code
def yL_blockField : MethodName := ⟨RL, "blockField", "(LTranscriptCutter;II[J)I"⟩
theorem dL_blockField_0 : decode cL_blockField 0 = .ok (.aload_n 3, 1) := by decide +kernel
theorem dL_blockField_1 : decode cL_blockField 1 = .ok (.iconst 0, 1) := by decide +kernel
theorem dL_blockField_2 : decode cL_blockField 2 = .ok (.aload_n 0, 1) := by decide +kernel
theorem dL_blockField_3 : decode cL_blockField 3 = .ok (.iload_n 1, 1) := by decide +kernel
theorem dL_blockField_4 : decode cL_blockField 4 = .ok (.iload_n 2, 1) := by decide +kernel
theorem dL_blockField_5 : decode cL_blockField 5 = .ok (.invokevirtual 31, 3) := by decide +kernel
theorem dL_blockField_8 : decode cL_blockField 8 = .ok (.i2l, 1) := by decide +kernel
theorem dL_blockField_9 : decode cL_blockField 9 = .ok (.lastore, 1) := by decide +kernel
theorem dL_blockField_10 : decode cL_blockField 10 = .ok (.goto 7, 3) := by decide +kernel
theorem dL_blockField_13 : decode cL_blockField 13 = .ok (.astore 4, 2) := by decide +kernel
theorem dL_blockField_15 : decode cL_blockField 15 = .ok (.iconst 1, 1) := by decide +kernel
theorem dL_blockField_16 : decode cL_blockField 16 = .ok (.ireturn, 1) := by decide +kernel
theorem dL_blockField_17 : decode cL_blockField 17 = .ok (.iconst 0, 1) := by decide +kernel
theorem dL_blockField_18 : decode cL_blockField 18 = .ok (.ireturn, 1) := by decide +kernel
theorem ct_L_blockField : Cond.static yL_blockField ∈ TW := TW_of 1144 (by decide +kernel) (by decide +kernel)
theorem cX_L_blockField : Cond.codeWith yL_blockField cL_blockField 5 (some .int) [(0, 10, 13, 22)] ∈ TW := TW_of 1145 (by decide +kernel) (by decide +kernel)
theorem cw_L_31 : CWd RL 31 yX10_blockField cX10_blockField 4 (some .int) 2 := ⟨TW_of 1146 (by decide +kernel) (by decide +kernel), TW_of 1149 (by decide +kernel) (by decide +kernel), TW_of 103 (by decide +kernel) (by decide +kernel), by decide +kernel⟩
abbrev cL_isSnapped : ByteArray := method_9_code
def yL_isSnapped : MethodName := ⟨RL, "isSnapped", "(LTranscriptCutter;I[J)I"⟩
theorem dL_isSnapped_0 : decode cL_isSnapped 0 = .ok (.aload_n 2, 1) := by decide +kernel
theorem dL_isSnapped_1 : decode cL_isSnapped 1 = .ok (.iconst 0, 1) := by decide +kernel
theorem dL_isSnapped_2 : decode cL_isSnapped 2 = .ok (.aload_n 0, 1) := by decide +kernel
theorem dL_isSnapped_3 : decode cL_isSnapped 3 = .ok (.iload_n 1, 1) := by decide +kernel
theorem dL_isSnapped_4 : decode cL_isSnapped 4 = .ok (.invokevirtual 34, 3) := by decide +kernel
theorem dL_isSnapped_7 : decode cL_isSnapped 7 = .ok (.ifCond .eq 7, 3) := by decide +kernel
theorem dL_isSnapped_10 : decode cL_isSnapped 10 = .ok (.lconst 1, 1) := by decide +kernel
theorem dL_isSnapped_11 : decode cL_isSnapped 11 = .ok (.goto 4, 3) := by decide +kernel
theorem dL_isSnapped_14 : decode cL_isSnapped 14 = .ok (.lconst 0, 1) := by decide +kernel
theorem dL_isSnapped_15 : decode cL_isSnapped 15 = .ok (.lastore, 1) := by decide +kernel
theorem dL_isSnapped_16 : decode cL_isSnapped 16 = .ok (.goto 6, 3) := by decide +kernel
theorem dL_isSnapped_19 : decode cL_isSnapped 19 = .ok (.astore_n 3, 1) := by decide +kernel
theorem dL_isSnapped_20 : decode cL_isSnapped 20 = .ok (.iconst 1, 1) := by decide +kernel
theorem dL_isSnapped_21 : decode cL_isSnapped 21 = .ok (.ireturn, 1) := by decide +kernel
theorem dL_isSnapped_22 : decode cL_isSnapped 22 = .ok (.iconst 0, 1) := by decide +kernel
theorem dL_isSnapped_23 : decode cL_isSnapped 23 = .ok (.ireturn, 1) := by decide +kernel
theorem ct_L_isSnapped : Cond.static yL_isSnapped ∈ TW := TW_of 1161 (by decide +kernel) (by decide +kernel)
theorem cX_L_isSnapped : Cond.codeWith yL_isSnapped cL_isSnapped 4 (some .int) [(0, 16, 19, 22)] ∈ TW := TW_of 1162 (by decide +kernel) (by decide +kernel)
theorem cw_L_34 : CWd RL 34 yX10_isSnapped cX10_isSnapped 2 (some .boolean) 1 := ⟨TW_of 1163 (by decide +kernel) (by decide +kernel), TW_of 1166 (by decide +kernel) (by decide +kernel), TW_of 103 (by decide +kernel) (by decide +kernel), by decide +kernel⟩
abbrev cL_blockOf : ByteArray := method_10_code
def yL_blockOf : MethodName := ⟨RL, "blockOf", "(LTranscriptCutter;I[J)I"⟩
theorem dL_blockOf_0 : decode cL_blockOf 0 = .ok (.aload_n 2, 1) := by decide +kernel
theorem dL_blockOf_1 : decode cL_blockOf 1 = .ok (.iconst 0, 1) := by decide +kernel
theorem dL_blockOf_2 : decode cL_blockOf 2 = .ok (.aload_n 0, 1) := by decide +kernel
theorem dL_blockOf_3 : decode cL_blockOf 3 = .ok (.iload_n 1, 1) := by decide +kernel
theorem dL_blockOf_4 : decode cL_blockOf 4 = .ok (.invokevirtual 38, 3) := by decide +kernel
theorem dL_blockOf_7 : decode cL_blockOf 7 = .ok (.i2l, 1) := by decide +kernel
theorem dL_blockOf_8 : decode cL_blockOf 8 = .ok (.lastore, 1) := by decide +kernel
theorem dL_blockOf_9 : decode cL_blockOf 9 = .ok (.goto 6, 3) := by decide +kernel
theorem dL_blockOf_12 : decode cL_blockOf 12 = .ok (.astore_n 3, 1) := by decide +kernel
theorem dL_blockOf_13 : decode cL_blockOf 13 = .ok (.iconst 1, 1) := by decide +kernel
theorem dL_blockOf_14 : decode cL_blockOf 14 = .ok (.ireturn, 1) := by decide +kernel
theorem dL_blockOf_15 : decode cL_blockOf 15 = .ok (.iconst 0, 1) := by decide +kernel
theorem dL_blockOf_16 : decode cL_blockOf 16 = .ok (.ireturn, 1) := by decide +kernel
theorem ct_L_blockOf : Cond.static yL_blockOf ∈ TW := TW_of 1168 (by decide +kernel) (by decide +kernel)
theorem cX_L_blockOf : Cond.codeWith yL_blockOf cL_blockOf 4 (some .int) [(0, 9, 12, 22)] ∈ TW := TW_of 1169 (by decide +kernel) (by decide +kernel)
theorem cw_L_38 : CWd RL 38 yX10_blockOf cX10_blockOf 2 (some .int) 1 := ⟨TW_of 1170 (by decide +kernel) (by decide +kernel), TW_of 1173 (by decide +kernel) (by decide +kernel), TW_of 103 (by decide +kernel) (by decide +kernel), by decide +kernel⟩
abbrev cL_shotField : ByteArray := method_11_code
def yL_shotField : MethodName := ⟨RL, "shotField", "(LTranscriptCutter;II[J)I"⟩
theorem dL_shotField_0 : decode cL_shotField 0 = .ok (.aload_n 3, 1) := by decide +kernel
theorem dL_shotField_1 : decode cL_shotField 1 = .ok (.iconst 0, 1) := by decide +kernel
theorem dL_shotField_2 : decode cL_shotField 2 = .ok (.aload_n 0, 1) := by decide +kernel
theorem dL_shotField_3 : decode cL_shotField 3 = .ok (.iload_n 1, 1) := by decide +kernel
theorem dL_shotField_4 : decode cL_shotField 4 = .ok (.iload_n 2, 1) := by decide +kernel
theorem dL_shotField_5 : decode cL_shotField 5 = .ok (.invokevirtual 42, 3) := by decide +kernel
theorem dL_shotField_8 : decode cL_shotField 8 = .ok (.i2l, 1) := by decide +kernel
theorem dL_shotField_9 : decode cL_shotField 9 = .ok (.lastore, 1) := by decide +kernel
theorem dL_shotField_10 : decode cL_shotField 10 = .ok (.goto 7, 3) := by decide +kernel
theorem dL_shotField_13 : decode cL_shotField 13 = .ok (.astore 4, 2) := by decide +kernel
theorem dL_shotField_15 : decode cL_shotField 15 = .ok (.iconst 1, 1) := by decide +kernel
theorem dL_shotField_16 : decode cL_shotField 16 = .ok (.ireturn, 1) := by decide +kernel
theorem dL_shotField_17 : decode cL_shotField 17 = .ok (.iconst 0, 1) := by decide +kernel
theorem dL_shotField_18 : decode cL_shotField 18 = .ok (.ireturn, 1) := by decide +kernel
theorem ct_L_shotField : Cond.static yL_shotField ∈ TW := TW_of 1180 (by decide +kernel) (by decide +kernel)
theorem cX_L_shotField : Cond.codeWith yL_shotField cL_shotField 5 (some .int) [(0, 10, 13, 22)] ∈ TW := TW_of 1181 (by decide +kernel) (by decide +kernel)
theorem cw_L_42 : CWd RL 42 yX10_shotField cX10_shotField 3 (some .int) 2 := ⟨TW_of 1182 (by decide +kernel) (by decide +kernel), TW_of 1185 (by decide +kernel) (by decide +kernel), TW_of 103 (by decide +kernel) (by decide +kernel), by decide +kernel⟩
abbrev cL_heard : ByteArray := method_12_code
def yL_heard : MethodName := ⟨RL, "heard", "(LTranscriptCutter;II[J)I"⟩
theorem dL_heard_0 : decode cL_heard 0 = .ok (.aload_n 3, 1) := by decide +kernel
theorem dL_heard_1 : decode cL_heard 1 = .ok (.iconst 0, 1) := by decide +kernel
theorem dL_heard_2 : decode cL_heard 2 = .ok (.aload_n 0, 1) := by decide +kernel
theorem dL_heard_3 : decode cL_heard 3 = .ok (.iload_n 1, 1) := by decide +kernel
theorem dL_heard_4 : decode cL_heard 4 = .ok (.iload_n 2, 1) := by decide +kernel
theorem dL_heard_5 : decode cL_heard 5 = .ok (.invokevirtual 45, 3) := by decide +kernel
theorem dL_heard_8 : decode cL_heard 8 = .ok (.i2l, 1) := by decide +kernel
theorem dL_heard_9 : decode cL_heard 9 = .ok (.lastore, 1) := by decide +kernel
theorem dL_heard_10 : decode cL_heard 10 = .ok (.goto 7, 3) := by decide +kernel
theorem dL_heard_13 : decode cL_heard 13 = .ok (.astore 4, 2) := by decide +kernel
theorem dL_heard_15 : decode cL_heard 15 = .ok (.iconst 1, 1) := by decide +kernel
theorem dL_heard_16 : decode cL_heard 16 = .ok (.ireturn, 1) := by decide +kernel
theorem dL_heard_17 : decode cL_heard 17 = .ok (.iconst 0, 1) := by decide +kernel
theorem dL_heard_18 : decode cL_heard 18 = .ok (.ireturn, 1) := by decide +kernel
theorem ct_L_heard : Cond.static yL_heard ∈ TW := TW_of 1187 (by decide +kernel) (by decide +kernel)
theorem cX_L_heard : Cond.codeWith yL_heard cL_heard 5 (some .int) [(0, 10, 13, 22)] ∈ TW := TW_of 1188 (by decide +kernel) (by decide +kernel)
theorem cw_L_45 : CWd RL 45 yX10_heard cX10_heard 3 (some .int) 2 := ⟨TW_of 1189 (by decide +kernel) (by decide +kernel), TW_of 1192 (by decide +kernel) (by decide +kernel), TW_of 103 (by decide +kernel) (by decide +kernel), by decide +kernel⟩
abbrev cL_speakingTime : ByteArray := method_13_code
def yL_speakingTime : MethodName := ⟨RL, "speakingTime", "(LTranscriptCutter;I[J)I"⟩
theorem dL_speakingTime_0 : decode cL_speakingTime 0 = .ok (.aload_n 2, 1) := by decide +kernel
theorem dL_speakingTime_1 : decode cL_speakingTime 1 = .ok (.iconst 0, 1) := by decide +kernel
theorem dL_speakingTime_2 : decode cL_speakingTime 2 = .ok (.aload_n 0, 1) := by decide +kernel
theorem dL_speakingTime_3 : decode cL_speakingTime 3 = .ok (.iload_n 1, 1) := by decide +kernel
theorem dL_speakingTime_4 : decode cL_speakingTime 4 = .ok (.invokevirtual 48, 3) := by decide +kernel
theorem dL_speakingTime_7 : decode cL_speakingTime 7 = .ok (.i2l, 1) := by decide +kernel
theorem dL_speakingTime_8 : decode cL_speakingTime 8 = .ok (.lastore, 1) := by decide +kernel
theorem dL_speakingTime_9 : decode cL_speakingTime 9 = .ok (.goto 6, 3) := by decide +kernel
theorem dL_speakingTime_12 : decode cL_speakingTime 12 = .ok (.astore_n 3, 1) := by decide +kernel
theorem dL_speakingTime_13 : decode cL_speakingTime 13 = .ok (.iconst 1, 1) := by decide +kernel
theorem dL_speakingTime_14 : decode cL_speakingTime 14 = .ok (.ireturn, 1) := by decide +kernel
theorem dL_speakingTime_15 : decode cL_speakingTime 15 = .ok (.iconst 0, 1) := by decide +kernel
theorem dL_speakingTime_16 : decode cL_speakingTime 16 = .ok (.ireturn, 1) := by decide +kernel
theorem ct_L_speakingTime : Cond.static yL_speakingTime ∈ TW := TW_of 1206 (by decide +kernel) (by decide +kernel)
theorem cX_L_speakingTime : Cond.codeWith yL_speakingTime cL_speakingTime 4 (some .int) [(0, 9, 12, 22)] ∈ TW := TW_of 1207 (by decide +kernel) (by decide +kernel)
theorem cw_L_48 : CWd RL 48 yX10_speakingTime cX10_speakingTime 2 (some .int) 1 := ⟨TW_of 1208 (by decide +kernel) (by decide +kernel), TW_of 1211 (by decide +kernel) (by decide +kernel), TW_of 103 (by decide +kernel) (by decide +kernel), by decide +kernel⟩
abbrev cL_placeOf : ByteArray := method_14_code
def yL_placeOf : MethodName := ⟨RL, "placeOf", "(LTranscriptCutter;I[J)I"⟩
theorem dL_placeOf_0 : decode cL_placeOf 0 = .ok (.aload_n 2, 1) := by decide +kernel
theorem dL_placeOf_1 : decode cL_placeOf 1 = .ok (.iconst 0, 1) := by decide +kernel
theorem dL_placeOf_2 : decode cL_placeOf 2 = .ok (.aload_n 0, 1) := by decide +kernel
theorem dL_placeOf_3 : decode cL_placeOf 3 = .ok (.iload_n 1, 1) := by decide +kernel
theorem dL_placeOf_4 : decode cL_placeOf 4 = .ok (.invokevirtual 51, 3) := by decide +kernel
theorem dL_placeOf_7 : decode cL_placeOf 7 = .ok (.i2l, 1) := by decide +kernel
theorem dL_placeOf_8 : decode cL_placeOf 8 = .ok (.lastore, 1) := by decide +kernel
theorem dL_placeOf_9 : decode cL_placeOf 9 = .ok (.goto 6, 3) := by decide +kernel
theorem dL_placeOf_12 : decode cL_placeOf 12 = .ok (.astore_n 3, 1) := by decide +kernel
theorem dL_placeOf_13 : decode cL_placeOf 13 = .ok (.iconst 1, 1) := by decide +kernel
theorem dL_placeOf_14 : decode cL_placeOf 14 = .ok (.ireturn, 1) := by decide +kernel
theorem dL_placeOf_15 : decode cL_placeOf 15 = .ok (.iconst 0, 1) := by decide +kernel
theorem dL_placeOf_16 : decode cL_placeOf 16 = .ok (.ireturn, 1) := by decide +kernel
theorem ct_L_placeOf : Cond.static yL_placeOf ∈ TW := TW_of 1217 (by decide +kernel) (by decide +kernel)
theorem cX_L_placeOf : Cond.codeWith yL_placeOf cL_placeOf 4 (some .int) [(0, 9, 12, 22)] ∈ TW := TW_of 1218 (by decide +kernel) (by decide +kernel)
theorem cw_L_51 : CWd RL 51 yX10_placeOf cX10_placeOf 2 (some .int) 1 := ⟨TW_of 1219 (by decide +kernel) (by decide +kernel), TW_of 1222 (by decide +kernel) (by decide +kernel), TW_of 103 (by decide +kernel) (by decide +kernel), by decide +kernel⟩
abbrev cL_startInFilm : ByteArray := method_15_code
def yL_startInFilm : MethodName := ⟨RL, "startInFilm", "(LTranscriptCutter;I[J)I"⟩
theorem dL_startInFilm_0 : decode cL_startInFilm 0 = .ok (.aload_n 2, 1) := by decide +kernel
theorem dL_startInFilm_1 : decode cL_startInFilm 1 = .ok (.iconst 0, 1) := by decide +kernel
theorem dL_startInFilm_2 : decode cL_startInFilm 2 = .ok (.aload_n 0, 1) := by decide +kernel
theorem dL_startInFilm_3 : decode cL_startInFilm 3 = .ok (.iload_n 1, 1) := by decide +kernel
theorem dL_startInFilm_4 : decode cL_startInFilm 4 = .ok (.invokevirtual 54, 3) := by decide +kernel
theorem dL_startInFilm_7 : decode cL_startInFilm 7 = .ok (.i2l, 1) := by decide +kernel
theorem dL_startInFilm_8 : decode cL_startInFilm 8 = .ok (.lastore, 1) := by decide +kernel
theorem dL_startInFilm_9 : decode cL_startInFilm 9 = .ok (.goto 6, 3) := by decide +kernel
theorem dL_startInFilm_12 : decode cL_startInFilm 12 = .ok (.astore_n 3, 1) := by decide +kernel
theorem dL_startInFilm_13 : decode cL_startInFilm 13 = .ok (.iconst 1, 1) := by decide +kernel
theorem dL_startInFilm_14 : decode cL_startInFilm 14 = .ok (.ireturn, 1) := by decide +kernel
theorem dL_startInFilm_15 : decode cL_startInFilm 15 = .ok (.iconst 0, 1) := by decide +kernel
theorem dL_startInFilm_16 : decode cL_startInFilm 16 = .ok (.ireturn, 1) := by decide +kernel
theorem ct_L_startInFilm : Cond.static yL_startInFilm ∈ TW := TW_of 1224 (by decide +kernel) (by decide +kernel)
theorem cX_L_startInFilm : Cond.codeWith yL_startInFilm cL_startInFilm 4 (some .int) [(0, 9, 12, 22)] ∈ TW := TW_of 1225 (by decide +kernel) (by decide +kernel)
theorem cw_L_54 : CWd RL 54 yX10_startInFilm cX10_startInFilm 2 (some .int) 1 := ⟨TW_of 1226 (by decide +kernel) (by decide +kernel), TW_of 1229 (by decide +kernel) (by decide +kernel), TW_of 103 (by decide +kernel) (by decide +kernel), by decide +kernel⟩
abbrev cL_occurrences : ByteArray := method_16_code
def yL_occurrences : MethodName := ⟨RL, "occurrences", "(LTranscriptCutter;I[J)I"⟩
theorem dL_occurrences_0 : decode cL_occurrences 0 = .ok (.aload_n 2, 1) := by decide +kernel
theorem dL_occurrences_1 : decode cL_occurrences 1 = .ok (.iconst 0, 1) := by decide +kernel
theorem dL_occurrences_2 : decode cL_occurrences 2 = .ok (.aload_n 0, 1) := by decide +kernel
theorem dL_occurrences_3 : decode cL_occurrences 3 = .ok (.iload_n 1, 1) := by decide +kernel
theorem dL_occurrences_4 : decode cL_occurrences 4 = .ok (.invokevirtual 57, 3) := by decide +kernel
theorem dL_occurrences_7 : decode cL_occurrences 7 = .ok (.i2l, 1) := by decide +kernel
theorem dL_occurrences_8 : decode cL_occurrences 8 = .ok (.lastore, 1) := by decide +kernel
theorem dL_occurrences_9 : decode cL_occurrences 9 = .ok (.goto 6, 3) := by decide +kernel
theorem dL_occurrences_12 : decode cL_occurrences 12 = .ok (.astore_n 3, 1) := by decide +kernel
theorem dL_occurrences_13 : decode cL_occurrences 13 = .ok (.iconst 1, 1) := by decide +kernel
theorem dL_occurrences_14 : decode cL_occurrences 14 = .ok (.ireturn, 1) := by decide +kernel
theorem dL_occurrences_15 : decode cL_occurrences 15 = .ok (.iconst 0, 1) := by decide +kernel
theorem dL_occurrences_16 : decode cL_occurrences 16 = .ok (.ireturn, 1) := by decide +kernel
theorem ct_L_occurrences : Cond.static yL_occurrences ∈ TW := TW_of 1235 (by decide +kernel) (by decide +kernel)
theorem cX_L_occurrences : Cond.codeWith yL_occurrences cL_occurrences 4 (some .int) [(0, 9, 12, 22)] ∈ TW := TW_of 1236 (by decide +kernel) (by decide +kernel)
theorem cw_L_57 : CWd RL 57 yX10_occurrences cX10_occurrences 2 (some .int) 1 := ⟨TW_of 1237 (by decide +kernel) (by decide +kernel), TW_of 1240 (by decide +kernel) (by decide +kernel), TW_of 103 (by decide +kernel) (by decide +kernel), by decide +kernel⟩
abbrev cL_lengthIfCut : ByteArray := method_17_code
def yL_lengthIfCut : MethodName := ⟨RL, "lengthIfCut", "(LTranscriptCutter;II[J)I"⟩
theorem dL_lengthIfCut_0 : decode cL_lengthIfCut 0 = .ok (.aload_n 3, 1) := by decide +kernel
theorem dL_lengthIfCut_1 : decode cL_lengthIfCut 1 = .ok (.iconst 0, 1) := by decide +kernel
theorem dL_lengthIfCut_2 : decode cL_lengthIfCut 2 = .ok (.aload_n 0, 1) := by decide +kernel
theorem dL_lengthIfCut_3 : decode cL_lengthIfCut 3 = .ok (.iload_n 1, 1) := by decide +kernel
theorem dL_lengthIfCut_4 : decode cL_lengthIfCut 4 = .ok (.iload_n 2, 1) := by decide +kernel
theorem dL_lengthIfCut_5 : decode cL_lengthIfCut 5 = .ok (.invokevirtual 60, 3) := by decide +kernel
theorem dL_lengthIfCut_8 : decode cL_lengthIfCut 8 = .ok (.i2l, 1) := by decide +kernel
theorem dL_lengthIfCut_9 : decode cL_lengthIfCut 9 = .ok (.lastore, 1) := by decide +kernel
theorem dL_lengthIfCut_10 : decode cL_lengthIfCut 10 = .ok (.goto 7, 3) := by decide +kernel
theorem dL_lengthIfCut_13 : decode cL_lengthIfCut 13 = .ok (.astore 4, 2) := by decide +kernel
theorem dL_lengthIfCut_15 : decode cL_lengthIfCut 15 = .ok (.iconst 1, 1) := by decide +kernel
theorem dL_lengthIfCut_16 : decode cL_lengthIfCut 16 = .ok (.ireturn, 1) := by decide +kernel
theorem dL_lengthIfCut_17 : decode cL_lengthIfCut 17 = .ok (.iconst 0, 1) := by decide +kernel
theorem dL_lengthIfCut_18 : decode cL_lengthIfCut 18 = .ok (.ireturn, 1) := by decide +kernel
theorem ct_L_lengthIfCut : Cond.static yL_lengthIfCut ∈ TW := TW_of 1246 (by decide +kernel) (by decide +kernel)
theorem cX_L_lengthIfCut : Cond.codeWith yL_lengthIfCut cL_lengthIfCut 5 (some .int) [(0, 10, 13, 13)] ∈ TW := TW_of 1247 (by decide +kernel) (by decide +kernel)
theorem cw_L_60 : CWd RL 60 yX10_lengthIfCut cX10_lengthIfCut 3 (some .int) 2 := ⟨TW_of 1248 (by decide +kernel) (by decide +kernel), TW_of 1251 (by decide +kernel) (by decide +kernel), TW_of 103 (by decide +kernel) (by decide +kernel), by decide +kernel⟩
abbrev cL_lengthIfRestored : ByteArray := method_18_code
def yL_lengthIfRestored : MethodName := ⟨RL, "lengthIfRestored", "(LTranscriptCutter;I[J)I"⟩
theorem dL_lengthIfRestored_0 : decode cL_lengthIfRestored 0 = .ok (.aload_n 2, 1) := by decide +kernel
theorem dL_lengthIfRestored_1 : decode cL_lengthIfRestored 1 = .ok (.iconst 0, 1) := by decide +kernel
theorem dL_lengthIfRestored_2 : decode cL_lengthIfRestored 2 = .ok (.aload_n 0, 1) := by decide +kernel
theorem dL_lengthIfRestored_3 : decode cL_lengthIfRestored 3 = .ok (.iload_n 1, 1) := by decide +kernel
theorem dL_lengthIfRestored_4 : decode cL_lengthIfRestored 4 = .ok (.invokevirtual 63, 3) := by decide +kernel
theorem dL_lengthIfRestored_7 : decode cL_lengthIfRestored 7 = .ok (.i2l, 1) := by decide +kernel
theorem dL_lengthIfRestored_8 : decode cL_lengthIfRestored 8 = .ok (.lastore, 1) := by decide +kernel
theorem dL_lengthIfRestored_9 : decode cL_lengthIfRestored 9 = .ok (.goto 6, 3) := by decide +kernel
theorem dL_lengthIfRestored_12 : decode cL_lengthIfRestored 12 = .ok (.astore_n 3, 1) := by decide +kernel
theorem dL_lengthIfRestored_13 : decode cL_lengthIfRestored 13 = .ok (.iconst 1, 1) := by decide +kernel
theorem dL_lengthIfRestored_14 : decode cL_lengthIfRestored 14 = .ok (.ireturn, 1) := by decide +kernel
theorem dL_lengthIfRestored_15 : decode cL_lengthIfRestored 15 = .ok (.iconst 0, 1) := by decide +kernel
theorem dL_lengthIfRestored_16 : decode cL_lengthIfRestored 16 = .ok (.ireturn, 1) := by decide +kernel
theorem ct_L_lengthIfRestored : Cond.static yL_lengthIfRestored ∈ TW := TW_of 1262 (by decide +kernel) (by decide +kernel)
theorem cX_L_lengthIfRestored : Cond.codeWith yL_lengthIfRestored cL_lengthIfRestored 4 (some .int) [(0, 9, 12, 22)] ∈ TW := TW_of 1263 (by decide +kernel) (by decide +kernel)
theorem cw_L_63 : CWd RL 63 yX10_lengthIfRestored cX10_lengthIfRestored 2 (some .int) 1 := ⟨TW_of 1264 (by decide +kernel) (by decide +kernel), TW_of 1267 (by decide +kernel) (by decide +kernel), TW_of 103 (by decide +kernel) (by decide +kernel), by decide +kernel⟩
abbrev cL_cut : ByteArray := method_19_code
def yL_cut : MethodName := ⟨RL, "cut", "(LTranscriptCutter;II[J)I"⟩
theorem dL_cut_0 : decode cL_cut 0 = .ok (.aload_n 3, 1) := by decide +kernel
theorem dL_cut_1 : decode cL_cut 1 = .ok (.iconst 0, 1) := by decide +kernel
theorem dL_cut_2 : decode cL_cut 2 = .ok (.aload_n 0, 1) := by decide +kernel
theorem dL_cut_3 : decode cL_cut 3 = .ok (.iload_n 1, 1) := by decide +kernel
theorem dL_cut_4 : decode cL_cut 4 = .ok (.iload_n 2, 1) := by decide +kernel
theorem dL_cut_5 : decode cL_cut 5 = .ok (.invokevirtual 66, 3) := by decide +kernel
theorem dL_cut_8 : decode cL_cut 8 = .ok (.i2l, 1) := by decide +kernel
theorem dL_cut_9 : decode cL_cut 9 = .ok (.lastore, 1) := by decide +kernel
theorem dL_cut_10 : decode cL_cut 10 = .ok (.goto 7, 3) := by decide +kernel
theorem dL_cut_13 : decode cL_cut 13 = .ok (.astore 4, 2) := by decide +kernel
theorem dL_cut_15 : decode cL_cut 15 = .ok (.iconst 1, 1) := by decide +kernel
theorem dL_cut_16 : decode cL_cut 16 = .ok (.ireturn, 1) := by decide +kernel
theorem dL_cut_17 : decode cL_cut 17 = .ok (.iconst 0, 1) := by decide +kernel
theorem dL_cut_18 : decode cL_cut 18 = .ok (.ireturn, 1) := by decide +kernel
theorem ct_L_cut : Cond.static yL_cut ∈ TW := TW_of 1277 (by decide +kernel) (by decide +kernel)
theorem cX_L_cut : Cond.codeWith yL_cut cL_cut 5 (some .int) [(0, 10, 13, 13)] ∈ TW := TW_of 1278 (by decide +kernel) (by decide +kernel)
theorem cw_L_66 : CWd RL 66 yX10_cut cX10_cut 4 (some .int) 2 := ⟨TW_of 1279 (by decide +kernel) (by decide +kernel), TW_of 1282 (by decide +kernel) (by decide +kernel), TW_of 103 (by decide +kernel) (by decide +kernel), by decide +kernel⟩
abbrev cL_cutWord : ByteArray := method_20_code
def yL_cutWord : MethodName := ⟨RL, "cutWord", "(LTranscriptCutter;I[J)I"⟩
theorem dL_cutWord_0 : decode cL_cutWord 0 = .ok (.aload_n 2, 1) := by decide +kernel
theorem dL_cutWord_1 : decode cL_cutWord 1 = .ok (.iconst 0, 1) := by decide +kernel
theorem dL_cutWord_2 : decode cL_cutWord 2 = .ok (.aload_n 0, 1) := by decide +kernel
theorem dL_cutWord_3 : decode cL_cutWord 3 = .ok (.iload_n 1, 1) := by decide +kernel
theorem dL_cutWord_4 : decode cL_cutWord 4 = .ok (.invokevirtual 69, 3) := by decide +kernel
theorem dL_cutWord_7 : decode cL_cutWord 7 = .ok (.i2l, 1) := by decide +kernel
theorem dL_cutWord_8 : decode cL_cutWord 8 = .ok (.lastore, 1) := by decide +kernel
theorem dL_cutWord_9 : decode cL_cutWord 9 = .ok (.goto 9, 3) := by decide +kernel
theorem dL_cutWord_12 : decode cL_cutWord 12 = .ok (.astore_n 3, 1) := by decide +kernel
theorem dL_cutWord_13 : decode cL_cutWord 13 = .ok (.iconst 1, 1) := by decide +kernel
theorem dL_cutWord_14 : decode cL_cutWord 14 = .ok (.ireturn, 1) := by decide +kernel
theorem dL_cutWord_15 : decode cL_cutWord 15 = .ok (.astore_n 3, 1) := by decide +kernel
theorem dL_cutWord_16 : decode cL_cutWord 16 = .ok (.iconst 2, 1) := by decide +kernel
theorem dL_cutWord_17 : decode cL_cutWord 17 = .ok (.ireturn, 1) := by decide +kernel
theorem dL_cutWord_18 : decode cL_cutWord 18 = .ok (.iconst 0, 1) := by decide +kernel
theorem dL_cutWord_19 : decode cL_cutWord 19 = .ok (.ireturn, 1) := by decide +kernel
theorem ct_L_cutWord : Cond.static yL_cutWord ∈ TW := TW_of 1285 (by decide +kernel) (by decide +kernel)
theorem cX_L_cutWord : Cond.codeWith yL_cutWord cL_cutWord 4 (some .int) [(0, 9, 12, 22), (0, 9, 15, 72)] ∈ TW := TW_of 1286 (by decide +kernel) (by decide +kernel)
theorem cl_L_72 : Cond.classLink RL 72 (exn 3) ∈ TW := TW_of 1287 (by decide +kernel) (by decide +kernel)
theorem cw_L_69 : CWd RL 69 yX10_cutWord cX10_cutWord 3 (some .int) 1 := ⟨TW_of 1288 (by decide +kernel) (by decide +kernel), TW_of 1291 (by decide +kernel) (by decide +kernel), TW_of 103 (by decide +kernel) (by decide +kernel), by decide +kernel⟩
abbrev cL_restore : ByteArray := method_21_code
def yL_restore : MethodName := ⟨RL, "restore", "(LTranscriptCutter;II[J)I"⟩
theorem dL_restore_0 : decode cL_restore 0 = .ok (.aload_n 3, 1) := by decide +kernel
theorem dL_restore_1 : decode cL_restore 1 = .ok (.iconst 0, 1) := by decide +kernel
theorem dL_restore_2 : decode cL_restore 2 = .ok (.aload_n 0, 1) := by decide +kernel
theorem dL_restore_3 : decode cL_restore 3 = .ok (.iload_n 1, 1) := by decide +kernel
theorem dL_restore_4 : decode cL_restore 4 = .ok (.iload_n 2, 1) := by decide +kernel
theorem dL_restore_5 : decode cL_restore 5 = .ok (.invokevirtual 74, 3) := by decide +kernel
theorem dL_restore_8 : decode cL_restore 8 = .ok (.i2l, 1) := by decide +kernel
theorem dL_restore_9 : decode cL_restore 9 = .ok (.lastore, 1) := by decide +kernel
theorem dL_restore_10 : decode cL_restore 10 = .ok (.goto 11, 3) := by decide +kernel
theorem dL_restore_13 : decode cL_restore 13 = .ok (.astore 4, 2) := by decide +kernel
theorem dL_restore_15 : decode cL_restore 15 = .ok (.iconst 1, 1) := by decide +kernel
theorem dL_restore_16 : decode cL_restore 16 = .ok (.ireturn, 1) := by decide +kernel
theorem dL_restore_17 : decode cL_restore 17 = .ok (.astore 4, 2) := by decide +kernel
theorem dL_restore_19 : decode cL_restore 19 = .ok (.iconst 2, 1) := by decide +kernel
theorem dL_restore_20 : decode cL_restore 20 = .ok (.ireturn, 1) := by decide +kernel
theorem dL_restore_21 : decode cL_restore 21 = .ok (.iconst 0, 1) := by decide +kernel
theorem dL_restore_22 : decode cL_restore 22 = .ok (.ireturn, 1) := by decide +kernel
theorem ct_L_restore : Cond.static yL_restore ∈ TW := TW_of 1309 (by decide +kernel) (by decide +kernel)
theorem cX_L_restore : Cond.codeWith yL_restore cL_restore 5 (some .int) [(0, 10, 13, 22), (0, 10, 17, 13)] ∈ TW := TW_of 1310 (by decide +kernel) (by decide +kernel)
theorem cw_L_74 : CWd RL 74 yX10_restore cX10_restore 3 (some .int) 2 := ⟨TW_of 1311 (by decide +kernel) (by decide +kernel), TW_of 1314 (by decide +kernel) (by decide +kernel), TW_of 103 (by decide +kernel) (by decide +kernel), by decide +kernel⟩
abbrev cL_move : ByteArray := method_22_code
def yL_move : MethodName := ⟨RL, "move", "(LTranscriptCutter;III[J)I"⟩
theorem dL_move_0 : decode cL_move 0 = .ok (.aload 4, 2) := by decide +kernel
theorem dL_move_2 : decode cL_move 2 = .ok (.iconst 0, 1) := by decide +kernel
theorem dL_move_3 : decode cL_move 3 = .ok (.aload_n 0, 1) := by decide +kernel
theorem dL_move_4 : decode cL_move 4 = .ok (.iload_n 1, 1) := by decide +kernel
theorem dL_move_5 : decode cL_move 5 = .ok (.iload_n 2, 1) := by decide +kernel
theorem dL_move_6 : decode cL_move 6 = .ok (.iload_n 3, 1) := by decide +kernel
theorem dL_move_7 : decode cL_move 7 = .ok (.invokevirtual 77, 3) := by decide +kernel
theorem dL_move_10 : decode cL_move 10 = .ok (.i2l, 1) := by decide +kernel
theorem dL_move_11 : decode cL_move 11 = .ok (.lastore, 1) := by decide +kernel
theorem dL_move_12 : decode cL_move 12 = .ok (.goto 11, 3) := by decide +kernel
theorem dL_move_15 : decode cL_move 15 = .ok (.astore 5, 2) := by decide +kernel
theorem dL_move_17 : decode cL_move 17 = .ok (.iconst 1, 1) := by decide +kernel
theorem dL_move_18 : decode cL_move 18 = .ok (.ireturn, 1) := by decide +kernel
theorem dL_move_19 : decode cL_move 19 = .ok (.astore 5, 2) := by decide +kernel
theorem dL_move_21 : decode cL_move 21 = .ok (.iconst 2, 1) := by decide +kernel
theorem dL_move_22 : decode cL_move 22 = .ok (.ireturn, 1) := by decide +kernel
theorem dL_move_23 : decode cL_move 23 = .ok (.iconst 0, 1) := by decide +kernel
theorem dL_move_24 : decode cL_move 24 = .ok (.ireturn, 1) := by decide +kernel
theorem ct_L_move : Cond.static yL_move ∈ TW := TW_of 1318 (by decide +kernel) (by decide +kernel)
theorem cX_L_move : Cond.codeWith yL_move cL_move 6 (some .int) [(0, 12, 15, 22), (0, 12, 19, 13)] ∈ TW := TW_of 1319 (by decide +kernel) (by decide +kernel)
theorem cw_L_77 : CWd RL 77 yX10_move cX10_move 4 (some .int) 3 := ⟨TW_of 1320 (by decide +kernel) (by decide +kernel), TW_of 1323 (by decide +kernel) (by decide +kernel), TW_of 103 (by decide +kernel) (by decide +kernel), by decide +kernel⟩
abbrev cL_setHandles : ByteArray := method_23_code
def yL_setHandles : MethodName := ⟨RL, "setHandles", "(LTranscriptCutter;III[J)I"⟩
theorem dL_setHandles_0 : decode cL_setHandles 0 = .ok (.aload 4, 2) := by decide +kernel
theorem dL_setHandles_2 : decode cL_setHandles 2 = .ok (.iconst 0, 1) := by decide +kernel
theorem dL_setHandles_3 : decode cL_setHandles 3 = .ok (.aload_n 0, 1) := by decide +kernel
theorem dL_setHandles_4 : decode cL_setHandles 4 = .ok (.iload_n 1, 1) := by decide +kernel
theorem dL_setHandles_5 : decode cL_setHandles 5 = .ok (.iload_n 2, 1) := by decide +kernel
theorem dL_setHandles_6 : decode cL_setHandles 6 = .ok (.iload_n 3, 1) := by decide +kernel
theorem dL_setHandles_7 : decode cL_setHandles 7 = .ok (.invokevirtual 81, 3) := by decide +kernel
theorem dL_setHandles_10 : decode cL_setHandles 10 = .ok (.i2l, 1) := by decide +kernel
theorem dL_setHandles_11 : decode cL_setHandles 11 = .ok (.lastore, 1) := by decide +kernel
theorem dL_setHandles_12 : decode cL_setHandles 12 = .ok (.goto 11, 3) := by decide +kernel
theorem dL_setHandles_15 : decode cL_setHandles 15 = .ok (.astore 5, 2) := by decide +kernel
theorem dL_setHandles_17 : decode cL_setHandles 17 = .ok (.iconst 1, 1) := by decide +kernel
theorem dL_setHandles_18 : decode cL_setHandles 18 = .ok (.ireturn, 1) := by decide +kernel
theorem dL_setHandles_19 : decode cL_setHandles 19 = .ok (.astore 5, 2) := by decide +kernel
theorem dL_setHandles_21 : decode cL_setHandles 21 = .ok (.iconst 2, 1) := by decide +kernel
theorem dL_setHandles_22 : decode cL_setHandles 22 = .ok (.ireturn, 1) := by decide +kernel
theorem dL_setHandles_23 : decode cL_setHandles 23 = .ok (.iconst 0, 1) := by decide +kernel
theorem dL_setHandles_24 : decode cL_setHandles 24 = .ok (.ireturn, 1) := by decide +kernel
theorem ct_L_setHandles : Cond.static yL_setHandles ∈ TW := TW_of 1329 (by decide +kernel) (by decide +kernel)
theorem cX_L_setHandles : Cond.codeWith yL_setHandles cL_setHandles 6 (some .int) [(0, 12, 15, 22), (0, 12, 19, 13)] ∈ TW := TW_of 1330 (by decide +kernel) (by decide +kernel)
theorem cw_L_81 : CWd RL 81 yX10_setHandles cX10_setHandles 5 (some .int) 3 := ⟨TW_of 1331 (by decide +kernel) (by decide +kernel), TW_of 1334 (by decide +kernel) (by decide +kernel), TW_of 103 (by decide +kernel) (by decide +kernel), by decide +kernel⟩
abbrev cL_formatShot : ByteArray := method_24_code
def yL_formatShot : MethodName := ⟨RL, "formatShot", "(LTranscriptCutter;I[J)I"⟩
theorem dL_formatShot_0 : decode cL_formatShot 0 = .ok (.aload_n 2, 1) := by decide +kernel
theorem dL_formatShot_1 : decode cL_formatShot 1 = .ok (.iconst 0, 1) := by decide +kernel
theorem dL_formatShot_2 : decode cL_formatShot 2 = .ok (.aload_n 0, 1) := by decide +kernel
theorem dL_formatShot_3 : decode cL_formatShot 3 = .ok (.iload_n 1, 1) := by decide +kernel
theorem dL_formatShot_4 : decode cL_formatShot 4 = .ok (.invokevirtual 84, 3) := by decide +kernel
theorem dL_formatShot_7 : decode cL_formatShot 7 = .ok (.i2l, 1) := by decide +kernel
theorem dL_formatShot_8 : decode cL_formatShot 8 = .ok (.lastore, 1) := by decide +kernel
theorem dL_formatShot_9 : decode cL_formatShot 9 = .ok (.goto 6, 3) := by decide +kernel
theorem dL_formatShot_12 : decode cL_formatShot 12 = .ok (.astore_n 3, 1) := by decide +kernel
theorem dL_formatShot_13 : decode cL_formatShot 13 = .ok (.iconst 1, 1) := by decide +kernel
theorem dL_formatShot_14 : decode cL_formatShot 14 = .ok (.ireturn, 1) := by decide +kernel
theorem dL_formatShot_15 : decode cL_formatShot 15 = .ok (.iconst 0, 1) := by decide +kernel
theorem dL_formatShot_16 : decode cL_formatShot 16 = .ok (.ireturn, 1) := by decide +kernel
theorem ct_L_formatShot : Cond.static yL_formatShot ∈ TW := TW_of 1338 (by decide +kernel) (by decide +kernel)
theorem cX_L_formatShot : Cond.codeWith yL_formatShot cL_formatShot 4 (some .int) [(0, 9, 12, 22)] ∈ TW := TW_of 1339 (by decide +kernel) (by decide +kernel)
theorem cw_L_84 : CWd RL 84 yX10_formatShot cX10_formatShot 2 (some .int) 1 := ⟨TW_of 1340 (by decide +kernel) (by decide +kernel), TW_of 1343 (by decide +kernel) (by decide +kernel), TW_of 103 (by decide +kernel) (by decide +kernel), by decide +kernel⟩
set_option maxRecDepth 20000 in
set_option maxHeartbeats 1000000 in
theorem c_L_load {l : Launch} (hlt : l.stackTraces = false) {Z : ZT} {h g : Hp} {out : Int32 × (Hp × Hp)} (hm : Z.2.2.2.2 1000 = 1) (hf : f_L_load h g  = some out) : Met l yL_load (wYW yL_load cL_load 3 (some .int) [(0, 8, 11, 13)]) (rmC 12 8) (va_Pc [.ref (Z.1 0), .ref (Z.1 145)] (Wd Z h g)) (va_Qi (fun r (_ : Unit) => r = out.1) (fun _ => Wd Z out.2.1 out.2.2) (FR Z)) 8 48 (FR Z) := by
  refine metXW RL rfl (by decide +kernel) (Nat.le_of_ble_eq_true rfl) ?_
  intro p e s m args below meth c C htab hW ls hl
  have hl : lv_has ls 3 [(0, .ref (Z.1 0)), (1, .ref (Z.1 145))] := hl
  unfold f_L_load at hf
  obtain ⟨u, hc, hf⟩ := bnd_t hf
  refine lv_aload_n C.1 C.2.1 dL_load_0 rfl (lv_at hl 1 rfl) ?_
  refine lv_iconst (v := 0) C.1 C.2.1 dL_load_1 (by decide) ?_
  refine lv_aload_n C.1 C.2.1 dL_load_2 rfl (lv_at hl 0 rfl) ?_
  refine x_tryI hW (x_runVx C hW hl (wk8 k_0) rfl rfl (c_X10_load hlt hc) cw_L_7 ci_X10_load cs_X10_load (rm_okX (by decide) (by decide)) ⟨by decide, by decide⟩ (As := []) rfl rfl (Nat.le_of_ble_eq_true rfl) dL_load_3) (fun hn H locs q ce hW hcell hv hcl => ?_) (fun hn H locs hW => ?_)
  · have hf := (if_neg hn).symm.trans hf
    rcases Classical.em (u.1 = 2) with ht | ht
    · obtain rfl := Option.some.inj ((if_pos ht).symm.trans hf)
      rw [ht] at hcl
      refine x_catch1 (tag := 2) C htab ⟨by decide, by decide⟩ (by decide) cl_L_13 (by decide) hcell hv hcl ?_
      refine lv_astore_n (lv' := [(2, .ref q), (0, .ref (Z.1 0)), (1, .ref (Z.1 145))]) C.1 C.2.1 dL_load_11 rfl hl (by decide) rfl (fun ls hl => ?_)
      refine lv_iconst (v := 1) C.1 C.2.1 dL_load_12 (by decide) ?_
      exact x_iret C hW dL_load_13 rfl
    · have hf := (if_neg ht).symm.trans hf
      cases hf
  · have hf := (if_pos hn).symm.trans hf
    obtain rfl := Option.some.inj hf
    refine lv_i2l C.1 C.2.1 dL_load_6 rfl ?_
    refine x_outst hm C hW (v := u.2.1) (by first | rfl | decide) dL_load_7 (fun H locs hW => ?_)
    refine lv_goto (tgt := 14) C.1 C.2.1 dL_load_8 (by decide) ?_
    refine lv_iconst (v := 0) C.1 C.2.1 dL_load_14 (by decide) ?_
    exact x_iret C hW dL_load_15 rfl
set_option maxRecDepth 20000 in
set_option maxHeartbeats 1000000 in
theorem c_L_loadScript {l : Launch} (hlt : l.stackTraces = false) {Z : ZT} {h g : Hp} {out : Int32 × (Hp × Hp)} (hm : Z.2.2.2.2 1000 = 1) (hf : f_L_loadScript h g  = some out) : Met l yL_loadScript (wYW yL_loadScript cL_loadScript 3 (some .int) [(0, 8, 11, 13)]) (rmC 78 8) (va_Pc [.ref (Z.1 0), .ref (Z.1 145)] (Wd Z h g)) (va_Qi (fun r (_ : Unit) => r = out.1) (fun _ => Wd Z out.2.1 out.2.2) (FR Z)) 8 48 (FR Z) := by
  refine metXW RL rfl (by decide +kernel) (Nat.le_of_ble_eq_true rfl) ?_
  intro p e s m args below meth c C htab hW ls hl
  have hl : lv_has ls 3 [(0, .ref (Z.1 0)), (1, .ref (Z.1 145))] := hl
  unfold f_L_loadScript at hf
  obtain ⟨u, hc, hf⟩ := bnd_t hf
  refine lv_aload_n C.1 C.2.1 dL_loadScript_0 rfl (lv_at hl 1 rfl) ?_
  refine lv_iconst (v := 0) C.1 C.2.1 dL_loadScript_1 (by decide) ?_
  refine lv_aload_n C.1 C.2.1 dL_loadScript_2 rfl (lv_at hl 0 rfl) ?_
  refine x_tryI hW (x_runVx C hW hl (wk8 k_0) rfl rfl (c_X10_loadScript hlt hc) cw_L_15 ci_X10_loadScript cs_X10_loadScript (rm_okX (by decide) (by decide)) ⟨by decide, by decide⟩ (As := []) rfl rfl (Nat.le_of_ble_eq_true rfl) dL_loadScript_3) (fun hn H locs q ce hW hcell hv hcl => ?_) (fun hn H locs hW => ?_)
  · have hf := (if_neg hn).symm.trans hf
    rcases Classical.em (u.1 = 2) with ht | ht
    · obtain rfl := Option.some.inj ((if_pos ht).symm.trans hf)
      rw [ht] at hcl
      refine x_catch1 (tag := 2) C htab ⟨by decide, by decide⟩ (by decide) cl_L_13 (by decide) hcell hv hcl ?_
      refine lv_astore_n (lv' := [(2, .ref q), (0, .ref (Z.1 0)), (1, .ref (Z.1 145))]) C.1 C.2.1 dL_loadScript_11 rfl hl (by decide) rfl (fun ls hl => ?_)
      refine lv_iconst (v := 1) C.1 C.2.1 dL_loadScript_12 (by decide) ?_
      exact x_iret C hW dL_loadScript_13 rfl
    · have hf := (if_neg ht).symm.trans hf
      cases hf
  · have hf := (if_pos hn).symm.trans hf
    obtain rfl := Option.some.inj hf
    refine lv_i2l C.1 C.2.1 dL_loadScript_6 rfl ?_
    refine x_outst hm C hW (v := u.2.1) (by first | rfl | decide) dL_loadScript_7 (fun H locs hW => ?_)
    refine lv_goto (tgt := 14) C.1 C.2.1 dL_loadScript_8 (by decide) ?_
    refine lv_iconst (v := 0) C.1 C.2.1 dL_loadScript_14 (by decide) ?_
    exact x_iret C hW dL_loadScript_15 rfl
set_option maxRecDepth 20000 in
set_option maxHeartbeats 1000000 in
theorem c_L_wordField {l : Launch} (hlt : l.stackTraces = false) {Z : ZT} {h g : Hp} {p1 : Int32} {p2 : Int32} {out : Int32 × (Hp × Hp)} (hm : Z.2.2.2.2 1000 = 1) (hf : f_L_wordField h g p1 p2 = some out) : Met l yL_wordField (wYW yL_wordField cL_wordField 5 (some .int) [(0, 10, 13, 22)]) (rmC 10 8) (va_Pc [.ref (Z.1 0), .int p1, .int p2, .ref (Z.1 145)] (Wd Z h g)) (va_Qi (fun r (_ : Unit) => r = out.1) (fun _ => Wd Z out.2.1 out.2.2) (FR Z)) 8 48 (FR Z) := by
  refine metXW RL rfl (by decide +kernel) (Nat.le_of_ble_eq_true rfl) ?_
  intro p e s m args below meth c C htab hW ls hl
  have hl : lv_has ls 5 [(0, .ref (Z.1 0)), (1, .int p1), (2, .int p2), (3, .ref (Z.1 145))] := hl
  unfold f_L_wordField at hf
  obtain ⟨u, hc, hf⟩ := bnd_t hf
  refine lv_aload_n C.1 C.2.1 dL_wordField_0 rfl (lv_at hl 3 rfl) ?_
  refine lv_iconst (v := 0) C.1 C.2.1 dL_wordField_1 (by decide) ?_
  refine lv_aload_n C.1 C.2.1 dL_wordField_2 rfl (lv_at hl 0 rfl) ?_
  refine lv_iload_n C.1 C.2.1 dL_wordField_3 rfl (lv_at hl 1 rfl) ?_
  refine lv_iload_n C.1 C.2.1 dL_wordField_4 rfl (lv_at hl 2 rfl) ?_
  refine x_tryI hW (x_runVx C hW hl (wk8 k_0) rfl rfl (c_X10_wordField hlt hc) cw_L_18 ci_X10_wordField cs_X10_wordField (rm_okX (by decide) (by decide)) ⟨by decide, by decide⟩ (As := [.int p1, .int p2]) rfl rfl (Nat.le_of_ble_eq_true rfl) dL_wordField_5) (fun hn H locs q ce hW hcell hv hcl => ?_) (fun hn H locs hW => ?_)
  · have hf := (if_neg hn).symm.trans hf
    rcases Classical.em (u.1 = 1) with ht | ht
    · obtain rfl := Option.some.inj ((if_pos ht).symm.trans hf)
      rw [ht] at hcl
      refine x_catch1 (tag := 1) C htab ⟨by decide, by decide⟩ (by decide) cl_L_22 (by decide) hcell hv hcl ?_
      refine lv_astore (lv' := [(4, .ref q), (0, .ref (Z.1 0)), (1, .int p1), (2, .int p2), (3, .ref (Z.1 145))]) C.1 C.2.1 dL_wordField_13 hl (by decide) rfl (fun ls hl => ?_)
      refine lv_iconst (v := 1) C.1 C.2.1 dL_wordField_15 (by decide) ?_
      exact x_iret C hW dL_wordField_16 rfl
    · have hf := (if_neg ht).symm.trans hf
      cases hf
  · have hf := (if_pos hn).symm.trans hf
    obtain rfl := Option.some.inj hf
    refine lv_i2l C.1 C.2.1 dL_wordField_8 rfl ?_
    refine x_outst hm C hW (v := u.2) (by first | rfl | decide) dL_wordField_9 (fun H locs hW => ?_)
    refine lv_goto (tgt := 17) C.1 C.2.1 dL_wordField_10 (by decide) ?_
    refine lv_iconst (v := 0) C.1 C.2.1 dL_wordField_17 (by decide) ?_
    exact x_iret C hW dL_wordField_18 rfl
set_option maxRecDepth 20000 in
set_option maxHeartbeats 1000000 in
theorem c_L_isSameText {l : Launch} (hlt : l.stackTraces = false) {Z : ZT} {h g : Hp} {p1 : Int32} {p2 : Int32} {out : Int32 × (Hp × Hp)} (hm : Z.2.2.2.2 1000 = 1) (hf : f_L_isSameText h g p1 p2 = some out) : Met l yL_isSameText (wYW yL_isSameText cL_isSameText 5 (some .int) [(0, 17, 20, 22)]) (rmC 10 8) (va_Pc [.ref (Z.1 0), .int p1, .int p2, .ref (Z.1 145)] (Wd Z h g)) (va_Qi (fun r (_ : Unit) => r = out.1) (fun _ => Wd Z out.2.1 out.2.2) (FR Z)) 8 48 (FR Z) := by
  refine metXW RL rfl (by decide +kernel) (Nat.le_of_ble_eq_true rfl) ?_
  intro p e s m args below meth c C htab hW ls hl
  have hl : lv_has ls 5 [(0, .ref (Z.1 0)), (1, .int p1), (2, .int p2), (3, .ref (Z.1 145))] := hl
  unfold f_L_isSameText at hf
  obtain ⟨u, hc, hf⟩ := bnd_t hf
  refine lv_aload_n C.1 C.2.1 dL_isSameText_0 rfl (lv_at hl 3 rfl) ?_
  refine lv_iconst (v := 0) C.1 C.2.1 dL_isSameText_1 (by decide) ?_
  refine lv_aload_n C.1 C.2.1 dL_isSameText_2 rfl (lv_at hl 0 rfl) ?_
  refine lv_iload_n C.1 C.2.1 dL_isSameText_3 rfl (lv_at hl 1 rfl) ?_
  refine lv_iload_n C.1 C.2.1 dL_isSameText_4 rfl (lv_at hl 2 rfl) ?_
  refine x_tryI hW (x_runVx C hW hl (wk8 k_0) rfl rfl (c_X10_isSameText hlt hc) cw_L_24 ci_X10_isSameText cs_X10_isSameText (rm_okX (by decide) (by decide)) ⟨by decide, by decide⟩ (As := [.int p1, .int p2]) rfl rfl (Nat.le_of_ble_eq_true rfl) dL_isSameText_5) (fun hn H locs q ce hW hcell hv hcl => ?_) (fun hn H locs hW => ?_)
  · have hf := (if_neg hn).symm.trans hf
    rcases Classical.em (u.1 = 1) with ht | ht
    · obtain rfl := Option.some.inj ((if_pos ht).symm.trans hf)
      rw [ht] at hcl
      refine x_catch1 (tag := 1) C htab ⟨by decide, by decide⟩ (by decide) cl_L_22 (by decide) hcell hv hcl ?_
      refine lv_astore (lv' := [(4, .ref q), (0, .ref (Z.1 0)), (1, .int p1), (2, .int p2), (3, .ref (Z.1 145))]) C.1 C.2.1 dL_isSameText_20 hl (by decide) rfl (fun ls hl => ?_)
      refine lv_iconst (v := 1) C.1 C.2.1 dL_isSameText_22 (by decide) ?_
      exact x_iret C hW dL_isSameText_23 rfl
    · have hf := (if_neg ht).symm.trans hf
      cases hf
  · have hf := (if_pos hn).symm.trans hf
    refine x_ifeq (tgt := 15) C hf dL_isSameText_8 (by decide) (fun hf => ?_) (fun hf => ?_)
    · obtain rfl := Option.some.inj hf
      refine lv_lconst (v := 0) C.1 C.2.1 dL_isSameText_15 rfl ?_
      refine x_outst hm C hW (v := 0) (by first | rfl | decide) dL_isSameText_16 (fun H locs hW => ?_)
      refine lv_goto (tgt := 24) C.1 C.2.1 dL_isSameText_17 (by decide) ?_
      refine lv_iconst (v := 0) C.1 C.2.1 dL_isSameText_24 (by decide) ?_
      exact x_iret C hW dL_isSameText_25 rfl
    · obtain rfl := Option.some.inj hf
      refine lv_lconst (v := 1) C.1 C.2.1 dL_isSameText_11 rfl ?_
      refine lv_goto (tgt := 16) C.1 C.2.1 dL_isSameText_12 (by decide) ?_
      refine x_outst hm C hW (v := 1) (by first | rfl | decide) dL_isSameText_16 (fun H locs hW => ?_)
      refine lv_goto (tgt := 24) C.1 C.2.1 dL_isSameText_17 (by decide) ?_
      refine lv_iconst (v := 0) C.1 C.2.1 dL_isSameText_24 (by decide) ?_
      exact x_iret C hW dL_isSameText_25 rfl
set_option maxRecDepth 20000 in
set_option maxHeartbeats 1000000 in
theorem c_L_overlap {l : Launch} (hlt : l.stackTraces = false) {Z : ZT} {h g : Hp} {p1 : Int32} {p2 : Int32} {out : Int32 × (Hp × Hp)} (hm : Z.2.2.2.2 1000 = 1) (hf : f_L_overlap h g p1 p2 = some out) : Met l yL_overlap (wYW yL_overlap cL_overlap 5 (some .int) [(0, 17, 20, 22)]) (rmC 10 8) (va_Pc [.ref (Z.1 0), .int p1, .int p2, .ref (Z.1 145)] (Wd Z h g)) (va_Qi (fun r (_ : Unit) => r = out.1) (fun _ => Wd Z out.2.1 out.2.2) (FR Z)) 8 48 (FR Z) := by
  refine metXW RL rfl (by decide +kernel) (Nat.le_of_ble_eq_true rfl) ?_
  intro p e s m args below meth c C htab hW ls hl
  have hl : lv_has ls 5 [(0, .ref (Z.1 0)), (1, .int p1), (2, .int p2), (3, .ref (Z.1 145))] := hl
  unfold f_L_overlap at hf
  obtain ⟨u, hc, hf⟩ := bnd_t hf
  refine lv_aload_n C.1 C.2.1 dL_overlap_0 rfl (lv_at hl 3 rfl) ?_
  refine lv_iconst (v := 0) C.1 C.2.1 dL_overlap_1 (by decide) ?_
  refine lv_aload_n C.1 C.2.1 dL_overlap_2 rfl (lv_at hl 0 rfl) ?_
  refine lv_iload_n C.1 C.2.1 dL_overlap_3 rfl (lv_at hl 1 rfl) ?_
  refine lv_iload_n C.1 C.2.1 dL_overlap_4 rfl (lv_at hl 2 rfl) ?_
  refine x_tryI hW (x_runVx C hW hl (wk8 k_0) rfl rfl (c_X10_overlap hlt hc) cw_L_28 ci_X10_overlap cs_X10_overlap (rm_okX (by decide) (by decide)) ⟨by decide, by decide⟩ (As := [.int p1, .int p2]) rfl rfl (Nat.le_of_ble_eq_true rfl) dL_overlap_5) (fun hn H locs q ce hW hcell hv hcl => ?_) (fun hn H locs hW => ?_)
  · have hf := (if_neg hn).symm.trans hf
    rcases Classical.em (u.1 = 1) with ht | ht
    · obtain rfl := Option.some.inj ((if_pos ht).symm.trans hf)
      rw [ht] at hcl
      refine x_catch1 (tag := 1) C htab ⟨by decide, by decide⟩ (by decide) cl_L_22 (by decide) hcell hv hcl ?_
      refine lv_astore (lv' := [(4, .ref q), (0, .ref (Z.1 0)), (1, .int p1), (2, .int p2), (3, .ref (Z.1 145))]) C.1 C.2.1 dL_overlap_20 hl (by decide) rfl (fun ls hl => ?_)
      refine lv_iconst (v := 1) C.1 C.2.1 dL_overlap_22 (by decide) ?_
      exact x_iret C hW dL_overlap_23 rfl
    · have hf := (if_neg ht).symm.trans hf
      cases hf
  · have hf := (if_pos hn).symm.trans hf
    refine x_ifeq (tgt := 15) C hf dL_overlap_8 (by decide) (fun hf => ?_) (fun hf => ?_)
    · obtain rfl := Option.some.inj hf
      refine lv_lconst (v := 0) C.1 C.2.1 dL_overlap_15 rfl ?_
      refine x_outst hm C hW (v := 0) (by first | rfl | decide) dL_overlap_16 (fun H locs hW => ?_)
      refine lv_goto (tgt := 24) C.1 C.2.1 dL_overlap_17 (by decide) ?_
      refine lv_iconst (v := 0) C.1 C.2.1 dL_overlap_24 (by decide) ?_
      exact x_iret C hW dL_overlap_25 rfl
    · obtain rfl := Option.some.inj hf
      refine lv_lconst (v := 1) C.1 C.2.1 dL_overlap_11 rfl ?_
      refine lv_goto (tgt := 16) C.1 C.2.1 dL_overlap_12 (by decide) ?_
      refine x_outst hm C hW (v := 1) (by first | rfl | decide) dL_overlap_16 (fun H locs hW => ?_)
      refine lv_goto (tgt := 24) C.1 C.2.1 dL_overlap_17 (by decide) ?_
      refine lv_iconst (v := 0) C.1 C.2.1 dL_overlap_24 (by decide) ?_
      exact x_iret C hW dL_overlap_25 rfl
set_option maxRecDepth 20000 in
set_option maxHeartbeats 1000000 in
theorem c_L_blockField {l : Launch} (hlt : l.stackTraces = false) {Z : ZT} {h g : Hp} {p1 : Int32} {p2 : Int32} {out : Int32 × (Hp × Hp)} (hm : Z.2.2.2.2 1000 = 1) (hf : f_L_blockField h g p1 p2 = some out) : Met l yL_blockField (wYW yL_blockField cL_blockField 5 (some .int) [(0, 10, 13, 22)]) (rmC 10 8) (va_Pc [.ref (Z.1 0), .int p1, .int p2, .ref (Z.1 145)] (Wd Z h g)) (va_Qi (fun r (_ : Unit) => r = out.1) (fun _ => Wd Z out.2.1 out.2.2) (FR Z)) 8 48 (FR Z) := by
  refine metXW RL rfl (by decide +kernel) (Nat.le_of_ble_eq_true rfl) ?_
  intro p e s m args below meth c C htab hW ls hl
  have hl : lv_has ls 5 [(0, .ref (Z.1 0)), (1, .int p1), (2, .int p2), (3, .ref (Z.1 145))] := hl
  unfold f_L_blockField at hf
  obtain ⟨u, hc, hf⟩ := bnd_t hf
  refine lv_aload_n C.1 C.2.1 dL_blockField_0 rfl (lv_at hl 3 rfl) ?_
  refine lv_iconst (v := 0) C.1 C.2.1 dL_blockField_1 (by decide) ?_
  refine lv_aload_n C.1 C.2.1 dL_blockField_2 rfl (lv_at hl 0 rfl) ?_
  refine lv_iload_n C.1 C.2.1 dL_blockField_3 rfl (lv_at hl 1 rfl) ?_
  refine lv_iload_n C.1 C.2.1 dL_blockField_4 rfl (lv_at hl 2 rfl) ?_
  refine x_tryI hW (x_runVx C hW hl (wk8 k_0) rfl rfl (c_X10_blockField hlt hc) cw_L_31 ci_X10_blockField cs_X10_blockField (rm_okX (by decide) (by decide)) ⟨by decide, by decide⟩ (As := [.int p1, .int p2]) rfl rfl (Nat.le_of_ble_eq_true rfl) dL_blockField_5) (fun hn H locs q ce hW hcell hv hcl => ?_) (fun hn H locs hW => ?_)
  · have hf := (if_neg hn).symm.trans hf
    rcases Classical.em (u.1 = 1) with ht | ht
    · obtain rfl := Option.some.inj ((if_pos ht).symm.trans hf)
      rw [ht] at hcl
      refine x_catch1 (tag := 1) C htab ⟨by decide, by decide⟩ (by decide) cl_L_22 (by decide) hcell hv hcl ?_
      refine lv_astore (lv' := [(4, .ref q), (0, .ref (Z.1 0)), (1, .int p1), (2, .int p2), (3, .ref (Z.1 145))]) C.1 C.2.1 dL_blockField_13 hl (by decide) rfl (fun ls hl => ?_)
      refine lv_iconst (v := 1) C.1 C.2.1 dL_blockField_15 (by decide) ?_
      exact x_iret C hW dL_blockField_16 rfl
    · have hf := (if_neg ht).symm.trans hf
      cases hf
  · have hf := (if_pos hn).symm.trans hf
    obtain rfl := Option.some.inj hf
    refine lv_i2l C.1 C.2.1 dL_blockField_8 rfl ?_
    refine x_outst hm C hW (v := u.2) (by first | rfl | decide) dL_blockField_9 (fun H locs hW => ?_)
    refine lv_goto (tgt := 17) C.1 C.2.1 dL_blockField_10 (by decide) ?_
    refine lv_iconst (v := 0) C.1 C.2.1 dL_blockField_17 (by decide) ?_
    exact x_iret C hW dL_blockField_18 rfl
set_option maxRecDepth 20000 in
set_option maxHeartbeats 1000000 in
theorem c_L_isSnapped {l : Launch} (hlt : l.stackTraces = false) {Z : ZT} {h g : Hp} {p1 : Int32} {out : Int32 × (Hp × Hp)} (hm : Z.2.2.2.2 1000 = 1) (hf : f_L_isSnapped h g p1 = some out) : Met l yL_isSnapped (wYW yL_isSnapped cL_isSnapped 4 (some .int) [(0, 16, 19, 22)]) (rmC 10 8) (va_Pc [.ref (Z.1 0), .int p1, .ref (Z.1 145)] (Wd Z h g)) (va_Qi (fun r (_ : Unit) => r = out.1) (fun _ => Wd Z out.2.1 out.2.2) (FR Z)) 8 48 (FR Z) := by
  refine metXW RL rfl (by decide +kernel) (Nat.le_of_ble_eq_true rfl) ?_
  intro p e s m args below meth c C htab hW ls hl
  have hl : lv_has ls 4 [(0, .ref (Z.1 0)), (1, .int p1), (2, .ref (Z.1 145))] := hl
  unfold f_L_isSnapped at hf
  obtain ⟨u, hc, hf⟩ := bnd_t hf
  refine lv_aload_n C.1 C.2.1 dL_isSnapped_0 rfl (lv_at hl 2 rfl) ?_
  refine lv_iconst (v := 0) C.1 C.2.1 dL_isSnapped_1 (by decide) ?_
  refine lv_aload_n C.1 C.2.1 dL_isSnapped_2 rfl (lv_at hl 0 rfl) ?_
  refine lv_iload_n C.1 C.2.1 dL_isSnapped_3 rfl (lv_at hl 1 rfl) ?_
  refine x_tryI hW (x_runVx C hW hl (wk8 k_0) rfl rfl (c_X10_isSnapped hlt hc) cw_L_34 ci_X10_isSnapped cs_X10_isSnapped (rm_okX (by decide) (by decide)) ⟨by decide, by decide⟩ (As := [.int p1]) rfl rfl (Nat.le_of_ble_eq_true rfl) dL_isSnapped_4) (fun hn H locs q ce hW hcell hv hcl => ?_) (fun hn H locs hW => ?_)
  · have hf := (if_neg hn).symm.trans hf
    rcases Classical.em (u.1 = 1) with ht | ht
    · obtain rfl := Option.some.inj ((if_pos ht).symm.trans hf)
      rw [ht] at hcl
      refine x_catch1 (tag := 1) C htab ⟨by decide, by decide⟩ (by decide) cl_L_22 (by decide) hcell hv hcl ?_
      refine lv_astore_n (lv' := [(3, .ref q), (0, .ref (Z.1 0)), (1, .int p1), (2, .ref (Z.1 145))]) C.1 C.2.1 dL_isSnapped_19 rfl hl (by decide) rfl (fun ls hl => ?_)
      refine lv_iconst (v := 1) C.1 C.2.1 dL_isSnapped_20 (by decide) ?_
      exact x_iret C hW dL_isSnapped_21 rfl
    · have hf := (if_neg ht).symm.trans hf
      cases hf
  · have hf := (if_pos hn).symm.trans hf
    refine x_ifeq (tgt := 14) C hf dL_isSnapped_7 (by decide) (fun hf => ?_) (fun hf => ?_)
    · obtain rfl := Option.some.inj hf
      refine lv_lconst (v := 0) C.1 C.2.1 dL_isSnapped_14 rfl ?_
      refine x_outst hm C hW (v := 0) (by first | rfl | decide) dL_isSnapped_15 (fun H locs hW => ?_)
      refine lv_goto (tgt := 22) C.1 C.2.1 dL_isSnapped_16 (by decide) ?_
      refine lv_iconst (v := 0) C.1 C.2.1 dL_isSnapped_22 (by decide) ?_
      exact x_iret C hW dL_isSnapped_23 rfl
    · obtain rfl := Option.some.inj hf
      refine lv_lconst (v := 1) C.1 C.2.1 dL_isSnapped_10 rfl ?_
      refine lv_goto (tgt := 15) C.1 C.2.1 dL_isSnapped_11 (by decide) ?_
      refine x_outst hm C hW (v := 1) (by first | rfl | decide) dL_isSnapped_15 (fun H locs hW => ?_)
      refine lv_goto (tgt := 22) C.1 C.2.1 dL_isSnapped_16 (by decide) ?_
      refine lv_iconst (v := 0) C.1 C.2.1 dL_isSnapped_22 (by decide) ?_
      exact x_iret C hW dL_isSnapped_23 rfl
set_option maxRecDepth 20000 in
set_option maxHeartbeats 1000000 in
theorem c_L_blockOf {l : Launch} (hlt : l.stackTraces = false) {Z : ZT} {h g : Hp} {p1 : Int32} {out : Int32 × (Hp × Hp)} (hm : Z.2.2.2.2 1000 = 1) (hf : f_L_blockOf h g p1 = some out) : Met l yL_blockOf (wYW yL_blockOf cL_blockOf 4 (some .int) [(0, 9, 12, 22)]) (rmC 10 8) (va_Pc [.ref (Z.1 0), .int p1, .ref (Z.1 145)] (Wd Z h g)) (va_Qi (fun r (_ : Unit) => r = out.1) (fun _ => Wd Z out.2.1 out.2.2) (FR Z)) 8 48 (FR Z) := by
  refine metXW RL rfl (by decide +kernel) (Nat.le_of_ble_eq_true rfl) ?_
  intro p e s m args below meth c C htab hW ls hl
  have hl : lv_has ls 4 [(0, .ref (Z.1 0)), (1, .int p1), (2, .ref (Z.1 145))] := hl
  unfold f_L_blockOf at hf
  obtain ⟨u, hc, hf⟩ := bnd_t hf
  refine lv_aload_n C.1 C.2.1 dL_blockOf_0 rfl (lv_at hl 2 rfl) ?_
  refine lv_iconst (v := 0) C.1 C.2.1 dL_blockOf_1 (by decide) ?_
  refine lv_aload_n C.1 C.2.1 dL_blockOf_2 rfl (lv_at hl 0 rfl) ?_
  refine lv_iload_n C.1 C.2.1 dL_blockOf_3 rfl (lv_at hl 1 rfl) ?_
  refine x_tryI hW (x_runVx C hW hl (wk8 k_0) rfl rfl (c_X10_blockOf hlt hc) cw_L_38 ci_X10_blockOf cs_X10_blockOf (rm_okX (by decide) (by decide)) ⟨by decide, by decide⟩ (As := [.int p1]) rfl rfl (Nat.le_of_ble_eq_true rfl) dL_blockOf_4) (fun hn H locs q ce hW hcell hv hcl => ?_) (fun hn H locs hW => ?_)
  · have hf := (if_neg hn).symm.trans hf
    rcases Classical.em (u.1 = 1) with ht | ht
    · obtain rfl := Option.some.inj ((if_pos ht).symm.trans hf)
      rw [ht] at hcl
      refine x_catch1 (tag := 1) C htab ⟨by decide, by decide⟩ (by decide) cl_L_22 (by decide) hcell hv hcl ?_
      refine lv_astore_n (lv' := [(3, .ref q), (0, .ref (Z.1 0)), (1, .int p1), (2, .ref (Z.1 145))]) C.1 C.2.1 dL_blockOf_12 rfl hl (by decide) rfl (fun ls hl => ?_)
      refine lv_iconst (v := 1) C.1 C.2.1 dL_blockOf_13 (by decide) ?_
      exact x_iret C hW dL_blockOf_14 rfl
    · have hf := (if_neg ht).symm.trans hf
      cases hf
  · have hf := (if_pos hn).symm.trans hf
    obtain rfl := Option.some.inj hf
    refine lv_i2l C.1 C.2.1 dL_blockOf_7 rfl ?_
    refine x_outst hm C hW (v := u.2) (by first | rfl | decide) dL_blockOf_8 (fun H locs hW => ?_)
    refine lv_goto (tgt := 15) C.1 C.2.1 dL_blockOf_9 (by decide) ?_
    refine lv_iconst (v := 0) C.1 C.2.1 dL_blockOf_15 (by decide) ?_
    exact x_iret C hW dL_blockOf_16 rfl
set_option maxRecDepth 20000 in
set_option maxHeartbeats 1000000 in
theorem c_L_shotField {l : Launch} (hlt : l.stackTraces = false) {Z : ZT} {h g : Hp} {p1 : Int32} {p2 : Int32} {out : Int32 × (Hp × Hp)} (hm : Z.2.2.2.2 1000 = 1) (hf : f_L_shotField h g p1 p2 = some out) : Met l yL_shotField (wYW yL_shotField cL_shotField 5 (some .int) [(0, 10, 13, 22)]) (rmC 10 8) (va_Pc [.ref (Z.1 0), .int p1, .int p2, .ref (Z.1 145)] (Wd Z h g)) (va_Qi (fun r (_ : Unit) => r = out.1) (fun _ => Wd Z out.2.1 out.2.2) (FR Z)) 8 48 (FR Z) := by
  refine metXW RL rfl (by decide +kernel) (Nat.le_of_ble_eq_true rfl) ?_
  intro p e s m args below meth c C htab hW ls hl
  have hl : lv_has ls 5 [(0, .ref (Z.1 0)), (1, .int p1), (2, .int p2), (3, .ref (Z.1 145))] := hl
  unfold f_L_shotField at hf
  obtain ⟨u, hc, hf⟩ := bnd_t hf
  refine lv_aload_n C.1 C.2.1 dL_shotField_0 rfl (lv_at hl 3 rfl) ?_
  refine lv_iconst (v := 0) C.1 C.2.1 dL_shotField_1 (by decide) ?_
  refine lv_aload_n C.1 C.2.1 dL_shotField_2 rfl (lv_at hl 0 rfl) ?_
  refine lv_iload_n C.1 C.2.1 dL_shotField_3 rfl (lv_at hl 1 rfl) ?_
  refine lv_iload_n C.1 C.2.1 dL_shotField_4 rfl (lv_at hl 2 rfl) ?_
  refine x_tryI hW (x_runVx C hW hl (wk8 k_0) rfl rfl (c_X10_shotField hlt hc) cw_L_42 ci_X10_shotField cs_X10_shotField (rm_okX (by decide) (by decide)) ⟨by decide, by decide⟩ (As := [.int p1, .int p2]) rfl rfl (Nat.le_of_ble_eq_true rfl) dL_shotField_5) (fun hn H locs q ce hW hcell hv hcl => ?_) (fun hn H locs hW => ?_)
  · have hf := (if_neg hn).symm.trans hf
    rcases Classical.em (u.1 = 1) with ht | ht
    · obtain rfl := Option.some.inj ((if_pos ht).symm.trans hf)
      rw [ht] at hcl
      refine x_catch1 (tag := 1) C htab ⟨by decide, by decide⟩ (by decide) cl_L_22 (by decide) hcell hv hcl ?_
      refine lv_astore (lv' := [(4, .ref q), (0, .ref (Z.1 0)), (1, .int p1), (2, .int p2), (3, .ref (Z.1 145))]) C.1 C.2.1 dL_shotField_13 hl (by decide) rfl (fun ls hl => ?_)
      refine lv_iconst (v := 1) C.1 C.2.1 dL_shotField_15 (by decide) ?_
      exact x_iret C hW dL_shotField_16 rfl
    · have hf := (if_neg ht).symm.trans hf
      cases hf
  · have hf := (if_pos hn).symm.trans hf
    obtain rfl := Option.some.inj hf
    refine lv_i2l C.1 C.2.1 dL_shotField_8 rfl ?_
    refine x_outst hm C hW (v := u.2) (by first | rfl | decide) dL_shotField_9 (fun H locs hW => ?_)
    refine lv_goto (tgt := 17) C.1 C.2.1 dL_shotField_10 (by decide) ?_
    refine lv_iconst (v := 0) C.1 C.2.1 dL_shotField_17 (by decide) ?_
    exact x_iret C hW dL_shotField_18 rfl
set_option maxRecDepth 20000 in
set_option maxHeartbeats 1000000 in
theorem c_L_heard {l : Launch} (hlt : l.stackTraces = false) {Z : ZT} {h g : Hp} {p1 : Int32} {p2 : Int32} {out : Int32 × (Hp × Hp)} (hm : Z.2.2.2.2 1000 = 1) (hf : f_L_heard h g p1 p2 = some out) : Met l yL_heard (wYW yL_heard cL_heard 5 (some .int) [(0, 10, 13, 22)]) (rmC 10 8) (va_Pc [.ref (Z.1 0), .int p1, .int p2, .ref (Z.1 145)] (Wd Z h g)) (va_Qi (fun r (_ : Unit) => r = out.1) (fun _ => Wd Z out.2.1 out.2.2) (FR Z)) 8 48 (FR Z) := by
  refine metXW RL rfl (by decide +kernel) (Nat.le_of_ble_eq_true rfl) ?_
  intro p e s m args below meth c C htab hW ls hl
  have hl : lv_has ls 5 [(0, .ref (Z.1 0)), (1, .int p1), (2, .int p2), (3, .ref (Z.1 145))] := hl
  unfold f_L_heard at hf
  obtain ⟨u, hc, hf⟩ := bnd_t hf
  refine lv_aload_n C.1 C.2.1 dL_heard_0 rfl (lv_at hl 3 rfl) ?_
  refine lv_iconst (v := 0) C.1 C.2.1 dL_heard_1 (by decide) ?_
  refine lv_aload_n C.1 C.2.1 dL_heard_2 rfl (lv_at hl 0 rfl) ?_
  refine lv_iload_n C.1 C.2.1 dL_heard_3 rfl (lv_at hl 1 rfl) ?_
  refine lv_iload_n C.1 C.2.1 dL_heard_4 rfl (lv_at hl 2 rfl) ?_
  refine x_tryI hW (x_runVx C hW hl (wk8 k_0) rfl rfl (c_X10_heard hlt hc) cw_L_45 ci_X10_heard cs_X10_heard (rm_okX (by decide) (by decide)) ⟨by decide, by decide⟩ (As := [.int p1, .int p2]) rfl rfl (Nat.le_of_ble_eq_true rfl) dL_heard_5) (fun hn H locs q ce hW hcell hv hcl => ?_) (fun hn H locs hW => ?_)
  · have hf := (if_neg hn).symm.trans hf
    rcases Classical.em (u.1 = 1) with ht | ht
    · obtain rfl := Option.some.inj ((if_pos ht).symm.trans hf)
      rw [ht] at hcl
      refine x_catch1 (tag := 1) C htab ⟨by decide, by decide⟩ (by decide) cl_L_22 (by decide) hcell hv hcl ?_
      refine lv_astore (lv' := [(4, .ref q), (0, .ref (Z.1 0)), (1, .int p1), (2, .int p2), (3, .ref (Z.1 145))]) C.1 C.2.1 dL_heard_13 hl (by decide) rfl (fun ls hl => ?_)
      refine lv_iconst (v := 1) C.1 C.2.1 dL_heard_15 (by decide) ?_
      exact x_iret C hW dL_heard_16 rfl
    · have hf := (if_neg ht).symm.trans hf
      cases hf
  · have hf := (if_pos hn).symm.trans hf
    obtain rfl := Option.some.inj hf
    refine lv_i2l C.1 C.2.1 dL_heard_8 rfl ?_
    refine x_outst hm C hW (v := u.2) (by first | rfl | decide) dL_heard_9 (fun H locs hW => ?_)
    refine lv_goto (tgt := 17) C.1 C.2.1 dL_heard_10 (by decide) ?_
    refine lv_iconst (v := 0) C.1 C.2.1 dL_heard_17 (by decide) ?_
    exact x_iret C hW dL_heard_18 rfl
set_option maxRecDepth 20000 in
set_option maxHeartbeats 1000000 in
theorem c_L_speakingTime {l : Launch} (hlt : l.stackTraces = false) {Z : ZT} {h g : Hp} {p1 : Int32} {out : Int32 × (Hp × Hp)} (hm : Z.2.2.2.2 1000 = 1) (hf : f_L_speakingTime h g p1 = some out) : Met l yL_speakingTime (wYW yL_speakingTime cL_speakingTime 4 (some .int) [(0, 9, 12, 22)]) (rmC 10 8) (va_Pc [.ref (Z.1 0), .int p1, .ref (Z.1 145)] (Wd Z h g)) (va_Qi (fun r (_ : Unit) => r = out.1) (fun _ => Wd Z out.2.1 out.2.2) (FR Z)) 8 48 (FR Z) := by
  refine metXW RL rfl (by decide +kernel) (Nat.le_of_ble_eq_true rfl) ?_
  intro p e s m args below meth c C htab hW ls hl
  have hl : lv_has ls 4 [(0, .ref (Z.1 0)), (1, .int p1), (2, .ref (Z.1 145))] := hl
  unfold f_L_speakingTime at hf
  obtain ⟨u, hc, hf⟩ := bnd_t hf
  refine lv_aload_n C.1 C.2.1 dL_speakingTime_0 rfl (lv_at hl 2 rfl) ?_
  refine lv_iconst (v := 0) C.1 C.2.1 dL_speakingTime_1 (by decide) ?_
  refine lv_aload_n C.1 C.2.1 dL_speakingTime_2 rfl (lv_at hl 0 rfl) ?_
  refine lv_iload_n C.1 C.2.1 dL_speakingTime_3 rfl (lv_at hl 1 rfl) ?_
  refine x_tryI hW (x_runVx C hW hl (wk8 k_0) rfl rfl (c_X10_speakingTime hlt hc) cw_L_48 ci_X10_speakingTime cs_X10_speakingTime (rm_okX (by decide) (by decide)) ⟨by decide, by decide⟩ (As := [.int p1]) rfl rfl (Nat.le_of_ble_eq_true rfl) dL_speakingTime_4) (fun hn H locs q ce hW hcell hv hcl => ?_) (fun hn H locs hW => ?_)
  · have hf := (if_neg hn).symm.trans hf
    rcases Classical.em (u.1 = 1) with ht | ht
    · obtain rfl := Option.some.inj ((if_pos ht).symm.trans hf)
      rw [ht] at hcl
      refine x_catch1 (tag := 1) C htab ⟨by decide, by decide⟩ (by decide) cl_L_22 (by decide) hcell hv hcl ?_
      refine lv_astore_n (lv' := [(3, .ref q), (0, .ref (Z.1 0)), (1, .int p1), (2, .ref (Z.1 145))]) C.1 C.2.1 dL_speakingTime_12 rfl hl (by decide) rfl (fun ls hl => ?_)
      refine lv_iconst (v := 1) C.1 C.2.1 dL_speakingTime_13 (by decide) ?_
      exact x_iret C hW dL_speakingTime_14 rfl
    · have hf := (if_neg ht).symm.trans hf
      cases hf
  · have hf := (if_pos hn).symm.trans hf
    obtain rfl := Option.some.inj hf
    refine lv_i2l C.1 C.2.1 dL_speakingTime_7 rfl ?_
    refine x_outst hm C hW (v := u.2) (by first | rfl | decide) dL_speakingTime_8 (fun H locs hW => ?_)
    refine lv_goto (tgt := 15) C.1 C.2.1 dL_speakingTime_9 (by decide) ?_
    refine lv_iconst (v := 0) C.1 C.2.1 dL_speakingTime_15 (by decide) ?_
    exact x_iret C hW dL_speakingTime_16 rfl
set_option maxRecDepth 20000 in
set_option maxHeartbeats 1000000 in
theorem c_L_placeOf {l : Launch} (hlt : l.stackTraces = false) {Z : ZT} {h g : Hp} {p1 : Int32} {out : Int32 × (Hp × Hp)} (hm : Z.2.2.2.2 1000 = 1) (hf : f_L_placeOf h g p1 = some out) : Met l yL_placeOf (wYW yL_placeOf cL_placeOf 4 (some .int) [(0, 9, 12, 22)]) (rmC 10 8) (va_Pc [.ref (Z.1 0), .int p1, .ref (Z.1 145)] (Wd Z h g)) (va_Qi (fun r (_ : Unit) => r = out.1) (fun _ => Wd Z out.2.1 out.2.2) (FR Z)) 8 48 (FR Z) := by
  refine metXW RL rfl (by decide +kernel) (Nat.le_of_ble_eq_true rfl) ?_
  intro p e s m args below meth c C htab hW ls hl
  have hl : lv_has ls 4 [(0, .ref (Z.1 0)), (1, .int p1), (2, .ref (Z.1 145))] := hl
  unfold f_L_placeOf at hf
  obtain ⟨u, hc, hf⟩ := bnd_t hf
  refine lv_aload_n C.1 C.2.1 dL_placeOf_0 rfl (lv_at hl 2 rfl) ?_
  refine lv_iconst (v := 0) C.1 C.2.1 dL_placeOf_1 (by decide) ?_
  refine lv_aload_n C.1 C.2.1 dL_placeOf_2 rfl (lv_at hl 0 rfl) ?_
  refine lv_iload_n C.1 C.2.1 dL_placeOf_3 rfl (lv_at hl 1 rfl) ?_
  refine x_tryI hW (x_runVx C hW hl (wk8 k_0) rfl rfl (c_X10_placeOf hlt hc) cw_L_51 ci_X10_placeOf cs_X10_placeOf (rm_okX (by decide) (by decide)) ⟨by decide, by decide⟩ (As := [.int p1]) rfl rfl (Nat.le_of_ble_eq_true rfl) dL_placeOf_4) (fun hn H locs q ce hW hcell hv hcl => ?_) (fun hn H locs hW => ?_)
  · have hf := (if_neg hn).symm.trans hf
    rcases Classical.em (u.1 = 1) with ht | ht
    · obtain rfl := Option.some.inj ((if_pos ht).symm.trans hf)
      rw [ht] at hcl
      refine x_catch1 (tag := 1) C htab ⟨by decide, by decide⟩ (by decide) cl_L_22 (by decide) hcell hv hcl ?_
      refine lv_astore_n (lv' := [(3, .ref q), (0, .ref (Z.1 0)), (1, .int p1), (2, .ref (Z.1 145))]) C.1 C.2.1 dL_placeOf_12 rfl hl (by decide) rfl (fun ls hl => ?_)
      refine lv_iconst (v := 1) C.1 C.2.1 dL_placeOf_13 (by decide) ?_
      exact x_iret C hW dL_placeOf_14 rfl
    · have hf := (if_neg ht).symm.trans hf
      cases hf
  · have hf := (if_pos hn).symm.trans hf
    obtain rfl := Option.some.inj hf
    refine lv_i2l C.1 C.2.1 dL_placeOf_7 rfl ?_
    refine x_outst hm C hW (v := u.2) (by first | rfl | decide) dL_placeOf_8 (fun H locs hW => ?_)
    refine lv_goto (tgt := 15) C.1 C.2.1 dL_placeOf_9 (by decide) ?_
    refine lv_iconst (v := 0) C.1 C.2.1 dL_placeOf_15 (by decide) ?_
    exact x_iret C hW dL_placeOf_16 rfl
set_option maxRecDepth 20000 in
set_option maxHeartbeats 1000000 in
theorem c_L_startInFilm {l : Launch} (hlt : l.stackTraces = false) {Z : ZT} {h g : Hp} {p1 : Int32} {out : Int32 × (Hp × Hp)} (hm : Z.2.2.2.2 1000 = 1) (hf : f_L_startInFilm h g p1 = some out) : Met l yL_startInFilm (wYW yL_startInFilm cL_startInFilm 4 (some .int) [(0, 9, 12, 22)]) (rmC 10 8) (va_Pc [.ref (Z.1 0), .int p1, .ref (Z.1 145)] (Wd Z h g)) (va_Qi (fun r (_ : Unit) => r = out.1) (fun _ => Wd Z out.2.1 out.2.2) (FR Z)) 8 48 (FR Z) := by
  refine metXW RL rfl (by decide +kernel) (Nat.le_of_ble_eq_true rfl) ?_
  intro p e s m args below meth c C htab hW ls hl
  have hl : lv_has ls 4 [(0, .ref (Z.1 0)), (1, .int p1), (2, .ref (Z.1 145))] := hl
  unfold f_L_startInFilm at hf
  obtain ⟨u, hc, hf⟩ := bnd_t hf
  refine lv_aload_n C.1 C.2.1 dL_startInFilm_0 rfl (lv_at hl 2 rfl) ?_
  refine lv_iconst (v := 0) C.1 C.2.1 dL_startInFilm_1 (by decide) ?_
  refine lv_aload_n C.1 C.2.1 dL_startInFilm_2 rfl (lv_at hl 0 rfl) ?_
  refine lv_iload_n C.1 C.2.1 dL_startInFilm_3 rfl (lv_at hl 1 rfl) ?_
  refine x_tryI hW (x_runVx C hW hl (wk8 k_0) rfl rfl (c_X10_startInFilm hlt hc) cw_L_54 ci_X10_startInFilm cs_X10_startInFilm (rm_okX (by decide) (by decide)) ⟨by decide, by decide⟩ (As := [.int p1]) rfl rfl (Nat.le_of_ble_eq_true rfl) dL_startInFilm_4) (fun hn H locs q ce hW hcell hv hcl => ?_) (fun hn H locs hW => ?_)
  · have hf := (if_neg hn).symm.trans hf
    rcases Classical.em (u.1 = 1) with ht | ht
    · obtain rfl := Option.some.inj ((if_pos ht).symm.trans hf)
      rw [ht] at hcl
      refine x_catch1 (tag := 1) C htab ⟨by decide, by decide⟩ (by decide) cl_L_22 (by decide) hcell hv hcl ?_
      refine lv_astore_n (lv' := [(3, .ref q), (0, .ref (Z.1 0)), (1, .int p1), (2, .ref (Z.1 145))]) C.1 C.2.1 dL_startInFilm_12 rfl hl (by decide) rfl (fun ls hl => ?_)
      refine lv_iconst (v := 1) C.1 C.2.1 dL_startInFilm_13 (by decide) ?_
      exact x_iret C hW dL_startInFilm_14 rfl
    · have hf := (if_neg ht).symm.trans hf
      cases hf
  · have hf := (if_pos hn).symm.trans hf
    obtain rfl := Option.some.inj hf
    refine lv_i2l C.1 C.2.1 dL_startInFilm_7 rfl ?_
    refine x_outst hm C hW (v := u.2) (by first | rfl | decide) dL_startInFilm_8 (fun H locs hW => ?_)
    refine lv_goto (tgt := 15) C.1 C.2.1 dL_startInFilm_9 (by decide) ?_
    refine lv_iconst (v := 0) C.1 C.2.1 dL_startInFilm_15 (by decide) ?_
    exact x_iret C hW dL_startInFilm_16 rfl
set_option maxRecDepth 20000 in
set_option maxHeartbeats 1000000 in
theorem c_L_occurrences {l : Launch} (hlt : l.stackTraces = false) {Z : ZT} {h g : Hp} {p1 : Int32} {out : Int32 × (Hp × Hp)} (hm : Z.2.2.2.2 1000 = 1) (hf : f_L_occurrences h g p1 = some out) : Met l yL_occurrences (wYW yL_occurrences cL_occurrences 4 (some .int) [(0, 9, 12, 22)]) (rmC 10 8) (va_Pc [.ref (Z.1 0), .int p1, .ref (Z.1 145)] (Wd Z h g)) (va_Qi (fun r (_ : Unit) => r = out.1) (fun _ => Wd Z out.2.1 out.2.2) (FR Z)) 8 48 (FR Z) := by
  refine metXW RL rfl (by decide +kernel) (Nat.le_of_ble_eq_true rfl) ?_
  intro p e s m args below meth c C htab hW ls hl
  have hl : lv_has ls 4 [(0, .ref (Z.1 0)), (1, .int p1), (2, .ref (Z.1 145))] := hl
  unfold f_L_occurrences at hf
  obtain ⟨u, hc, hf⟩ := bnd_t hf
  refine lv_aload_n C.1 C.2.1 dL_occurrences_0 rfl (lv_at hl 2 rfl) ?_
  refine lv_iconst (v := 0) C.1 C.2.1 dL_occurrences_1 (by decide) ?_
  refine lv_aload_n C.1 C.2.1 dL_occurrences_2 rfl (lv_at hl 0 rfl) ?_
  refine lv_iload_n C.1 C.2.1 dL_occurrences_3 rfl (lv_at hl 1 rfl) ?_
  refine x_tryI hW (x_runVx C hW hl (wk8 k_0) rfl rfl (c_X10_occurrences hlt hc) cw_L_57 ci_X10_occurrences cs_X10_occurrences (rm_okX (by decide) (by decide)) ⟨by decide, by decide⟩ (As := [.int p1]) rfl rfl (Nat.le_of_ble_eq_true rfl) dL_occurrences_4) (fun hn H locs q ce hW hcell hv hcl => ?_) (fun hn H locs hW => ?_)
  · have hf := (if_neg hn).symm.trans hf
    rcases Classical.em (u.1 = 1) with ht | ht
    · obtain rfl := Option.some.inj ((if_pos ht).symm.trans hf)
      rw [ht] at hcl
      refine x_catch1 (tag := 1) C htab ⟨by decide, by decide⟩ (by decide) cl_L_22 (by decide) hcell hv hcl ?_
      refine lv_astore_n (lv' := [(3, .ref q), (0, .ref (Z.1 0)), (1, .int p1), (2, .ref (Z.1 145))]) C.1 C.2.1 dL_occurrences_12 rfl hl (by decide) rfl (fun ls hl => ?_)
      refine lv_iconst (v := 1) C.1 C.2.1 dL_occurrences_13 (by decide) ?_
      exact x_iret C hW dL_occurrences_14 rfl
    · have hf := (if_neg ht).symm.trans hf
      cases hf
  · have hf := (if_pos hn).symm.trans hf
    obtain rfl := Option.some.inj hf
    refine lv_i2l C.1 C.2.1 dL_occurrences_7 rfl ?_
    refine x_outst hm C hW (v := u.2) (by first | rfl | decide) dL_occurrences_8 (fun H locs hW => ?_)
    refine lv_goto (tgt := 15) C.1 C.2.1 dL_occurrences_9 (by decide) ?_
    refine lv_iconst (v := 0) C.1 C.2.1 dL_occurrences_15 (by decide) ?_
    exact x_iret C hW dL_occurrences_16 rfl
set_option maxRecDepth 20000 in
set_option maxHeartbeats 1000000 in
theorem c_L_lengthIfCut {l : Launch} (hlt : l.stackTraces = false) {Z : ZT} {h g : Hp} {p1 : Int32} {p2 : Int32} {out : Int32 × (Hp × Hp)} (hm : Z.2.2.2.2 1000 = 1) (hf : f_L_lengthIfCut h g p1 p2 = some out) : Met l yL_lengthIfCut (wYW yL_lengthIfCut cL_lengthIfCut 5 (some .int) [(0, 10, 13, 13)]) (rmC 10 8) (va_Pc [.ref (Z.1 0), .int p1, .int p2, .ref (Z.1 145)] (Wd Z h g)) (va_Qi (fun r (_ : Unit) => r = out.1) (fun _ => Wd Z out.2.1 out.2.2) (FR Z)) 8 48 (FR Z) := by
  refine metXW RL rfl (by decide +kernel) (Nat.le_of_ble_eq_true rfl) ?_
  intro p e s m args below meth c C htab hW ls hl
  have hl : lv_has ls 5 [(0, .ref (Z.1 0)), (1, .int p1), (2, .int p2), (3, .ref (Z.1 145))] := hl
  unfold f_L_lengthIfCut at hf
  obtain ⟨u, hc, hf⟩ := bnd_t hf
  refine lv_aload_n C.1 C.2.1 dL_lengthIfCut_0 rfl (lv_at hl 3 rfl) ?_
  refine lv_iconst (v := 0) C.1 C.2.1 dL_lengthIfCut_1 (by decide) ?_
  refine lv_aload_n C.1 C.2.1 dL_lengthIfCut_2 rfl (lv_at hl 0 rfl) ?_
  refine lv_iload_n C.1 C.2.1 dL_lengthIfCut_3 rfl (lv_at hl 1 rfl) ?_
  refine lv_iload_n C.1 C.2.1 dL_lengthIfCut_4 rfl (lv_at hl 2 rfl) ?_
  refine x_tryI hW (x_runVx C hW hl (wk8 k_0) rfl rfl (c_X10_lengthIfCut hlt hc) cw_L_60 ci_X10_lengthIfCut cs_X10_lengthIfCut (rm_okX (by decide) (by decide)) ⟨by decide, by decide⟩ (As := [.int p1, .int p2]) rfl rfl (Nat.le_of_ble_eq_true rfl) dL_lengthIfCut_5) (fun hn H locs q ce hW hcell hv hcl => ?_) (fun hn H locs hW => ?_)
  · have hf := (if_neg hn).symm.trans hf
    rcases Classical.em (u.1 = 2) with ht | ht
    · obtain rfl := Option.some.inj ((if_pos ht).symm.trans hf)
      rw [ht] at hcl
      refine x_catch1 (tag := 2) C htab ⟨by decide, by decide⟩ (by decide) cl_L_13 (by decide) hcell hv hcl ?_
      refine lv_astore (lv' := [(4, .ref q), (0, .ref (Z.1 0)), (1, .int p1), (2, .int p2), (3, .ref (Z.1 145))]) C.1 C.2.1 dL_lengthIfCut_13 hl (by decide) rfl (fun ls hl => ?_)
      refine lv_iconst (v := 1) C.1 C.2.1 dL_lengthIfCut_15 (by decide) ?_
      exact x_iret C hW dL_lengthIfCut_16 rfl
    · have hf := (if_neg ht).symm.trans hf
      cases hf
  · have hf := (if_pos hn).symm.trans hf
    obtain rfl := Option.some.inj hf
    refine lv_i2l C.1 C.2.1 dL_lengthIfCut_8 rfl ?_
    refine x_outst hm C hW (v := u.2) (by first | rfl | decide) dL_lengthIfCut_9 (fun H locs hW => ?_)
    refine lv_goto (tgt := 17) C.1 C.2.1 dL_lengthIfCut_10 (by decide) ?_
    refine lv_iconst (v := 0) C.1 C.2.1 dL_lengthIfCut_17 (by decide) ?_
    exact x_iret C hW dL_lengthIfCut_18 rfl
set_option maxRecDepth 20000 in
set_option maxHeartbeats 1000000 in
theorem c_L_lengthIfRestored {l : Launch} (hlt : l.stackTraces = false) {Z : ZT} {h g : Hp} {p1 : Int32} {out : Int32 × (Hp × Hp)} (hm : Z.2.2.2.2 1000 = 1) (hf : f_L_lengthIfRestored h g p1 = some out) : Met l yL_lengthIfRestored (wYW yL_lengthIfRestored cL_lengthIfRestored 4 (some .int) [(0, 9, 12, 22)]) (rmC 10 8) (va_Pc [.ref (Z.1 0), .int p1, .ref (Z.1 145)] (Wd Z h g)) (va_Qi (fun r (_ : Unit) => r = out.1) (fun _ => Wd Z out.2.1 out.2.2) (FR Z)) 8 48 (FR Z) := by
  refine metXW RL rfl (by decide +kernel) (Nat.le_of_ble_eq_true rfl) ?_
  intro p e s m args below meth c C htab hW ls hl
  have hl : lv_has ls 4 [(0, .ref (Z.1 0)), (1, .int p1), (2, .ref (Z.1 145))] := hl
  unfold f_L_lengthIfRestored at hf
  obtain ⟨u, hc, hf⟩ := bnd_t hf
  refine lv_aload_n C.1 C.2.1 dL_lengthIfRestored_0 rfl (lv_at hl 2 rfl) ?_
  refine lv_iconst (v := 0) C.1 C.2.1 dL_lengthIfRestored_1 (by decide) ?_
  refine lv_aload_n C.1 C.2.1 dL_lengthIfRestored_2 rfl (lv_at hl 0 rfl) ?_
  refine lv_iload_n C.1 C.2.1 dL_lengthIfRestored_3 rfl (lv_at hl 1 rfl) ?_
  refine x_tryI hW (x_runVx C hW hl (wk8 k_0) rfl rfl (c_X10_lengthIfRestored hlt hc) cw_L_63 ci_X10_lengthIfRestored cs_X10_lengthIfRestored (rm_okX (by decide) (by decide)) ⟨by decide, by decide⟩ (As := [.int p1]) rfl rfl (Nat.le_of_ble_eq_true rfl) dL_lengthIfRestored_4) (fun hn H locs q ce hW hcell hv hcl => ?_) (fun hn H locs hW => ?_)
  · have hf := (if_neg hn).symm.trans hf
    rcases Classical.em (u.1 = 1) with ht | ht
    · obtain rfl := Option.some.inj ((if_pos ht).symm.trans hf)
      rw [ht] at hcl
      refine x_catch1 (tag := 1) C htab ⟨by decide, by decide⟩ (by decide) cl_L_22 (by decide) hcell hv hcl ?_
      refine lv_astore_n (lv' := [(3, .ref q), (0, .ref (Z.1 0)), (1, .int p1), (2, .ref (Z.1 145))]) C.1 C.2.1 dL_lengthIfRestored_12 rfl hl (by decide) rfl (fun ls hl => ?_)
      refine lv_iconst (v := 1) C.1 C.2.1 dL_lengthIfRestored_13 (by decide) ?_
      exact x_iret C hW dL_lengthIfRestored_14 rfl
    · have hf := (if_neg ht).symm.trans hf
      cases hf
  · have hf := (if_pos hn).symm.trans hf
    obtain rfl := Option.some.inj hf
    refine lv_i2l C.1 C.2.1 dL_lengthIfRestored_7 rfl ?_
    refine x_outst hm C hW (v := u.2) (by first | rfl | decide) dL_lengthIfRestored_8 (fun H locs hW => ?_)
    refine lv_goto (tgt := 15) C.1 C.2.1 dL_lengthIfRestored_9 (by decide) ?_
    refine lv_iconst (v := 0) C.1 C.2.1 dL_lengthIfRestored_15 (by decide) ?_
    exact x_iret C hW dL_lengthIfRestored_16 rfl
set_option maxRecDepth 20000 in
set_option maxHeartbeats 1000000 in
theorem c_L_cut {l : Launch} (hlt : l.stackTraces = false) {Z : ZT} {h g : Hp} {p1 : Int32} {p2 : Int32} {out : Int32 × (Hp × Hp)} (hm : Z.2.2.2.2 1000 = 1) (hf : f_L_cut h g p1 p2 = some out) : Met l yL_cut (wYW yL_cut cL_cut 5 (some .int) [(0, 10, 13, 13)]) (rmC 10 8) (va_Pc [.ref (Z.1 0), .int p1, .int p2, .ref (Z.1 145)] (Wd Z h g)) (va_Qi (fun r (_ : Unit) => r = out.1) (fun _ => Wd Z out.2.1 out.2.2) (FR Z)) 8 48 (FR Z) := by
  refine metXW RL rfl (by decide +kernel) (Nat.le_of_ble_eq_true rfl) ?_
  intro p e s m args below meth c C htab hW ls hl
  have hl : lv_has ls 5 [(0, .ref (Z.1 0)), (1, .int p1), (2, .int p2), (3, .ref (Z.1 145))] := hl
  unfold f_L_cut at hf
  obtain ⟨u, hc, hf⟩ := bnd_t hf
  refine lv_aload_n C.1 C.2.1 dL_cut_0 rfl (lv_at hl 3 rfl) ?_
  refine lv_iconst (v := 0) C.1 C.2.1 dL_cut_1 (by decide) ?_
  refine lv_aload_n C.1 C.2.1 dL_cut_2 rfl (lv_at hl 0 rfl) ?_
  refine lv_iload_n C.1 C.2.1 dL_cut_3 rfl (lv_at hl 1 rfl) ?_
  refine lv_iload_n C.1 C.2.1 dL_cut_4 rfl (lv_at hl 2 rfl) ?_
  refine x_tryI hW (x_runVx C hW hl (wk8 k_0) rfl rfl (c_X10_cut hlt hc) cw_L_66 ci_X10_cut cs_X10_cut (rm_okX (by decide) (by decide)) ⟨by decide, by decide⟩ (As := [.int p1, .int p2]) rfl rfl (Nat.le_of_ble_eq_true rfl) dL_cut_5) (fun hn H locs q ce hW hcell hv hcl => ?_) (fun hn H locs hW => ?_)
  · have hf := (if_neg hn).symm.trans hf
    rcases Classical.em (u.1 = 2) with ht | ht
    · obtain rfl := Option.some.inj ((if_pos ht).symm.trans hf)
      rw [ht] at hcl
      refine x_catch1 (tag := 2) C htab ⟨by decide, by decide⟩ (by decide) cl_L_13 (by decide) hcell hv hcl ?_
      refine lv_astore (lv' := [(4, .ref q), (0, .ref (Z.1 0)), (1, .int p1), (2, .int p2), (3, .ref (Z.1 145))]) C.1 C.2.1 dL_cut_13 hl (by decide) rfl (fun ls hl => ?_)
      refine lv_iconst (v := 1) C.1 C.2.1 dL_cut_15 (by decide) ?_
      exact x_iret C hW dL_cut_16 rfl
    · have hf := (if_neg ht).symm.trans hf
      cases hf
  · have hf := (if_pos hn).symm.trans hf
    obtain rfl := Option.some.inj hf
    refine lv_i2l C.1 C.2.1 dL_cut_8 rfl ?_
    refine x_outst hm C hW (v := u.2.1) (by first | rfl | decide) dL_cut_9 (fun H locs hW => ?_)
    refine lv_goto (tgt := 17) C.1 C.2.1 dL_cut_10 (by decide) ?_
    refine lv_iconst (v := 0) C.1 C.2.1 dL_cut_17 (by decide) ?_
    exact x_iret C hW dL_cut_18 rfl
set_option maxRecDepth 20000 in
set_option maxHeartbeats 1000000 in
theorem c_L_cutWord {l : Launch} (hlt : l.stackTraces = false) {Z : ZT} {h g : Hp} {p1 : Int32} {out : Int32 × (Hp × Hp)} (hm : Z.2.2.2.2 1000 = 1) (hf : f_L_cutWord h g p1 = some out) : Met l yL_cutWord (wYW yL_cutWord cL_cutWord 4 (some .int) [(0, 9, 12, 22), (0, 9, 15, 72)]) (rmC 10 8) (va_Pc [.ref (Z.1 0), .int p1, .ref (Z.1 145)] (Wd Z h g)) (va_Qi (fun r (_ : Unit) => r = out.1) (fun _ => Wd Z out.2.1 out.2.2) (FR Z)) 8 48 (FR Z) := by
  refine metXW RL rfl (by decide +kernel) (Nat.le_of_ble_eq_true rfl) ?_
  intro p e s m args below meth c C htab hW ls hl
  have hl : lv_has ls 4 [(0, .ref (Z.1 0)), (1, .int p1), (2, .ref (Z.1 145))] := hl
  unfold f_L_cutWord at hf
  obtain ⟨u, hc, hf⟩ := bnd_t hf
  refine lv_aload_n C.1 C.2.1 dL_cutWord_0 rfl (lv_at hl 2 rfl) ?_
  refine lv_iconst (v := 0) C.1 C.2.1 dL_cutWord_1 (by decide) ?_
  refine lv_aload_n C.1 C.2.1 dL_cutWord_2 rfl (lv_at hl 0 rfl) ?_
  refine lv_iload_n C.1 C.2.1 dL_cutWord_3 rfl (lv_at hl 1 rfl) ?_
  refine x_tryI hW (x_runVx C hW hl (wk8 k_0) rfl rfl (c_X10_cutWord hlt hc) cw_L_69 ci_X10_cutWord cs_X10_cutWord (rm_okX (by decide) (by decide)) ⟨by decide, by decide⟩ (As := [.int p1]) rfl rfl (Nat.le_of_ble_eq_true rfl) dL_cutWord_4) (fun hn H locs q ce hW hcell hv hcl => ?_) (fun hn H locs hW => ?_)
  · have hf := (if_neg hn).symm.trans hf
    rcases Classical.em (u.1 = 1) with ht | ht
    · obtain rfl := Option.some.inj ((if_pos ht).symm.trans hf)
      rw [ht] at hcl
      refine x_catch1 (tag := 1) C htab ⟨by decide, by decide⟩ (by decide) cl_L_22 (by decide) hcell hv hcl ?_
      refine lv_astore_n (lv' := [(3, .ref q), (0, .ref (Z.1 0)), (1, .int p1), (2, .ref (Z.1 145))]) C.1 C.2.1 dL_cutWord_12 rfl hl (by decide) rfl (fun ls hl => ?_)
      refine lv_iconst (v := 1) C.1 C.2.1 dL_cutWord_13 (by decide) ?_
      exact x_iret C hW dL_cutWord_14 rfl
    · have hf := (if_neg ht).symm.trans hf
      rcases Classical.em (u.1 = 3) with ht | ht
      · obtain rfl := Option.some.inj ((if_pos ht).symm.trans hf)
        rw [ht] at hcl
        refine x_catch2 (tag := 3) (tag2 := 1) C htab ⟨by decide, by decide⟩ (by decide) (by decide) cl_L_72 cl_L_22 (by decide) (by decide) hcell hv hcl ?_
        refine lv_astore_n (lv' := [(3, .ref q), (0, .ref (Z.1 0)), (1, .int p1), (2, .ref (Z.1 145))]) C.1 C.2.1 dL_cutWord_15 rfl hl (by decide) rfl (fun ls hl => ?_)
        refine lv_iconst (v := 2) C.1 C.2.1 dL_cutWord_16 (by decide) ?_
        exact x_iret C hW dL_cutWord_17 rfl
      · have hf := (if_neg ht).symm.trans hf
        cases hf
  · have hf := (if_pos hn).symm.trans hf
    obtain rfl := Option.some.inj hf
    refine lv_i2l C.1 C.2.1 dL_cutWord_7 rfl ?_
    refine x_outst hm C hW (v := u.2.1) (by first | rfl | decide) dL_cutWord_8 (fun H locs hW => ?_)
    refine lv_goto (tgt := 18) C.1 C.2.1 dL_cutWord_9 (by decide) ?_
    refine lv_iconst (v := 0) C.1 C.2.1 dL_cutWord_18 (by decide) ?_
    exact x_iret C hW dL_cutWord_19 rfl
set_option maxRecDepth 20000 in
set_option maxHeartbeats 1000000 in
theorem c_L_restore {l : Launch} (hlt : l.stackTraces = false) {Z : ZT} {h g : Hp} {p1 : Int32} {p2 : Int32} {out : Int32 × (Hp × Hp)} (hm : Z.2.2.2.2 1000 = 1) (hf : f_L_restore h g p1 p2 = some out) : Met l yL_restore (wYW yL_restore cL_restore 5 (some .int) [(0, 10, 13, 22), (0, 10, 17, 13)]) (rmC 10 8) (va_Pc [.ref (Z.1 0), .int p1, .int p2, .ref (Z.1 145)] (Wd Z h g)) (va_Qi (fun r (_ : Unit) => r = out.1) (fun _ => Wd Z out.2.1 out.2.2) (FR Z)) 8 48 (FR Z) := by
  refine metXW RL rfl (by decide +kernel) (Nat.le_of_ble_eq_true rfl) ?_
  intro p e s m args below meth c C htab hW ls hl
  have hl : lv_has ls 5 [(0, .ref (Z.1 0)), (1, .int p1), (2, .int p2), (3, .ref (Z.1 145))] := hl
  unfold f_L_restore at hf
  obtain ⟨u, hc, hf⟩ := bnd_t hf
  refine lv_aload_n C.1 C.2.1 dL_restore_0 rfl (lv_at hl 3 rfl) ?_
  refine lv_iconst (v := 0) C.1 C.2.1 dL_restore_1 (by decide) ?_
  refine lv_aload_n C.1 C.2.1 dL_restore_2 rfl (lv_at hl 0 rfl) ?_
  refine lv_iload_n C.1 C.2.1 dL_restore_3 rfl (lv_at hl 1 rfl) ?_
  refine lv_iload_n C.1 C.2.1 dL_restore_4 rfl (lv_at hl 2 rfl) ?_
  refine x_tryI hW (x_runVx C hW hl (wk8 k_0) rfl rfl (c_X10_restore hlt hc) cw_L_74 ci_X10_restore cs_X10_restore (rm_okX (by decide) (by decide)) ⟨by decide, by decide⟩ (As := [.int p1, .int p2]) rfl rfl (Nat.le_of_ble_eq_true rfl) dL_restore_5) (fun hn H locs q ce hW hcell hv hcl => ?_) (fun hn H locs hW => ?_)
  · have hf := (if_neg hn).symm.trans hf
    rcases Classical.em (u.1 = 1) with ht | ht
    · obtain rfl := Option.some.inj ((if_pos ht).symm.trans hf)
      rw [ht] at hcl
      refine x_catch1 (tag := 1) C htab ⟨by decide, by decide⟩ (by decide) cl_L_22 (by decide) hcell hv hcl ?_
      refine lv_astore (lv' := [(4, .ref q), (0, .ref (Z.1 0)), (1, .int p1), (2, .int p2), (3, .ref (Z.1 145))]) C.1 C.2.1 dL_restore_13 hl (by decide) rfl (fun ls hl => ?_)
      refine lv_iconst (v := 1) C.1 C.2.1 dL_restore_15 (by decide) ?_
      exact x_iret C hW dL_restore_16 rfl
    · have hf := (if_neg ht).symm.trans hf
      rcases Classical.em (u.1 = 2) with ht | ht
      · obtain rfl := Option.some.inj ((if_pos ht).symm.trans hf)
        rw [ht] at hcl
        refine x_catch2 (tag := 2) (tag2 := 1) C htab ⟨by decide, by decide⟩ (by decide) (by decide) cl_L_13 cl_L_22 (by decide) (by decide) hcell hv hcl ?_
        refine lv_astore (lv' := [(4, .ref q), (0, .ref (Z.1 0)), (1, .int p1), (2, .int p2), (3, .ref (Z.1 145))]) C.1 C.2.1 dL_restore_17 hl (by decide) rfl (fun ls hl => ?_)
        refine lv_iconst (v := 2) C.1 C.2.1 dL_restore_19 (by decide) ?_
        exact x_iret C hW dL_restore_20 rfl
      · have hf := (if_neg ht).symm.trans hf
        cases hf
  · have hf := (if_pos hn).symm.trans hf
    obtain rfl := Option.some.inj hf
    refine lv_i2l C.1 C.2.1 dL_restore_8 rfl ?_
    refine x_outst hm C hW (v := u.2.1) (by first | rfl | decide) dL_restore_9 (fun H locs hW => ?_)
    refine lv_goto (tgt := 21) C.1 C.2.1 dL_restore_10 (by decide) ?_
    refine lv_iconst (v := 0) C.1 C.2.1 dL_restore_21 (by decide) ?_
    exact x_iret C hW dL_restore_22 rfl
set_option maxRecDepth 20000 in
set_option maxHeartbeats 1000000 in
theorem c_L_move {l : Launch} (hlt : l.stackTraces = false) {Z : ZT} {h g : Hp} {p1 : Int32} {p2 : Int32} {p3 : Int32} {out : Int32 × (Hp × Hp)} (hm : Z.2.2.2.2 1000 = 1) (hf : f_L_move h g p1 p2 p3 = some out) : Met l yL_move (wYW yL_move cL_move 6 (some .int) [(0, 12, 15, 22), (0, 12, 19, 13)]) (rmC 10 8) (va_Pc [.ref (Z.1 0), .int p1, .int p2, .int p3, .ref (Z.1 145)] (Wd Z h g)) (va_Qi (fun r (_ : Unit) => r = out.1) (fun _ => Wd Z out.2.1 out.2.2) (FR Z)) 8 48 (FR Z) := by
  refine metXW RL rfl (by decide +kernel) (Nat.le_of_ble_eq_true rfl) ?_
  intro p e s m args below meth c C htab hW ls hl
  have hl : lv_has ls 6 [(0, .ref (Z.1 0)), (1, .int p1), (2, .int p2), (3, .int p3), (4, .ref (Z.1 145))] := hl
  unfold f_L_move at hf
  obtain ⟨u, hc, hf⟩ := bnd_t hf
  refine lv_aload C.1 C.2.1 dL_move_0 (lv_at hl 4 rfl) ?_
  refine lv_iconst (v := 0) C.1 C.2.1 dL_move_2 (by decide) ?_
  refine lv_aload_n C.1 C.2.1 dL_move_3 rfl (lv_at hl 0 rfl) ?_
  refine lv_iload_n C.1 C.2.1 dL_move_4 rfl (lv_at hl 1 rfl) ?_
  refine lv_iload_n C.1 C.2.1 dL_move_5 rfl (lv_at hl 2 rfl) ?_
  refine lv_iload_n C.1 C.2.1 dL_move_6 rfl (lv_at hl 3 rfl) ?_
  refine x_tryI hW (x_runVx C hW hl (wk8 k_0) rfl rfl (c_X10_move hlt hc) cw_L_77 ci_X10_move cs_X10_move (rm_okX (by decide) (by decide)) ⟨by decide, by decide⟩ (As := [.int p1, .int p2, .int p3]) rfl rfl (Nat.le_of_ble_eq_true rfl) dL_move_7) (fun hn H locs q ce hW hcell hv hcl => ?_) (fun hn H locs hW => ?_)
  · have hf := (if_neg hn).symm.trans hf
    rcases Classical.em (u.1 = 1) with ht | ht
    · obtain rfl := Option.some.inj ((if_pos ht).symm.trans hf)
      rw [ht] at hcl
      refine x_catch1 (tag := 1) C htab ⟨by decide, by decide⟩ (by decide) cl_L_22 (by decide) hcell hv hcl ?_
      refine lv_astore (lv' := [(5, .ref q), (0, .ref (Z.1 0)), (1, .int p1), (2, .int p2), (3, .int p3), (4, .ref (Z.1 145))]) C.1 C.2.1 dL_move_15 hl (by decide) rfl (fun ls hl => ?_)
      refine lv_iconst (v := 1) C.1 C.2.1 dL_move_17 (by decide) ?_
      exact x_iret C hW dL_move_18 rfl
    · have hf := (if_neg ht).symm.trans hf
      rcases Classical.em (u.1 = 2) with ht | ht
      · obtain rfl := Option.some.inj ((if_pos ht).symm.trans hf)
        rw [ht] at hcl
        refine x_catch2 (tag := 2) (tag2 := 1) C htab ⟨by decide, by decide⟩ (by decide) (by decide) cl_L_13 cl_L_22 (by decide) (by decide) hcell hv hcl ?_
        refine lv_astore (lv' := [(5, .ref q), (0, .ref (Z.1 0)), (1, .int p1), (2, .int p2), (3, .int p3), (4, .ref (Z.1 145))]) C.1 C.2.1 dL_move_19 hl (by decide) rfl (fun ls hl => ?_)
        refine lv_iconst (v := 2) C.1 C.2.1 dL_move_21 (by decide) ?_
        exact x_iret C hW dL_move_22 rfl
      · have hf := (if_neg ht).symm.trans hf
        cases hf
  · have hf := (if_pos hn).symm.trans hf
    obtain rfl := Option.some.inj hf
    refine lv_i2l C.1 C.2.1 dL_move_10 rfl ?_
    refine x_outst hm C hW (v := u.2.1) (by first | rfl | decide) dL_move_11 (fun H locs hW => ?_)
    refine lv_goto (tgt := 23) C.1 C.2.1 dL_move_12 (by decide) ?_
    refine lv_iconst (v := 0) C.1 C.2.1 dL_move_23 (by decide) ?_
    exact x_iret C hW dL_move_24 rfl
set_option maxRecDepth 20000 in
set_option maxHeartbeats 1000000 in
theorem c_L_setHandles {l : Launch} (hlt : l.stackTraces = false) {Z : ZT} {h g : Hp} {p1 : Int32} {p2 : Int32} {p3 : Int32} {out : Int32 × (Hp × Hp)} (hm : Z.2.2.2.2 1000 = 1) (hf : f_L_setHandles h g p1 p2 p3 = some out) : Met l yL_setHandles (wYW yL_setHandles cL_setHandles 6 (some .int) [(0, 12, 15, 22), (0, 12, 19, 13)]) (rmC 10 8) (va_Pc [.ref (Z.1 0), .int p1, .int p2, .int p3, .ref (Z.1 145)] (Wd Z h g)) (va_Qi (fun r (_ : Unit) => r = out.1) (fun _ => Wd Z out.2.1 out.2.2) (FR Z)) 8 48 (FR Z) := by
  refine metXW RL rfl (by decide +kernel) (Nat.le_of_ble_eq_true rfl) ?_
  intro p e s m args below meth c C htab hW ls hl
  have hl : lv_has ls 6 [(0, .ref (Z.1 0)), (1, .int p1), (2, .int p2), (3, .int p3), (4, .ref (Z.1 145))] := hl
  unfold f_L_setHandles at hf
  obtain ⟨u, hc, hf⟩ := bnd_t hf
  refine lv_aload C.1 C.2.1 dL_setHandles_0 (lv_at hl 4 rfl) ?_
  refine lv_iconst (v := 0) C.1 C.2.1 dL_setHandles_2 (by decide) ?_
  refine lv_aload_n C.1 C.2.1 dL_setHandles_3 rfl (lv_at hl 0 rfl) ?_
  refine lv_iload_n C.1 C.2.1 dL_setHandles_4 rfl (lv_at hl 1 rfl) ?_
  refine lv_iload_n C.1 C.2.1 dL_setHandles_5 rfl (lv_at hl 2 rfl) ?_
  refine lv_iload_n C.1 C.2.1 dL_setHandles_6 rfl (lv_at hl 3 rfl) ?_
  refine x_tryI hW (x_runVx C hW hl (wk8 k_0) rfl rfl (c_X10_setHandles hlt hc) cw_L_81 ci_X10_setHandles cs_X10_setHandles (rm_okX (by decide) (by decide)) ⟨by decide, by decide⟩ (As := [.int p1, .int p2, .int p3]) rfl rfl (Nat.le_of_ble_eq_true rfl) dL_setHandles_7) (fun hn H locs q ce hW hcell hv hcl => ?_) (fun hn H locs hW => ?_)
  · have hf := (if_neg hn).symm.trans hf
    rcases Classical.em (u.1 = 1) with ht | ht
    · obtain rfl := Option.some.inj ((if_pos ht).symm.trans hf)
      rw [ht] at hcl
      refine x_catch1 (tag := 1) C htab ⟨by decide, by decide⟩ (by decide) cl_L_22 (by decide) hcell hv hcl ?_
      refine lv_astore (lv' := [(5, .ref q), (0, .ref (Z.1 0)), (1, .int p1), (2, .int p2), (3, .int p3), (4, .ref (Z.1 145))]) C.1 C.2.1 dL_setHandles_15 hl (by decide) rfl (fun ls hl => ?_)
      refine lv_iconst (v := 1) C.1 C.2.1 dL_setHandles_17 (by decide) ?_
      exact x_iret C hW dL_setHandles_18 rfl
    · have hf := (if_neg ht).symm.trans hf
      rcases Classical.em (u.1 = 2) with ht | ht
      · obtain rfl := Option.some.inj ((if_pos ht).symm.trans hf)
        rw [ht] at hcl
        refine x_catch2 (tag := 2) (tag2 := 1) C htab ⟨by decide, by decide⟩ (by decide) (by decide) cl_L_13 cl_L_22 (by decide) (by decide) hcell hv hcl ?_
        refine lv_astore (lv' := [(5, .ref q), (0, .ref (Z.1 0)), (1, .int p1), (2, .int p2), (3, .int p3), (4, .ref (Z.1 145))]) C.1 C.2.1 dL_setHandles_19 hl (by decide) rfl (fun ls hl => ?_)
        refine lv_iconst (v := 2) C.1 C.2.1 dL_setHandles_21 (by decide) ?_
        exact x_iret C hW dL_setHandles_22 rfl
      · have hf := (if_neg ht).symm.trans hf
        cases hf
  · have hf := (if_pos hn).symm.trans hf
    obtain rfl := Option.some.inj hf
    refine lv_i2l C.1 C.2.1 dL_setHandles_10 rfl ?_
    refine x_outst hm C hW (v := u.2.1) (by first | rfl | decide) dL_setHandles_11 (fun H locs hW => ?_)
    refine lv_goto (tgt := 23) C.1 C.2.1 dL_setHandles_12 (by decide) ?_
    refine lv_iconst (v := 0) C.1 C.2.1 dL_setHandles_23 (by decide) ?_
    exact x_iret C hW dL_setHandles_24 rfl
set_option maxRecDepth 20000 in
set_option maxHeartbeats 1000000 in
theorem c_L_formatShot {l : Launch} (hlt : l.stackTraces = false) {Z : ZT} {h g : Hp} {p1 : Int32} {out : Int32 × (Hp × Hp)} (hm : Z.2.2.2.2 1000 = 1) (hf : f_L_formatShot h g p1 = some out) : Met l yL_formatShot (wYW yL_formatShot cL_formatShot 4 (some .int) [(0, 9, 12, 22)]) (rmC 11 8) (va_Pc [.ref (Z.1 0), .int p1, .ref (Z.1 145)] (Wd Z h g)) (va_Qi (fun r (_ : Unit) => r = out.1) (fun _ => Wd Z out.2.1 out.2.2) (FR Z)) 8 48 (FR Z) := by
  refine metXW RL rfl (by decide +kernel) (Nat.le_of_ble_eq_true rfl) ?_
  intro p e s m args below meth c C htab hW ls hl
  have hl : lv_has ls 4 [(0, .ref (Z.1 0)), (1, .int p1), (2, .ref (Z.1 145))] := hl
  unfold f_L_formatShot at hf
  obtain ⟨u, hc, hf⟩ := bnd_t hf
  refine lv_aload_n C.1 C.2.1 dL_formatShot_0 rfl (lv_at hl 2 rfl) ?_
  refine lv_iconst (v := 0) C.1 C.2.1 dL_formatShot_1 (by decide) ?_
  refine lv_aload_n C.1 C.2.1 dL_formatShot_2 rfl (lv_at hl 0 rfl) ?_
  refine lv_iload_n C.1 C.2.1 dL_formatShot_3 rfl (lv_at hl 1 rfl) ?_
  refine x_tryI hW (x_runVx C hW hl (wk8 k_0) rfl rfl (c_X10_formatShot hlt hc) cw_L_84 ci_X10_formatShot cs_X10_formatShot (rm_okX (by decide) (by decide)) ⟨by decide, by decide⟩ (As := [.int p1]) rfl rfl (Nat.le_of_ble_eq_true rfl) dL_formatShot_4) (fun hn H locs q ce hW hcell hv hcl => ?_) (fun hn H locs hW => ?_)
  · have hf := (if_neg hn).symm.trans hf
    rcases Classical.em (u.1 = 1) with ht | ht
    · obtain rfl := Option.some.inj ((if_pos ht).symm.trans hf)
      rw [ht] at hcl
      refine x_catch1 (tag := 1) C htab ⟨by decide, by decide⟩ (by decide) cl_L_22 (by decide) hcell hv hcl ?_
      refine lv_astore_n (lv' := [(3, .ref q), (0, .ref (Z.1 0)), (1, .int p1), (2, .ref (Z.1 145))]) C.1 C.2.1 dL_formatShot_12 rfl hl (by decide) rfl (fun ls hl => ?_)
      refine lv_iconst (v := 1) C.1 C.2.1 dL_formatShot_13 (by decide) ?_
      exact x_iret C hW dL_formatShot_14 rfl
    · have hf := (if_neg ht).symm.trans hf
      cases hf
  · have hf := (if_pos hn).symm.trans hf
    obtain rfl := Option.some.inj hf
    refine lv_i2l C.1 C.2.1 dL_formatShot_7 rfl ?_
    refine x_outst hm C hW (v := u.2.1) (by first | rfl | decide) dL_formatShot_8 (fun H locs hW => ?_)
    refine lv_goto (tgt := 15) C.1 C.2.1 dL_formatShot_9 (by decide) ?_
    refine lv_iconst (v := 0) C.1 C.2.1 dL_formatShot_15 (by decide) ?_
    exact x_iret C hW dL_formatShot_16 rfl
