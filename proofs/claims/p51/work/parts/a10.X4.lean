abbrev cX4_firstFrame : ByteArray := prog_6_method_14_code
def yX4_firstFrame : MethodName := ⟨RX4, "firstFrame", "(II)I"⟩
theorem dX4_firstFrame_0 : decode cX4_firstFrame 0 = .ok (.iload_n 1, 1) := by decide +kernel
theorem dX4_firstFrame_1 : decode cX4_firstFrame 1 = .ok (.ifCond .gt 5, 3) := by decide +kernel
theorem dX4_firstFrame_4 : decode cX4_firstFrame 4 = .ok (.iconst 0, 1) := by decide +kernel
theorem dX4_firstFrame_5 : decode cX4_firstFrame 5 = .ok (.ireturn, 1) := by decide +kernel
theorem dX4_firstFrame_6 : decode cX4_firstFrame 6 = .ok (.aload_n 0, 1) := by decide +kernel
theorem dX4_firstFrame_7 : decode cX4_firstFrame 7 = .ok (.getfield 52, 3) := by decide +kernel
theorem dX4_firstFrame_10 : decode cX4_firstFrame 10 = .ok (.iload_n 1, 1) := by decide +kernel
theorem dX4_firstFrame_11 : decode cX4_firstFrame 11 = .ok (.iconst 1, 1) := by decide +kernel
theorem dX4_firstFrame_12 : decode cX4_firstFrame 12 = .ok (.isub, 1) := by decide +kernel
theorem dX4_firstFrame_13 : decode cX4_firstFrame 13 = .ok (.iaload, 1) := by decide +kernel
theorem dX4_firstFrame_14 : decode cX4_firstFrame 14 = .ok (.iload_n 2, 1) := by decide +kernel
theorem dX4_firstFrame_15 : decode cX4_firstFrame 15 = .ok (.isub, 1) := by decide +kernel
theorem dX4_firstFrame_16 : decode cX4_firstFrame 16 = .ok (.aload_n 0, 1) := by decide +kernel
theorem dX4_firstFrame_17 : decode cX4_firstFrame 17 = .ok (.getfield 49, 3) := by decide +kernel
theorem dX4_firstFrame_20 : decode cX4_firstFrame 20 = .ok (.iload_n 1, 1) := by decide +kernel
theorem dX4_firstFrame_21 : decode cX4_firstFrame 21 = .ok (.iconst 1, 1) := by decide +kernel
theorem dX4_firstFrame_22 : decode cX4_firstFrame 22 = .ok (.isub, 1) := by decide +kernel
theorem dX4_firstFrame_23 : decode cX4_firstFrame 23 = .ok (.iaload, 1) := by decide +kernel
theorem dX4_firstFrame_24 : decode cX4_firstFrame 24 = .ok (.invokestatic 75, 3) := by decide +kernel
theorem dX4_firstFrame_27 : decode cX4_firstFrame 27 = .ok (.ireturn, 1) := by decide +kernel
theorem ci_X4_firstFrame : Cond.instanceMethod yX4_firstFrame ∈ TW := TW_of 981 (by decide +kernel) (by decide +kernel)
theorem cs_X4_firstFrame : Cond.selects yX4_firstFrame.cls yX4_firstFrame yX4_firstFrame ∈ TW := TW_of 982 (by decide +kernel) (by decide +kernel)
abbrev cX4_frameBehind : ByteArray := prog_6_method_15_code
def yX4_frameBehind : MethodName := ⟨RX4, "frameBehind", "(II)I"⟩
theorem dX4_frameBehind_0 : decode cX4_frameBehind 0 = .ok (.iload_n 1, 1) := by decide +kernel
theorem dX4_frameBehind_1 : decode cX4_frameBehind 1 = .ok (.iconst 1, 1) := by decide +kernel
theorem dX4_frameBehind_2 : decode cX4_frameBehind 2 = .ok (.iadd, 1) := by decide +kernel
theorem dX4_frameBehind_3 : decode cX4_frameBehind 3 = .ok (.aload_n 0, 1) := by decide +kernel
theorem dX4_frameBehind_4 : decode cX4_frameBehind 4 = .ok (.getfield 68, 3) := by decide +kernel
theorem dX4_frameBehind_7 : decode cX4_frameBehind 7 = .ok (.if_icmp .lt 8, 3) := by decide +kernel
theorem dX4_frameBehind_10 : decode cX4_frameBehind 10 = .ok (.aload_n 0, 1) := by decide +kernel
theorem dX4_frameBehind_11 : decode cX4_frameBehind 11 = .ok (.getfield 9, 3) := by decide +kernel
theorem dX4_frameBehind_14 : decode cX4_frameBehind 14 = .ok (.ireturn, 1) := by decide +kernel
theorem dX4_frameBehind_15 : decode cX4_frameBehind 15 = .ok (.aload_n 0, 1) := by decide +kernel
theorem dX4_frameBehind_16 : decode cX4_frameBehind 16 = .ok (.getfield 52, 3) := by decide +kernel
theorem dX4_frameBehind_19 : decode cX4_frameBehind 19 = .ok (.iload_n 1, 1) := by decide +kernel
theorem dX4_frameBehind_20 : decode cX4_frameBehind 20 = .ok (.iaload, 1) := by decide +kernel
theorem dX4_frameBehind_21 : decode cX4_frameBehind 21 = .ok (.iload_n 2, 1) := by decide +kernel
theorem dX4_frameBehind_22 : decode cX4_frameBehind 22 = .ok (.iadd, 1) := by decide +kernel
theorem dX4_frameBehind_23 : decode cX4_frameBehind 23 = .ok (.aload_n 0, 1) := by decide +kernel
theorem dX4_frameBehind_24 : decode cX4_frameBehind 24 = .ok (.getfield 46, 3) := by decide +kernel
theorem dX4_frameBehind_27 : decode cX4_frameBehind 27 = .ok (.iload_n 1, 1) := by decide +kernel
theorem dX4_frameBehind_28 : decode cX4_frameBehind 28 = .ok (.iconst 1, 1) := by decide +kernel
theorem dX4_frameBehind_29 : decode cX4_frameBehind 29 = .ok (.iadd, 1) := by decide +kernel
theorem dX4_frameBehind_30 : decode cX4_frameBehind 30 = .ok (.iaload, 1) := by decide +kernel
theorem dX4_frameBehind_31 : decode cX4_frameBehind 31 = .ok (.invokestatic 85, 3) := by decide +kernel
theorem dX4_frameBehind_34 : decode cX4_frameBehind 34 = .ok (.ireturn, 1) := by decide +kernel
theorem ci_X4_frameBehind : Cond.instanceMethod yX4_frameBehind ∈ TW := TW_of 985 (by decide +kernel) (by decide +kernel)
theorem cs_X4_frameBehind : Cond.selects yX4_frameBehind.cls yX4_frameBehind yX4_frameBehind ∈ TW := TW_of 986 (by decide +kernel) (by decide +kernel)
abbrev cX4_rangeStart : ByteArray := prog_6_method_12_code
def yX4_rangeStart : MethodName := ⟨RX4, "rangeStart", "(I)I"⟩
theorem dX4_rangeStart_0 : decode cX4_rangeStart 0 = .ok (.iload_n 1, 1) := by decide +kernel
theorem dX4_rangeStart_1 : decode cX4_rangeStart 1 = .ok (.ifCond .gt 7, 3) := by decide +kernel
theorem dX4_rangeStart_4 : decode cX4_rangeStart 4 = .ok (.iconst 0, 1) := by decide +kernel
theorem dX4_rangeStart_5 : decode cX4_rangeStart 5 = .ok (.goto 11, 3) := by decide +kernel
theorem dX4_rangeStart_8 : decode cX4_rangeStart 8 = .ok (.aload_n 0, 1) := by decide +kernel
theorem dX4_rangeStart_9 : decode cX4_rangeStart 9 = .ok (.getfield 52, 3) := by decide +kernel
theorem dX4_rangeStart_12 : decode cX4_rangeStart 12 = .ok (.iload_n 1, 1) := by decide +kernel
theorem dX4_rangeStart_13 : decode cX4_rangeStart 13 = .ok (.iconst 1, 1) := by decide +kernel
theorem dX4_rangeStart_14 : decode cX4_rangeStart 14 = .ok (.isub, 1) := by decide +kernel
theorem dX4_rangeStart_15 : decode cX4_rangeStart 15 = .ok (.iaload, 1) := by decide +kernel
theorem dX4_rangeStart_16 : decode cX4_rangeStart 16 = .ok (.ireturn, 1) := by decide +kernel
theorem ci_X4_rangeStart : Cond.instanceMethod yX4_rangeStart ∈ TW := TW_of 1051 (by decide +kernel) (by decide +kernel)
theorem cs_X4_rangeStart : Cond.selects yX4_rangeStart.cls yX4_rangeStart yX4_rangeStart ∈ TW := TW_of 1052 (by decide +kernel) (by decide +kernel)
abbrev cX4_clear : ByteArray := prog_6_method_2_code
def yX4_clear : MethodName := ⟨RX4, "clear", "()V"⟩
theorem dX4_clear_0 : decode cX4_clear 0 = .ok (.aload_n 0, 1) := by decide +kernel
theorem dX4_clear_1 : decode cX4_clear 1 = .ok (.sipush 1000, 3) := by decide +kernel
theorem dX4_clear_4 : decode cX4_clear 4 = .ok (.putfield 9, 3) := by decide +kernel
theorem dX4_clear_7 : decode cX4_clear 7 = .ok (.aload_n 0, 1) := by decide +kernel
theorem dX4_clear_8 : decode cX4_clear 8 = .ok (.bipush 12, 2) := by decide +kernel
theorem dX4_clear_10 : decode cX4_clear 10 = .ok (.putfield 15, 3) := by decide +kernel
theorem dX4_clear_13 : decode cX4_clear 13 = .ok (.aload_n 0, 1) := by decide +kernel
theorem dX4_clear_14 : decode cX4_clear 14 = .ok (.iconst 0, 1) := by decide +kernel
theorem dX4_clear_15 : decode cX4_clear 15 = .ok (.putfield 59, 3) := by decide +kernel
theorem dX4_clear_18 : decode cX4_clear 18 = .ok (.aload_n 0, 1) := by decide +kernel
theorem dX4_clear_19 : decode cX4_clear 19 = .ok (.iconst 0, 1) := by decide +kernel
theorem dX4_clear_20 : decode cX4_clear 20 = .ok (.putfield 62, 3) := by decide +kernel
theorem dX4_clear_23 : decode cX4_clear 23 = .ok (.aload_n 0, 1) := by decide +kernel
theorem dX4_clear_24 : decode cX4_clear 24 = .ok (.iconst 0, 1) := by decide +kernel
theorem dX4_clear_25 : decode cX4_clear 25 = .ok (.putfield 65, 3) := by decide +kernel
theorem dX4_clear_28 : decode cX4_clear 28 = .ok (.aload_n 0, 1) := by decide +kernel
theorem dX4_clear_29 : decode cX4_clear 29 = .ok (.iconst 0, 1) := by decide +kernel
theorem dX4_clear_30 : decode cX4_clear 30 = .ok (.putfield 68, 3) := by decide +kernel
theorem dX4_clear_33 : decode cX4_clear 33 = .ok (.return_, 1) := by decide +kernel
theorem ci_X4_clear : Cond.instanceMethod yX4_clear ∈ TW := TW_of 844 (by decide +kernel) (by decide +kernel)
theorem cs_X4_clear : Cond.selects yX4_clear.cls yX4_clear yX4_clear ∈ TW := TW_of 845 (by decide +kernel) (by decide +kernel)
abbrev cX4_addSpeaker : ByteArray := prog_6_method_3_code
def yX4_addSpeaker : MethodName := ⟨RX4, "addSpeaker", "(I)V"⟩
theorem dX4_addSpeaker_0 : decode cX4_addSpeaker 0 = .ok (.aload_n 0, 1) := by decide +kernel
theorem dX4_addSpeaker_1 : decode cX4_addSpeaker 1 = .ok (.getfield 59, 3) := by decide +kernel
theorem dX4_addSpeaker_4 : decode cX4_addSpeaker 4 = .ok (.iconst 4, 1) := by decide +kernel
theorem dX4_addSpeaker_5 : decode cX4_addSpeaker 5 = .ok (.if_icmp .ge 23, 3) := by decide +kernel
theorem dX4_addSpeaker_8 : decode cX4_addSpeaker 8 = .ok (.aload_n 0, 1) := by decide +kernel
theorem dX4_addSpeaker_9 : decode cX4_addSpeaker 9 = .ok (.getfield 18, 3) := by decide +kernel
theorem dX4_addSpeaker_12 : decode cX4_addSpeaker 12 = .ok (.aload_n 0, 1) := by decide +kernel
theorem dX4_addSpeaker_13 : decode cX4_addSpeaker 13 = .ok (.getfield 59, 3) := by decide +kernel
theorem dX4_addSpeaker_16 : decode cX4_addSpeaker 16 = .ok (.iload_n 1, 1) := by decide +kernel
theorem dX4_addSpeaker_17 : decode cX4_addSpeaker 17 = .ok (.iastore, 1) := by decide +kernel
theorem dX4_addSpeaker_18 : decode cX4_addSpeaker 18 = .ok (.aload_n 0, 1) := by decide +kernel
theorem dX4_addSpeaker_19 : decode cX4_addSpeaker 19 = .ok (.dup, 1) := by decide +kernel
theorem dX4_addSpeaker_20 : decode cX4_addSpeaker 20 = .ok (.getfield 59, 3) := by decide +kernel
theorem dX4_addSpeaker_23 : decode cX4_addSpeaker 23 = .ok (.iconst 1, 1) := by decide +kernel
theorem dX4_addSpeaker_24 : decode cX4_addSpeaker 24 = .ok (.iadd, 1) := by decide +kernel
theorem dX4_addSpeaker_25 : decode cX4_addSpeaker 25 = .ok (.putfield 59, 3) := by decide +kernel
theorem dX4_addSpeaker_28 : decode cX4_addSpeaker 28 = .ok (.return_, 1) := by decide +kernel
theorem ci_X4_addSpeaker : Cond.instanceMethod yX4_addSpeaker ∈ TW := TW_of 911 (by decide +kernel) (by decide +kernel)
theorem cs_X4_addSpeaker : Cond.selects yX4_addSpeaker.cls yX4_addSpeaker yX4_addSpeaker ∈ TW := TW_of 912 (by decide +kernel) (by decide +kernel)
abbrev cX4_addBreath : ByteArray := prog_6_method_4_code
def yX4_addBreath : MethodName := ⟨RX4, "addBreath", "(II)V"⟩
theorem dX4_addBreath_0 : decode cX4_addBreath 0 = .ok (.aload_n 0, 1) := by decide +kernel
theorem dX4_addBreath_1 : decode cX4_addBreath 1 = .ok (.getfield 65, 3) := by decide +kernel
theorem dX4_addBreath_4 : decode cX4_addBreath 4 = .ok (.bipush 12, 2) := by decide +kernel
theorem dX4_addBreath_6 : decode cX4_addBreath 6 = .ok (.if_icmp .ge 33, 3) := by decide +kernel
theorem dX4_addBreath_9 : decode cX4_addBreath 9 = .ok (.aload_n 0, 1) := by decide +kernel
theorem dX4_addBreath_10 : decode cX4_addBreath 10 = .ok (.getfield 37, 3) := by decide +kernel
theorem dX4_addBreath_13 : decode cX4_addBreath 13 = .ok (.aload_n 0, 1) := by decide +kernel
theorem dX4_addBreath_14 : decode cX4_addBreath 14 = .ok (.getfield 65, 3) := by decide +kernel
theorem dX4_addBreath_17 : decode cX4_addBreath 17 = .ok (.iload_n 1, 1) := by decide +kernel
theorem dX4_addBreath_18 : decode cX4_addBreath 18 = .ok (.iastore, 1) := by decide +kernel
theorem dX4_addBreath_19 : decode cX4_addBreath 19 = .ok (.aload_n 0, 1) := by decide +kernel
theorem dX4_addBreath_20 : decode cX4_addBreath 20 = .ok (.getfield 40, 3) := by decide +kernel
theorem dX4_addBreath_23 : decode cX4_addBreath 23 = .ok (.aload_n 0, 1) := by decide +kernel
theorem dX4_addBreath_24 : decode cX4_addBreath 24 = .ok (.getfield 65, 3) := by decide +kernel
theorem dX4_addBreath_27 : decode cX4_addBreath 27 = .ok (.iload_n 2, 1) := by decide +kernel
theorem dX4_addBreath_28 : decode cX4_addBreath 28 = .ok (.iastore, 1) := by decide +kernel
theorem dX4_addBreath_29 : decode cX4_addBreath 29 = .ok (.aload_n 0, 1) := by decide +kernel
theorem dX4_addBreath_30 : decode cX4_addBreath 30 = .ok (.dup, 1) := by decide +kernel
theorem dX4_addBreath_31 : decode cX4_addBreath 31 = .ok (.getfield 65, 3) := by decide +kernel
theorem dX4_addBreath_34 : decode cX4_addBreath 34 = .ok (.iconst 1, 1) := by decide +kernel
theorem dX4_addBreath_35 : decode cX4_addBreath 35 = .ok (.iadd, 1) := by decide +kernel
theorem dX4_addBreath_36 : decode cX4_addBreath 36 = .ok (.putfield 65, 3) := by decide +kernel
theorem dX4_addBreath_39 : decode cX4_addBreath 39 = .ok (.return_, 1) := by decide +kernel
theorem ci_X4_addBreath : Cond.instanceMethod yX4_addBreath ∈ TW := TW_of 936 (by decide +kernel) (by decide +kernel)
theorem cs_X4_addBreath : Cond.selects yX4_addBreath.cls yX4_addBreath yX4_addBreath ∈ TW := TW_of 937 (by decide +kernel) (by decide +kernel)
abbrev cX4_isBefore : ByteArray := prog_6_method_6_code
def yX4_isBefore : MethodName := ⟨RX4, "isBefore", "(III)Z"⟩
theorem dX4_isBefore_0 : decode cX4_isBefore 0 = .ok (.iload_n 1, 1) := by decide +kernel
theorem dX4_isBefore_1 : decode cX4_isBefore 1 = .ok (.aload_n 0, 1) := by decide +kernel
theorem dX4_isBefore_2 : decode cX4_isBefore 2 = .ok (.getfield 28, 3) := by decide +kernel
theorem dX4_isBefore_5 : decode cX4_isBefore 5 = .ok (.iload_n 3, 1) := by decide +kernel
theorem dX4_isBefore_6 : decode cX4_isBefore 6 = .ok (.iaload, 1) := by decide +kernel
theorem dX4_isBefore_7 : decode cX4_isBefore 7 = .ok (.if_icmp .eq 19, 3) := by decide +kernel
theorem dX4_isBefore_10 : decode cX4_isBefore 10 = .ok (.iload_n 1, 1) := by decide +kernel
theorem dX4_isBefore_11 : decode cX4_isBefore 11 = .ok (.aload_n 0, 1) := by decide +kernel
theorem dX4_isBefore_12 : decode cX4_isBefore 12 = .ok (.getfield 28, 3) := by decide +kernel
theorem dX4_isBefore_15 : decode cX4_isBefore 15 = .ok (.iload_n 3, 1) := by decide +kernel
theorem dX4_isBefore_16 : decode cX4_isBefore 16 = .ok (.iaload, 1) := by decide +kernel
theorem dX4_isBefore_17 : decode cX4_isBefore 17 = .ok (.if_icmp .ge 7, 3) := by decide +kernel
theorem dX4_isBefore_20 : decode cX4_isBefore 20 = .ok (.iconst 1, 1) := by decide +kernel
theorem dX4_isBefore_21 : decode cX4_isBefore 21 = .ok (.goto 4, 3) := by decide +kernel
theorem dX4_isBefore_24 : decode cX4_isBefore 24 = .ok (.iconst 0, 1) := by decide +kernel
theorem dX4_isBefore_25 : decode cX4_isBefore 25 = .ok (.ireturn, 1) := by decide +kernel
theorem dX4_isBefore_26 : decode cX4_isBefore 26 = .ok (.iload_n 2, 1) := by decide +kernel
theorem dX4_isBefore_27 : decode cX4_isBefore 27 = .ok (.aload_n 0, 1) := by decide +kernel
theorem dX4_isBefore_28 : decode cX4_isBefore 28 = .ok (.getfield 25, 3) := by decide +kernel
theorem dX4_isBefore_31 : decode cX4_isBefore 31 = .ok (.iload_n 3, 1) := by decide +kernel
theorem dX4_isBefore_32 : decode cX4_isBefore 32 = .ok (.iaload, 1) := by decide +kernel
theorem dX4_isBefore_33 : decode cX4_isBefore 33 = .ok (.if_icmp .ge 7, 3) := by decide +kernel
theorem dX4_isBefore_36 : decode cX4_isBefore 36 = .ok (.iconst 1, 1) := by decide +kernel
theorem dX4_isBefore_37 : decode cX4_isBefore 37 = .ok (.goto 4, 3) := by decide +kernel
theorem dX4_isBefore_40 : decode cX4_isBefore 40 = .ok (.iconst 0, 1) := by decide +kernel
theorem dX4_isBefore_41 : decode cX4_isBefore 41 = .ok (.ireturn, 1) := by decide +kernel
theorem ci_X4_isBefore : Cond.instanceMethod yX4_isBefore ∈ TW := TW_of 929 (by decide +kernel) (by decide +kernel)
theorem cs_X4_isBefore : Cond.selects yX4_isBefore.cls yX4_isBefore yX4_isBefore ∈ TW := TW_of 4 (by decide +kernel) (by decide +kernel)
abbrev cX4_addWord : ByteArray := prog_6_method_5_code
def yX4_addWord : MethodName := ⟨RX4, "addWord", "(IIII)V"⟩
theorem dX4_addWord_0 : decode cX4_addWord 0 = .ok (.aload_n 0, 1) := by decide +kernel
theorem dX4_addWord_1 : decode cX4_addWord 1 = .ok (.getfield 62, 3) := by decide +kernel
theorem dX4_addWord_4 : decode cX4_addWord 4 = .ok (.bipush 40, 2) := by decide +kernel
theorem dX4_addWord_6 : decode cX4_addWord 6 = .ok (.if_icmp .lt 4, 3) := by decide +kernel
theorem dX4_addWord_9 : decode cX4_addWord 9 = .ok (.return_, 1) := by decide +kernel
theorem dX4_addWord_10 : decode cX4_addWord 10 = .ok (.aload_n 0, 1) := by decide +kernel
theorem dX4_addWord_11 : decode cX4_addWord 11 = .ok (.getfield 62, 3) := by decide +kernel
theorem dX4_addWord_14 : decode cX4_addWord 14 = .ok (.istore 5, 2) := by decide +kernel
theorem dX4_addWord_16 : decode cX4_addWord 16 = .ok (.iload 5, 2) := by decide +kernel
theorem dX4_addWord_18 : decode cX4_addWord 18 = .ok (.ifCond .le 86, 3) := by decide +kernel
theorem dX4_addWord_21 : decode cX4_addWord 21 = .ok (.aload_n 0, 1) := by decide +kernel
theorem dX4_addWord_22 : decode cX4_addWord 22 = .ok (.iload_n 3, 1) := by decide +kernel
theorem dX4_addWord_23 : decode cX4_addWord 23 = .ok (.iload_n 2, 1) := by decide +kernel
theorem dX4_addWord_24 : decode cX4_addWord 24 = .ok (.iload 5, 2) := by decide +kernel
theorem dX4_addWord_26 : decode cX4_addWord 26 = .ok (.iconst 1, 1) := by decide +kernel
theorem dX4_addWord_27 : decode cX4_addWord 27 = .ok (.isub, 1) := by decide +kernel
theorem dX4_addWord_28 : decode cX4_addWord 28 = .ok (.invokevirtual 71, 3) := by decide +kernel
theorem dX4_addWord_31 : decode cX4_addWord 31 = .ok (.ifCond .eq 73, 3) := by decide +kernel
theorem dX4_addWord_34 : decode cX4_addWord 34 = .ok (.aload_n 0, 1) := by decide +kernel
theorem dX4_addWord_35 : decode cX4_addWord 35 = .ok (.getfield 22, 3) := by decide +kernel
theorem dX4_addWord_38 : decode cX4_addWord 38 = .ok (.iload 5, 2) := by decide +kernel
theorem dX4_addWord_40 : decode cX4_addWord 40 = .ok (.aload_n 0, 1) := by decide +kernel
theorem dX4_addWord_41 : decode cX4_addWord 41 = .ok (.getfield 22, 3) := by decide +kernel
theorem dX4_addWord_44 : decode cX4_addWord 44 = .ok (.iload 5, 2) := by decide +kernel
theorem dX4_addWord_46 : decode cX4_addWord 46 = .ok (.iconst 1, 1) := by decide +kernel
theorem dX4_addWord_47 : decode cX4_addWord 47 = .ok (.isub, 1) := by decide +kernel
theorem dX4_addWord_48 : decode cX4_addWord 48 = .ok (.iaload, 1) := by decide +kernel
theorem dX4_addWord_49 : decode cX4_addWord 49 = .ok (.iastore, 1) := by decide +kernel
theorem dX4_addWord_50 : decode cX4_addWord 50 = .ok (.aload_n 0, 1) := by decide +kernel
theorem dX4_addWord_51 : decode cX4_addWord 51 = .ok (.getfield 25, 3) := by decide +kernel
theorem dX4_addWord_54 : decode cX4_addWord 54 = .ok (.iload 5, 2) := by decide +kernel
theorem dX4_addWord_56 : decode cX4_addWord 56 = .ok (.aload_n 0, 1) := by decide +kernel
theorem dX4_addWord_57 : decode cX4_addWord 57 = .ok (.getfield 25, 3) := by decide +kernel
theorem dX4_addWord_60 : decode cX4_addWord 60 = .ok (.iload 5, 2) := by decide +kernel
theorem dX4_addWord_62 : decode cX4_addWord 62 = .ok (.iconst 1, 1) := by decide +kernel
theorem dX4_addWord_63 : decode cX4_addWord 63 = .ok (.isub, 1) := by decide +kernel
theorem dX4_addWord_64 : decode cX4_addWord 64 = .ok (.iaload, 1) := by decide +kernel
theorem dX4_addWord_65 : decode cX4_addWord 65 = .ok (.iastore, 1) := by decide +kernel
theorem dX4_addWord_66 : decode cX4_addWord 66 = .ok (.aload_n 0, 1) := by decide +kernel
theorem dX4_addWord_67 : decode cX4_addWord 67 = .ok (.getfield 28, 3) := by decide +kernel
theorem dX4_addWord_70 : decode cX4_addWord 70 = .ok (.iload 5, 2) := by decide +kernel
theorem dX4_addWord_72 : decode cX4_addWord 72 = .ok (.aload_n 0, 1) := by decide +kernel
theorem dX4_addWord_73 : decode cX4_addWord 73 = .ok (.getfield 28, 3) := by decide +kernel
theorem dX4_addWord_76 : decode cX4_addWord 76 = .ok (.iload 5, 2) := by decide +kernel
theorem dX4_addWord_78 : decode cX4_addWord 78 = .ok (.iconst 1, 1) := by decide +kernel
theorem dX4_addWord_79 : decode cX4_addWord 79 = .ok (.isub, 1) := by decide +kernel
theorem dX4_addWord_80 : decode cX4_addWord 80 = .ok (.iaload, 1) := by decide +kernel
theorem dX4_addWord_81 : decode cX4_addWord 81 = .ok (.iastore, 1) := by decide +kernel
theorem dX4_addWord_82 : decode cX4_addWord 82 = .ok (.aload_n 0, 1) := by decide +kernel
theorem dX4_addWord_83 : decode cX4_addWord 83 = .ok (.getfield 31, 3) := by decide +kernel
theorem dX4_addWord_86 : decode cX4_addWord 86 = .ok (.iload 5, 2) := by decide +kernel
theorem dX4_addWord_88 : decode cX4_addWord 88 = .ok (.aload_n 0, 1) := by decide +kernel
theorem dX4_addWord_89 : decode cX4_addWord 89 = .ok (.getfield 31, 3) := by decide +kernel
theorem dX4_addWord_92 : decode cX4_addWord 92 = .ok (.iload 5, 2) := by decide +kernel
theorem dX4_addWord_94 : decode cX4_addWord 94 = .ok (.iconst 1, 1) := by decide +kernel
theorem dX4_addWord_95 : decode cX4_addWord 95 = .ok (.isub, 1) := by decide +kernel
theorem dX4_addWord_96 : decode cX4_addWord 96 = .ok (.iaload, 1) := by decide +kernel
theorem dX4_addWord_97 : decode cX4_addWord 97 = .ok (.iastore, 1) := by decide +kernel
theorem dX4_addWord_98 : decode cX4_addWord 98 = .ok (.iinc 5 (-1), 3) := by decide +kernel
theorem dX4_addWord_101 : decode cX4_addWord 101 = .ok (.goto (-85), 3) := by decide +kernel
theorem dX4_addWord_104 : decode cX4_addWord 104 = .ok (.aload_n 0, 1) := by decide +kernel
theorem dX4_addWord_105 : decode cX4_addWord 105 = .ok (.getfield 22, 3) := by decide +kernel
theorem dX4_addWord_108 : decode cX4_addWord 108 = .ok (.iload 5, 2) := by decide +kernel
theorem dX4_addWord_110 : decode cX4_addWord 110 = .ok (.iload_n 1, 1) := by decide +kernel
theorem dX4_addWord_111 : decode cX4_addWord 111 = .ok (.iastore, 1) := by decide +kernel
theorem dX4_addWord_112 : decode cX4_addWord 112 = .ok (.aload_n 0, 1) := by decide +kernel
theorem dX4_addWord_113 : decode cX4_addWord 113 = .ok (.getfield 25, 3) := by decide +kernel
theorem dX4_addWord_116 : decode cX4_addWord 116 = .ok (.iload 5, 2) := by decide +kernel
theorem dX4_addWord_118 : decode cX4_addWord 118 = .ok (.iload_n 2, 1) := by decide +kernel
theorem dX4_addWord_119 : decode cX4_addWord 119 = .ok (.iastore, 1) := by decide +kernel
theorem dX4_addWord_120 : decode cX4_addWord 120 = .ok (.aload_n 0, 1) := by decide +kernel
theorem dX4_addWord_121 : decode cX4_addWord 121 = .ok (.getfield 28, 3) := by decide +kernel
theorem dX4_addWord_124 : decode cX4_addWord 124 = .ok (.iload 5, 2) := by decide +kernel
theorem dX4_addWord_126 : decode cX4_addWord 126 = .ok (.iload_n 3, 1) := by decide +kernel
theorem dX4_addWord_127 : decode cX4_addWord 127 = .ok (.iastore, 1) := by decide +kernel
theorem dX4_addWord_128 : decode cX4_addWord 128 = .ok (.aload_n 0, 1) := by decide +kernel
theorem dX4_addWord_129 : decode cX4_addWord 129 = .ok (.getfield 31, 3) := by decide +kernel
theorem dX4_addWord_132 : decode cX4_addWord 132 = .ok (.iload 5, 2) := by decide +kernel
theorem dX4_addWord_134 : decode cX4_addWord 134 = .ok (.iload 4, 2) := by decide +kernel
theorem dX4_addWord_136 : decode cX4_addWord 136 = .ok (.iastore, 1) := by decide +kernel
theorem dX4_addWord_137 : decode cX4_addWord 137 = .ok (.aload_n 0, 1) := by decide +kernel
theorem dX4_addWord_138 : decode cX4_addWord 138 = .ok (.dup, 1) := by decide +kernel
theorem dX4_addWord_139 : decode cX4_addWord 139 = .ok (.getfield 62, 3) := by decide +kernel
theorem dX4_addWord_142 : decode cX4_addWord 142 = .ok (.iconst 1, 1) := by decide +kernel
theorem dX4_addWord_143 : decode cX4_addWord 143 = .ok (.iadd, 1) := by decide +kernel
theorem dX4_addWord_144 : decode cX4_addWord 144 = .ok (.putfield 62, 3) := by decide +kernel
theorem dX4_addWord_147 : decode cX4_addWord 147 = .ok (.return_, 1) := by decide +kernel
theorem ci_X4_addWord : Cond.instanceMethod yX4_addWord ∈ TW := TW_of 924 (by decide +kernel) (by decide +kernel)
theorem cs_X4_addWord : Cond.selects yX4_addWord.cls yX4_addWord yX4_addWord ∈ TW := TW_of 925 (by decide +kernel) (by decide +kernel)
abbrev cX4_speakerNamed : ByteArray := prog_6_method_7_code
def yX4_speakerNamed : MethodName := ⟨RX4, "speakerNamed", "(I)I"⟩
theorem dX4_speakerNamed_0 : decode cX4_speakerNamed 0 = .ok (.iconst 0, 1) := by decide +kernel
theorem dX4_speakerNamed_1 : decode cX4_speakerNamed 1 = .ok (.istore_n 2, 1) := by decide +kernel
theorem dX4_speakerNamed_2 : decode cX4_speakerNamed 2 = .ok (.iload_n 2, 1) := by decide +kernel
theorem dX4_speakerNamed_3 : decode cX4_speakerNamed 3 = .ok (.aload_n 0, 1) := by decide +kernel
theorem dX4_speakerNamed_4 : decode cX4_speakerNamed 4 = .ok (.getfield 59, 3) := by decide +kernel
theorem dX4_speakerNamed_7 : decode cX4_speakerNamed 7 = .ok (.if_icmp .ge 21, 3) := by decide +kernel
theorem dX4_speakerNamed_10 : decode cX4_speakerNamed 10 = .ok (.aload_n 0, 1) := by decide +kernel
theorem dX4_speakerNamed_11 : decode cX4_speakerNamed 11 = .ok (.getfield 18, 3) := by decide +kernel
theorem dX4_speakerNamed_14 : decode cX4_speakerNamed 14 = .ok (.iload_n 2, 1) := by decide +kernel
theorem dX4_speakerNamed_15 : decode cX4_speakerNamed 15 = .ok (.iaload, 1) := by decide +kernel
theorem dX4_speakerNamed_16 : decode cX4_speakerNamed 16 = .ok (.iload_n 1, 1) := by decide +kernel
theorem dX4_speakerNamed_17 : decode cX4_speakerNamed 17 = .ok (.if_icmp .ne 5, 3) := by decide +kernel
theorem dX4_speakerNamed_20 : decode cX4_speakerNamed 20 = .ok (.iload_n 2, 1) := by decide +kernel
theorem dX4_speakerNamed_21 : decode cX4_speakerNamed 21 = .ok (.ireturn, 1) := by decide +kernel
theorem dX4_speakerNamed_22 : decode cX4_speakerNamed 22 = .ok (.iinc 2 1, 3) := by decide +kernel
theorem dX4_speakerNamed_25 : decode cX4_speakerNamed 25 = .ok (.goto (-23), 3) := by decide +kernel
theorem dX4_speakerNamed_28 : decode cX4_speakerNamed 28 = .ok (.iconst (-1), 1) := by decide +kernel
theorem dX4_speakerNamed_29 : decode cX4_speakerNamed 29 = .ok (.ireturn, 1) := by decide +kernel
theorem ci_X4_speakerNamed : Cond.instanceMethod yX4_speakerNamed ∈ TW := TW_of 907 (by decide +kernel) (by decide +kernel)
theorem cs_X4_speakerNamed : Cond.selects yX4_speakerNamed.cls yX4_speakerNamed yX4_speakerNamed ∈ TW := TW_of 908 (by decide +kernel) (by decide +kernel)
abbrev cX4_speaksBetween : ByteArray := prog_6_method_8_code
def yX4_speaksBetween : MethodName := ⟨RX4, "speaksBetween", "(III)Z"⟩
theorem dX4_speaksBetween_0 : decode cX4_speaksBetween 0 = .ok (.iconst 0, 1) := by decide +kernel
theorem dX4_speaksBetween_1 : decode cX4_speaksBetween 1 = .ok (.istore 4, 2) := by decide +kernel
theorem dX4_speaksBetween_3 : decode cX4_speaksBetween 3 = .ok (.iload 4, 2) := by decide +kernel
theorem dX4_speaksBetween_5 : decode cX4_speaksBetween 5 = .ok (.aload_n 0, 1) := by decide +kernel
theorem dX4_speaksBetween_6 : decode cX4_speaksBetween 6 = .ok (.getfield 62, 3) := by decide +kernel
theorem dX4_speaksBetween_9 : decode cX4_speaksBetween 9 = .ok (.if_icmp .ge 44, 3) := by decide +kernel
theorem dX4_speaksBetween_12 : decode cX4_speaksBetween 12 = .ok (.aload_n 0, 1) := by decide +kernel
theorem dX4_speaksBetween_13 : decode cX4_speaksBetween 13 = .ok (.getfield 25, 3) := by decide +kernel
theorem dX4_speaksBetween_16 : decode cX4_speaksBetween 16 = .ok (.iload 4, 2) := by decide +kernel
theorem dX4_speaksBetween_18 : decode cX4_speaksBetween 18 = .ok (.iaload, 1) := by decide +kernel
theorem dX4_speaksBetween_19 : decode cX4_speaksBetween 19 = .ok (.iload_n 1, 1) := by decide +kernel
theorem dX4_speaksBetween_20 : decode cX4_speaksBetween 20 = .ok (.if_icmp .ne 27, 3) := by decide +kernel
theorem dX4_speaksBetween_23 : decode cX4_speaksBetween 23 = .ok (.aload_n 0, 1) := by decide +kernel
theorem dX4_speaksBetween_24 : decode cX4_speaksBetween 24 = .ok (.getfield 28, 3) := by decide +kernel
theorem dX4_speaksBetween_27 : decode cX4_speaksBetween 27 = .ok (.iload 4, 2) := by decide +kernel
theorem dX4_speaksBetween_29 : decode cX4_speaksBetween 29 = .ok (.iaload, 1) := by decide +kernel
theorem dX4_speaksBetween_30 : decode cX4_speaksBetween 30 = .ok (.iload_n 3, 1) := by decide +kernel
theorem dX4_speaksBetween_31 : decode cX4_speaksBetween 31 = .ok (.if_icmp .ge 16, 3) := by decide +kernel
theorem dX4_speaksBetween_34 : decode cX4_speaksBetween 34 = .ok (.iload_n 2, 1) := by decide +kernel
theorem dX4_speaksBetween_35 : decode cX4_speaksBetween 35 = .ok (.aload_n 0, 1) := by decide +kernel
theorem dX4_speaksBetween_36 : decode cX4_speaksBetween 36 = .ok (.getfield 31, 3) := by decide +kernel
theorem dX4_speaksBetween_39 : decode cX4_speaksBetween 39 = .ok (.iload 4, 2) := by decide +kernel
theorem dX4_speaksBetween_41 : decode cX4_speaksBetween 41 = .ok (.iaload, 1) := by decide +kernel
theorem dX4_speaksBetween_42 : decode cX4_speaksBetween 42 = .ok (.if_icmp .ge 5, 3) := by decide +kernel
theorem dX4_speaksBetween_45 : decode cX4_speaksBetween 45 = .ok (.iconst 1, 1) := by decide +kernel
theorem dX4_speaksBetween_46 : decode cX4_speaksBetween 46 = .ok (.ireturn, 1) := by decide +kernel
theorem dX4_speaksBetween_47 : decode cX4_speaksBetween 47 = .ok (.iinc 4 1, 3) := by decide +kernel
theorem dX4_speaksBetween_50 : decode cX4_speaksBetween 50 = .ok (.goto (-47), 3) := by decide +kernel
theorem dX4_speaksBetween_53 : decode cX4_speaksBetween 53 = .ok (.iconst 0, 1) := by decide +kernel
theorem dX4_speaksBetween_54 : decode cX4_speaksBetween 54 = .ok (.ireturn, 1) := by decide +kernel
theorem ci_X4_speaksBetween : Cond.instanceMethod yX4_speaksBetween ∈ TW := TW_of 920 (by decide +kernel) (by decide +kernel)
theorem cs_X4_speaksBetween : Cond.selects yX4_speaksBetween.cls yX4_speaksBetween yX4_speaksBetween ∈ TW := TW_of 921 (by decide +kernel) (by decide +kernel)
abbrev cX4_holdsAllWords : ByteArray := prog_6_method_9_code
def yX4_holdsAllWords : MethodName := ⟨RX4, "holdsAllWords", "()Z"⟩
theorem dX4_holdsAllWords_0 : decode cX4_holdsAllWords 0 = .ok (.iconst 0, 1) := by decide +kernel
theorem dX4_holdsAllWords_1 : decode cX4_holdsAllWords 1 = .ok (.istore_n 1, 1) := by decide +kernel
theorem dX4_holdsAllWords_2 : decode cX4_holdsAllWords 2 = .ok (.iload_n 1, 1) := by decide +kernel
theorem dX4_holdsAllWords_3 : decode cX4_holdsAllWords 3 = .ok (.aload_n 0, 1) := by decide +kernel
theorem dX4_holdsAllWords_4 : decode cX4_holdsAllWords 4 = .ok (.getfield 62, 3) := by decide +kernel
theorem dX4_holdsAllWords_7 : decode cX4_holdsAllWords 7 = .ok (.if_icmp .ge 24, 3) := by decide +kernel
theorem dX4_holdsAllWords_10 : decode cX4_holdsAllWords 10 = .ok (.aload_n 0, 1) := by decide +kernel
theorem dX4_holdsAllWords_11 : decode cX4_holdsAllWords 11 = .ok (.getfield 31, 3) := by decide +kernel
theorem dX4_holdsAllWords_14 : decode cX4_holdsAllWords 14 = .ok (.iload_n 1, 1) := by decide +kernel
theorem dX4_holdsAllWords_15 : decode cX4_holdsAllWords 15 = .ok (.iaload, 1) := by decide +kernel
theorem dX4_holdsAllWords_16 : decode cX4_holdsAllWords 16 = .ok (.aload_n 0, 1) := by decide +kernel
theorem dX4_holdsAllWords_17 : decode cX4_holdsAllWords 17 = .ok (.getfield 9, 3) := by decide +kernel
theorem dX4_holdsAllWords_20 : decode cX4_holdsAllWords 20 = .ok (.if_icmp .le 5, 3) := by decide +kernel
theorem dX4_holdsAllWords_23 : decode cX4_holdsAllWords 23 = .ok (.iconst 0, 1) := by decide +kernel
theorem dX4_holdsAllWords_24 : decode cX4_holdsAllWords 24 = .ok (.ireturn, 1) := by decide +kernel
theorem dX4_holdsAllWords_25 : decode cX4_holdsAllWords 25 = .ok (.iinc 1 1, 3) := by decide +kernel
theorem dX4_holdsAllWords_28 : decode cX4_holdsAllWords 28 = .ok (.goto (-26), 3) := by decide +kernel
theorem dX4_holdsAllWords_31 : decode cX4_holdsAllWords 31 = .ok (.iconst 1, 1) := by decide +kernel
theorem dX4_holdsAllWords_32 : decode cX4_holdsAllWords 32 = .ok (.ireturn, 1) := by decide +kernel
theorem ci_X4_holdsAllWords : Cond.instanceMethod yX4_holdsAllWords ∈ TW := TW_of 952 (by decide +kernel) (by decide +kernel)
theorem cs_X4_holdsAllWords : Cond.selects yX4_holdsAllWords.cls yX4_holdsAllWords yX4_holdsAllWords ∈ TW := TW_of 953 (by decide +kernel) (by decide +kernel)
abbrev cX4_placeCutPoint : ByteArray := prog_6_method_11_code
def yX4_placeCutPoint : MethodName := ⟨RX4, "placeCutPoint", "(I)V"⟩
theorem dX4_placeCutPoint_0 : decode cX4_placeCutPoint 0 = .ok (.aload_n 0, 1) := by decide +kernel
theorem dX4_placeCutPoint_1 : decode cX4_placeCutPoint 1 = .ok (.getfield 55, 3) := by decide +kernel
theorem dX4_placeCutPoint_4 : decode cX4_placeCutPoint 4 = .ok (.iload_n 1, 1) := by decide +kernel
theorem dX4_placeCutPoint_5 : decode cX4_placeCutPoint 5 = .ok (.iconst 0, 1) := by decide +kernel
theorem dX4_placeCutPoint_6 : decode cX4_placeCutPoint 6 = .ok (.bastore, 1) := by decide +kernel
theorem dX4_placeCutPoint_7 : decode cX4_placeCutPoint 7 = .ok (.iload_n 1, 1) := by decide +kernel
theorem dX4_placeCutPoint_8 : decode cX4_placeCutPoint 8 = .ok (.iconst 1, 1) := by decide +kernel
theorem dX4_placeCutPoint_9 : decode cX4_placeCutPoint 9 = .ok (.iadd, 1) := by decide +kernel
theorem dX4_placeCutPoint_10 : decode cX4_placeCutPoint 10 = .ok (.aload_n 0, 1) := by decide +kernel
theorem dX4_placeCutPoint_11 : decode cX4_placeCutPoint 11 = .ok (.getfield 68, 3) := by decide +kernel
theorem dX4_placeCutPoint_14 : decode cX4_placeCutPoint 14 = .ok (.if_icmp .lt 14, 3) := by decide +kernel
theorem dX4_placeCutPoint_17 : decode cX4_placeCutPoint 17 = .ok (.aload_n 0, 1) := by decide +kernel
theorem dX4_placeCutPoint_18 : decode cX4_placeCutPoint 18 = .ok (.getfield 52, 3) := by decide +kernel
theorem dX4_placeCutPoint_21 : decode cX4_placeCutPoint 21 = .ok (.iload_n 1, 1) := by decide +kernel
theorem dX4_placeCutPoint_22 : decode cX4_placeCutPoint 22 = .ok (.aload_n 0, 1) := by decide +kernel
theorem dX4_placeCutPoint_23 : decode cX4_placeCutPoint 23 = .ok (.getfield 9, 3) := by decide +kernel
theorem dX4_placeCutPoint_26 : decode cX4_placeCutPoint 26 = .ok (.iastore, 1) := by decide +kernel
theorem dX4_placeCutPoint_27 : decode cX4_placeCutPoint 27 = .ok (.return_, 1) := by decide +kernel
theorem dX4_placeCutPoint_28 : decode cX4_placeCutPoint 28 = .ok (.aload_n 0, 1) := by decide +kernel
theorem dX4_placeCutPoint_29 : decode cX4_placeCutPoint 29 = .ok (.getfield 49, 3) := by decide +kernel
theorem dX4_placeCutPoint_32 : decode cX4_placeCutPoint 32 = .ok (.iload_n 1, 1) := by decide +kernel
theorem dX4_placeCutPoint_33 : decode cX4_placeCutPoint 33 = .ok (.iaload, 1) := by decide +kernel
theorem dX4_placeCutPoint_34 : decode cX4_placeCutPoint 34 = .ok (.istore_n 2, 1) := by decide +kernel
theorem dX4_placeCutPoint_35 : decode cX4_placeCutPoint 35 = .ok (.aload_n 0, 1) := by decide +kernel
theorem dX4_placeCutPoint_36 : decode cX4_placeCutPoint 36 = .ok (.getfield 46, 3) := by decide +kernel
theorem dX4_placeCutPoint_39 : decode cX4_placeCutPoint 39 = .ok (.iload_n 1, 1) := by decide +kernel
theorem dX4_placeCutPoint_40 : decode cX4_placeCutPoint 40 = .ok (.iconst 1, 1) := by decide +kernel
theorem dX4_placeCutPoint_41 : decode cX4_placeCutPoint 41 = .ok (.iadd, 1) := by decide +kernel
theorem dX4_placeCutPoint_42 : decode cX4_placeCutPoint 42 = .ok (.iaload, 1) := by decide +kernel
theorem dX4_placeCutPoint_43 : decode cX4_placeCutPoint 43 = .ok (.istore_n 3, 1) := by decide +kernel
theorem dX4_placeCutPoint_44 : decode cX4_placeCutPoint 44 = .ok (.aload_n 0, 1) := by decide +kernel
theorem dX4_placeCutPoint_45 : decode cX4_placeCutPoint 45 = .ok (.getfield 52, 3) := by decide +kernel
theorem dX4_placeCutPoint_48 : decode cX4_placeCutPoint 48 = .ok (.iload_n 1, 1) := by decide +kernel
theorem dX4_placeCutPoint_49 : decode cX4_placeCutPoint 49 = .ok (.iload_n 2, 1) := by decide +kernel
theorem dX4_placeCutPoint_50 : decode cX4_placeCutPoint 50 = .ok (.iload_n 3, 1) := by decide +kernel
theorem dX4_placeCutPoint_51 : decode cX4_placeCutPoint 51 = .ok (.iadd, 1) := by decide +kernel
theorem dX4_placeCutPoint_52 : decode cX4_placeCutPoint 52 = .ok (.iconst 2, 1) := by decide +kernel
theorem dX4_placeCutPoint_53 : decode cX4_placeCutPoint 53 = .ok (.idiv, 1) := by decide +kernel
theorem dX4_placeCutPoint_54 : decode cX4_placeCutPoint 54 = .ok (.iastore, 1) := by decide +kernel
theorem dX4_placeCutPoint_55 : decode cX4_placeCutPoint 55 = .ok (.iconst 0, 1) := by decide +kernel
theorem dX4_placeCutPoint_56 : decode cX4_placeCutPoint 56 = .ok (.istore 4, 2) := by decide +kernel
theorem dX4_placeCutPoint_58 : decode cX4_placeCutPoint 58 = .ok (.iconst 0, 1) := by decide +kernel
theorem dX4_placeCutPoint_59 : decode cX4_placeCutPoint 59 = .ok (.istore 5, 2) := by decide +kernel
theorem dX4_placeCutPoint_61 : decode cX4_placeCutPoint 61 = .ok (.iload 5, 2) := by decide +kernel
theorem dX4_placeCutPoint_63 : decode cX4_placeCutPoint 63 = .ok (.aload_n 0, 1) := by decide +kernel
theorem dX4_placeCutPoint_64 : decode cX4_placeCutPoint 64 = .ok (.getfield 65, 3) := by decide +kernel
theorem dX4_placeCutPoint_67 : decode cX4_placeCutPoint 67 = .ok (.if_icmp .ge 72, 3) := by decide +kernel
theorem dX4_placeCutPoint_70 : decode cX4_placeCutPoint 70 = .ok (.iload_n 2, 1) := by decide +kernel
theorem dX4_placeCutPoint_71 : decode cX4_placeCutPoint 71 = .ok (.aload_n 0, 1) := by decide +kernel
theorem dX4_placeCutPoint_72 : decode cX4_placeCutPoint 72 = .ok (.getfield 37, 3) := by decide +kernel
theorem dX4_placeCutPoint_75 : decode cX4_placeCutPoint 75 = .ok (.iload 5, 2) := by decide +kernel
theorem dX4_placeCutPoint_77 : decode cX4_placeCutPoint 77 = .ok (.iaload, 1) := by decide +kernel
theorem dX4_placeCutPoint_78 : decode cX4_placeCutPoint 78 = .ok (.invokestatic 75, 3) := by decide +kernel
theorem dX4_placeCutPoint_81 : decode cX4_placeCutPoint 81 = .ok (.istore 6, 2) := by decide +kernel
theorem dX4_placeCutPoint_83 : decode cX4_placeCutPoint 83 = .ok (.iload_n 3, 1) := by decide +kernel
theorem dX4_placeCutPoint_84 : decode cX4_placeCutPoint 84 = .ok (.aload_n 0, 1) := by decide +kernel
theorem dX4_placeCutPoint_85 : decode cX4_placeCutPoint 85 = .ok (.getfield 40, 3) := by decide +kernel
theorem dX4_placeCutPoint_88 : decode cX4_placeCutPoint 88 = .ok (.iload 5, 2) := by decide +kernel
theorem dX4_placeCutPoint_90 : decode cX4_placeCutPoint 90 = .ok (.iaload, 1) := by decide +kernel
theorem dX4_placeCutPoint_91 : decode cX4_placeCutPoint 91 = .ok (.invokestatic 85, 3) := by decide +kernel
theorem dX4_placeCutPoint_94 : decode cX4_placeCutPoint 94 = .ok (.istore 7, 2) := by decide +kernel
theorem dX4_placeCutPoint_96 : decode cX4_placeCutPoint 96 = .ok (.iload 7, 2) := by decide +kernel
theorem dX4_placeCutPoint_98 : decode cX4_placeCutPoint 98 = .ok (.iload 6, 2) := by decide +kernel
theorem dX4_placeCutPoint_100 : decode cX4_placeCutPoint 100 = .ok (.isub, 1) := by decide +kernel
theorem dX4_placeCutPoint_101 : decode cX4_placeCutPoint 101 = .ok (.iload 4, 2) := by decide +kernel
theorem dX4_placeCutPoint_103 : decode cX4_placeCutPoint 103 = .ok (.if_icmp .le 30, 3) := by decide +kernel
theorem dX4_placeCutPoint_106 : decode cX4_placeCutPoint 106 = .ok (.iload 7, 2) := by decide +kernel
theorem dX4_placeCutPoint_108 : decode cX4_placeCutPoint 108 = .ok (.iload 6, 2) := by decide +kernel
theorem dX4_placeCutPoint_110 : decode cX4_placeCutPoint 110 = .ok (.isub, 1) := by decide +kernel
theorem dX4_placeCutPoint_111 : decode cX4_placeCutPoint 111 = .ok (.istore 4, 2) := by decide +kernel
theorem dX4_placeCutPoint_113 : decode cX4_placeCutPoint 113 = .ok (.aload_n 0, 1) := by decide +kernel
theorem dX4_placeCutPoint_114 : decode cX4_placeCutPoint 114 = .ok (.getfield 52, 3) := by decide +kernel
theorem dX4_placeCutPoint_117 : decode cX4_placeCutPoint 117 = .ok (.iload_n 1, 1) := by decide +kernel
theorem dX4_placeCutPoint_118 : decode cX4_placeCutPoint 118 = .ok (.iload 6, 2) := by decide +kernel
theorem dX4_placeCutPoint_120 : decode cX4_placeCutPoint 120 = .ok (.iload 7, 2) := by decide +kernel
theorem dX4_placeCutPoint_122 : decode cX4_placeCutPoint 122 = .ok (.iadd, 1) := by decide +kernel
theorem dX4_placeCutPoint_123 : decode cX4_placeCutPoint 123 = .ok (.iconst 2, 1) := by decide +kernel
theorem dX4_placeCutPoint_124 : decode cX4_placeCutPoint 124 = .ok (.idiv, 1) := by decide +kernel
theorem dX4_placeCutPoint_125 : decode cX4_placeCutPoint 125 = .ok (.iastore, 1) := by decide +kernel
theorem dX4_placeCutPoint_126 : decode cX4_placeCutPoint 126 = .ok (.aload_n 0, 1) := by decide +kernel
theorem dX4_placeCutPoint_127 : decode cX4_placeCutPoint 127 = .ok (.getfield 55, 3) := by decide +kernel
theorem dX4_placeCutPoint_130 : decode cX4_placeCutPoint 130 = .ok (.iload_n 1, 1) := by decide +kernel
theorem dX4_placeCutPoint_131 : decode cX4_placeCutPoint 131 = .ok (.iconst 1, 1) := by decide +kernel
theorem dX4_placeCutPoint_132 : decode cX4_placeCutPoint 132 = .ok (.bastore, 1) := by decide +kernel
theorem dX4_placeCutPoint_133 : decode cX4_placeCutPoint 133 = .ok (.iinc 5 1, 3) := by decide +kernel
theorem dX4_placeCutPoint_136 : decode cX4_placeCutPoint 136 = .ok (.goto (-75), 3) := by decide +kernel
theorem dX4_placeCutPoint_139 : decode cX4_placeCutPoint 139 = .ok (.return_, 1) := by decide +kernel
theorem ci_X4_placeCutPoint : Cond.instanceMethod yX4_placeCutPoint ∈ TW := TW_of 962 (by decide +kernel) (by decide +kernel)
theorem cs_X4_placeCutPoint : Cond.selects yX4_placeCutPoint.cls yX4_placeCutPoint yX4_placeCutPoint ∈ TW := TW_of 5 (by decide +kernel) (by decide +kernel)
abbrev cX4_findBlocks : ByteArray := prog_6_method_10_code
def yX4_findBlocks : MethodName := ⟨RX4, "findBlocks", "()V"⟩
theorem dX4_findBlocks_0 : decode cX4_findBlocks 0 = .ok (.iconst 0, 1) := by decide +kernel
theorem dX4_findBlocks_1 : decode cX4_findBlocks 1 = .ok (.istore_n 1, 1) := by decide +kernel
theorem dX4_findBlocks_2 : decode cX4_findBlocks 2 = .ok (.iload_n 1, 1) := by decide +kernel
theorem dX4_findBlocks_3 : decode cX4_findBlocks 3 = .ok (.aload_n 0, 1) := by decide +kernel
theorem dX4_findBlocks_4 : decode cX4_findBlocks 4 = .ok (.getfield 62, 3) := by decide +kernel
theorem dX4_findBlocks_7 : decode cX4_findBlocks 7 = .ok (.if_icmp .ge 121, 3) := by decide +kernel
theorem dX4_findBlocks_10 : decode cX4_findBlocks 10 = .ok (.aload_n 0, 1) := by decide +kernel
theorem dX4_findBlocks_11 : decode cX4_findBlocks 11 = .ok (.getfield 68, 3) := by decide +kernel
theorem dX4_findBlocks_14 : decode cX4_findBlocks 14 = .ok (.ifCond .eq 23, 3) := by decide +kernel
theorem dX4_findBlocks_17 : decode cX4_findBlocks 17 = .ok (.aload_n 0, 1) := by decide +kernel
theorem dX4_findBlocks_18 : decode cX4_findBlocks 18 = .ok (.getfield 28, 3) := by decide +kernel
theorem dX4_findBlocks_21 : decode cX4_findBlocks 21 = .ok (.iload_n 1, 1) := by decide +kernel
theorem dX4_findBlocks_22 : decode cX4_findBlocks 22 = .ok (.iaload, 1) := by decide +kernel
theorem dX4_findBlocks_23 : decode cX4_findBlocks 23 = .ok (.aload_n 0, 1) := by decide +kernel
theorem dX4_findBlocks_24 : decode cX4_findBlocks 24 = .ok (.getfield 49, 3) := by decide +kernel
theorem dX4_findBlocks_27 : decode cX4_findBlocks 27 = .ok (.aload_n 0, 1) := by decide +kernel
theorem dX4_findBlocks_28 : decode cX4_findBlocks 28 = .ok (.getfield 68, 3) := by decide +kernel
theorem dX4_findBlocks_31 : decode cX4_findBlocks 31 = .ok (.iconst 1, 1) := by decide +kernel
theorem dX4_findBlocks_32 : decode cX4_findBlocks 32 = .ok (.isub, 1) := by decide +kernel
theorem dX4_findBlocks_33 : decode cX4_findBlocks 33 = .ok (.iaload, 1) := by decide +kernel
theorem dX4_findBlocks_34 : decode cX4_findBlocks 34 = .ok (.if_icmp .lt 53, 3) := by decide +kernel
theorem dX4_findBlocks_37 : decode cX4_findBlocks 37 = .ok (.aload_n 0, 1) := by decide +kernel
theorem dX4_findBlocks_38 : decode cX4_findBlocks 38 = .ok (.getfield 43, 3) := by decide +kernel
theorem dX4_findBlocks_41 : decode cX4_findBlocks 41 = .ok (.aload_n 0, 1) := by decide +kernel
theorem dX4_findBlocks_42 : decode cX4_findBlocks 42 = .ok (.getfield 68, 3) := by decide +kernel
theorem dX4_findBlocks_45 : decode cX4_findBlocks 45 = .ok (.iload_n 1, 1) := by decide +kernel
theorem dX4_findBlocks_46 : decode cX4_findBlocks 46 = .ok (.iastore, 1) := by decide +kernel
theorem dX4_findBlocks_47 : decode cX4_findBlocks 47 = .ok (.aload_n 0, 1) := by decide +kernel
theorem dX4_findBlocks_48 : decode cX4_findBlocks 48 = .ok (.getfield 46, 3) := by decide +kernel
theorem dX4_findBlocks_51 : decode cX4_findBlocks 51 = .ok (.aload_n 0, 1) := by decide +kernel
theorem dX4_findBlocks_52 : decode cX4_findBlocks 52 = .ok (.getfield 68, 3) := by decide +kernel
theorem dX4_findBlocks_55 : decode cX4_findBlocks 55 = .ok (.aload_n 0, 1) := by decide +kernel
theorem dX4_findBlocks_56 : decode cX4_findBlocks 56 = .ok (.getfield 28, 3) := by decide +kernel
theorem dX4_findBlocks_59 : decode cX4_findBlocks 59 = .ok (.iload_n 1, 1) := by decide +kernel
theorem dX4_findBlocks_60 : decode cX4_findBlocks 60 = .ok (.iaload, 1) := by decide +kernel
theorem dX4_findBlocks_61 : decode cX4_findBlocks 61 = .ok (.iastore, 1) := by decide +kernel
theorem dX4_findBlocks_62 : decode cX4_findBlocks 62 = .ok (.aload_n 0, 1) := by decide +kernel
theorem dX4_findBlocks_63 : decode cX4_findBlocks 63 = .ok (.getfield 49, 3) := by decide +kernel
theorem dX4_findBlocks_66 : decode cX4_findBlocks 66 = .ok (.aload_n 0, 1) := by decide +kernel
theorem dX4_findBlocks_67 : decode cX4_findBlocks 67 = .ok (.getfield 68, 3) := by decide +kernel
theorem dX4_findBlocks_70 : decode cX4_findBlocks 70 = .ok (.aload_n 0, 1) := by decide +kernel
theorem dX4_findBlocks_71 : decode cX4_findBlocks 71 = .ok (.getfield 31, 3) := by decide +kernel
theorem dX4_findBlocks_74 : decode cX4_findBlocks 74 = .ok (.iload_n 1, 1) := by decide +kernel
theorem dX4_findBlocks_75 : decode cX4_findBlocks 75 = .ok (.iaload, 1) := by decide +kernel
theorem dX4_findBlocks_76 : decode cX4_findBlocks 76 = .ok (.iastore, 1) := by decide +kernel
theorem dX4_findBlocks_77 : decode cX4_findBlocks 77 = .ok (.aload_n 0, 1) := by decide +kernel
theorem dX4_findBlocks_78 : decode cX4_findBlocks 78 = .ok (.dup, 1) := by decide +kernel
theorem dX4_findBlocks_79 : decode cX4_findBlocks 79 = .ok (.getfield 68, 3) := by decide +kernel
theorem dX4_findBlocks_82 : decode cX4_findBlocks 82 = .ok (.iconst 1, 1) := by decide +kernel
theorem dX4_findBlocks_83 : decode cX4_findBlocks 83 = .ok (.iadd, 1) := by decide +kernel
theorem dX4_findBlocks_84 : decode cX4_findBlocks 84 = .ok (.putfield 68, 3) := by decide +kernel
theorem dX4_findBlocks_87 : decode cX4_findBlocks 87 = .ok (.aload_n 0, 1) := by decide +kernel
theorem dX4_findBlocks_88 : decode cX4_findBlocks 88 = .ok (.getfield 68, 3) := by decide +kernel
theorem dX4_findBlocks_91 : decode cX4_findBlocks 91 = .ok (.iconst 1, 1) := by decide +kernel
theorem dX4_findBlocks_92 : decode cX4_findBlocks 92 = .ok (.isub, 1) := by decide +kernel
theorem dX4_findBlocks_93 : decode cX4_findBlocks 93 = .ok (.istore_n 2, 1) := by decide +kernel
theorem dX4_findBlocks_94 : decode cX4_findBlocks 94 = .ok (.aload_n 0, 1) := by decide +kernel
theorem dX4_findBlocks_95 : decode cX4_findBlocks 95 = .ok (.getfield 34, 3) := by decide +kernel
theorem dX4_findBlocks_98 : decode cX4_findBlocks 98 = .ok (.iload_n 1, 1) := by decide +kernel
theorem dX4_findBlocks_99 : decode cX4_findBlocks 99 = .ok (.iload_n 2, 1) := by decide +kernel
theorem dX4_findBlocks_100 : decode cX4_findBlocks 100 = .ok (.iastore, 1) := by decide +kernel
theorem dX4_findBlocks_101 : decode cX4_findBlocks 101 = .ok (.aload_n 0, 1) := by decide +kernel
theorem dX4_findBlocks_102 : decode cX4_findBlocks 102 = .ok (.getfield 49, 3) := by decide +kernel
theorem dX4_findBlocks_105 : decode cX4_findBlocks 105 = .ok (.iload_n 2, 1) := by decide +kernel
theorem dX4_findBlocks_106 : decode cX4_findBlocks 106 = .ok (.aload_n 0, 1) := by decide +kernel
theorem dX4_findBlocks_107 : decode cX4_findBlocks 107 = .ok (.getfield 49, 3) := by decide +kernel
theorem dX4_findBlocks_110 : decode cX4_findBlocks 110 = .ok (.iload_n 2, 1) := by decide +kernel
theorem dX4_findBlocks_111 : decode cX4_findBlocks 111 = .ok (.iaload, 1) := by decide +kernel
theorem dX4_findBlocks_112 : decode cX4_findBlocks 112 = .ok (.aload_n 0, 1) := by decide +kernel
theorem dX4_findBlocks_113 : decode cX4_findBlocks 113 = .ok (.getfield 31, 3) := by decide +kernel
theorem dX4_findBlocks_116 : decode cX4_findBlocks 116 = .ok (.iload_n 1, 1) := by decide +kernel
theorem dX4_findBlocks_117 : decode cX4_findBlocks 117 = .ok (.iaload, 1) := by decide +kernel
theorem dX4_findBlocks_118 : decode cX4_findBlocks 118 = .ok (.invokestatic 75, 3) := by decide +kernel
theorem dX4_findBlocks_121 : decode cX4_findBlocks 121 = .ok (.iastore, 1) := by decide +kernel
theorem dX4_findBlocks_122 : decode cX4_findBlocks 122 = .ok (.iinc 1 1, 3) := by decide +kernel
theorem dX4_findBlocks_125 : decode cX4_findBlocks 125 = .ok (.goto (-123), 3) := by decide +kernel
theorem dX4_findBlocks_128 : decode cX4_findBlocks 128 = .ok (.aload_n 0, 1) := by decide +kernel
theorem dX4_findBlocks_129 : decode cX4_findBlocks 129 = .ok (.getfield 43, 3) := by decide +kernel
theorem dX4_findBlocks_132 : decode cX4_findBlocks 132 = .ok (.aload_n 0, 1) := by decide +kernel
theorem dX4_findBlocks_133 : decode cX4_findBlocks 133 = .ok (.getfield 68, 3) := by decide +kernel
theorem dX4_findBlocks_136 : decode cX4_findBlocks 136 = .ok (.aload_n 0, 1) := by decide +kernel
theorem dX4_findBlocks_137 : decode cX4_findBlocks 137 = .ok (.getfield 62, 3) := by decide +kernel
theorem dX4_findBlocks_140 : decode cX4_findBlocks 140 = .ok (.iastore, 1) := by decide +kernel
theorem dX4_findBlocks_141 : decode cX4_findBlocks 141 = .ok (.iconst 0, 1) := by decide +kernel
theorem dX4_findBlocks_142 : decode cX4_findBlocks 142 = .ok (.istore_n 1, 1) := by decide +kernel
theorem dX4_findBlocks_143 : decode cX4_findBlocks 143 = .ok (.iload_n 1, 1) := by decide +kernel
theorem dX4_findBlocks_144 : decode cX4_findBlocks 144 = .ok (.aload_n 0, 1) := by decide +kernel
theorem dX4_findBlocks_145 : decode cX4_findBlocks 145 = .ok (.getfield 68, 3) := by decide +kernel
theorem dX4_findBlocks_148 : decode cX4_findBlocks 148 = .ok (.if_icmp .ge 14, 3) := by decide +kernel
theorem dX4_findBlocks_151 : decode cX4_findBlocks 151 = .ok (.aload_n 0, 1) := by decide +kernel
theorem dX4_findBlocks_152 : decode cX4_findBlocks 152 = .ok (.iload_n 1, 1) := by decide +kernel
theorem dX4_findBlocks_153 : decode cX4_findBlocks 153 = .ok (.invokevirtual 81, 3) := by decide +kernel
theorem dX4_findBlocks_156 : decode cX4_findBlocks 156 = .ok (.iinc 1 1, 3) := by decide +kernel
theorem dX4_findBlocks_159 : decode cX4_findBlocks 159 = .ok (.goto (-16), 3) := by decide +kernel
theorem dX4_findBlocks_162 : decode cX4_findBlocks 162 = .ok (.return_, 1) := by decide +kernel
theorem ci_X4_findBlocks : Cond.instanceMethod yX4_findBlocks ∈ TW := TW_of 956 (by decide +kernel) (by decide +kernel)
theorem cs_X4_findBlocks : Cond.selects yX4_findBlocks.cls yX4_findBlocks yX4_findBlocks ∈ TW := TW_of 957 (by decide +kernel) (by decide +kernel)
abbrev cX4_shareFrame : ByteArray := prog_6_method_17_code
def yX4_shareFrame : MethodName := ⟨RX4, "shareFrame", "(II)Z"⟩
theorem dX4_shareFrame_0 : decode cX4_shareFrame 0 = .ok (.aload_n 0, 1) := by decide +kernel
theorem dX4_shareFrame_1 : decode cX4_shareFrame 1 = .ok (.getfield 28, 3) := by decide +kernel
theorem dX4_shareFrame_4 : decode cX4_shareFrame 4 = .ok (.iload_n 1, 1) := by decide +kernel
theorem dX4_shareFrame_5 : decode cX4_shareFrame 5 = .ok (.iaload, 1) := by decide +kernel
theorem dX4_shareFrame_6 : decode cX4_shareFrame 6 = .ok (.aload_n 0, 1) := by decide +kernel
theorem dX4_shareFrame_7 : decode cX4_shareFrame 7 = .ok (.getfield 31, 3) := by decide +kernel
theorem dX4_shareFrame_10 : decode cX4_shareFrame 10 = .ok (.iload_n 2, 1) := by decide +kernel
theorem dX4_shareFrame_11 : decode cX4_shareFrame 11 = .ok (.iaload, 1) := by decide +kernel
theorem dX4_shareFrame_12 : decode cX4_shareFrame 12 = .ok (.if_icmp .ge 22, 3) := by decide +kernel
theorem dX4_shareFrame_15 : decode cX4_shareFrame 15 = .ok (.aload_n 0, 1) := by decide +kernel
theorem dX4_shareFrame_16 : decode cX4_shareFrame 16 = .ok (.getfield 28, 3) := by decide +kernel
theorem dX4_shareFrame_19 : decode cX4_shareFrame 19 = .ok (.iload_n 2, 1) := by decide +kernel
theorem dX4_shareFrame_20 : decode cX4_shareFrame 20 = .ok (.iaload, 1) := by decide +kernel
theorem dX4_shareFrame_21 : decode cX4_shareFrame 21 = .ok (.aload_n 0, 1) := by decide +kernel
theorem dX4_shareFrame_22 : decode cX4_shareFrame 22 = .ok (.getfield 31, 3) := by decide +kernel
theorem dX4_shareFrame_25 : decode cX4_shareFrame 25 = .ok (.iload_n 1, 1) := by decide +kernel
theorem dX4_shareFrame_26 : decode cX4_shareFrame 26 = .ok (.iaload, 1) := by decide +kernel
theorem dX4_shareFrame_27 : decode cX4_shareFrame 27 = .ok (.if_icmp .ge 7, 3) := by decide +kernel
theorem dX4_shareFrame_30 : decode cX4_shareFrame 30 = .ok (.iconst 1, 1) := by decide +kernel
theorem dX4_shareFrame_31 : decode cX4_shareFrame 31 = .ok (.goto 4, 3) := by decide +kernel
theorem dX4_shareFrame_34 : decode cX4_shareFrame 34 = .ok (.iconst 0, 1) := by decide +kernel
theorem dX4_shareFrame_35 : decode cX4_shareFrame 35 = .ok (.ireturn, 1) := by decide +kernel
theorem ci_X4_shareFrame : Cond.instanceMethod yX4_shareFrame ∈ TW := TW_of 1034 (by decide +kernel) (by decide +kernel)
theorem cs_X4_shareFrame : Cond.selects yX4_shareFrame.cls yX4_shareFrame yX4_shareFrame ∈ TW := TW_of 1035 (by decide +kernel) (by decide +kernel)
abbrev cX4_countOverlapping : ByteArray := prog_6_method_18_code
def yX4_countOverlapping : MethodName := ⟨RX4, "countOverlapping", "(I)I"⟩
theorem dX4_countOverlapping_0 : decode cX4_countOverlapping 0 = .ok (.iconst 0, 1) := by decide +kernel
theorem dX4_countOverlapping_1 : decode cX4_countOverlapping 1 = .ok (.istore_n 2, 1) := by decide +kernel
theorem dX4_countOverlapping_2 : decode cX4_countOverlapping 2 = .ok (.iconst 0, 1) := by decide +kernel
theorem dX4_countOverlapping_3 : decode cX4_countOverlapping 3 = .ok (.istore_n 3, 1) := by decide +kernel
theorem dX4_countOverlapping_4 : decode cX4_countOverlapping 4 = .ok (.iload_n 3, 1) := by decide +kernel
theorem dX4_countOverlapping_5 : decode cX4_countOverlapping 5 = .ok (.aload_n 0, 1) := by decide +kernel
theorem dX4_countOverlapping_6 : decode cX4_countOverlapping 6 = .ok (.getfield 62, 3) := by decide +kernel
theorem dX4_countOverlapping_9 : decode cX4_countOverlapping 9 = .ok (.if_icmp .ge 26, 3) := by decide +kernel
theorem dX4_countOverlapping_12 : decode cX4_countOverlapping 12 = .ok (.iload_n 3, 1) := by decide +kernel
theorem dX4_countOverlapping_13 : decode cX4_countOverlapping 13 = .ok (.iload_n 1, 1) := by decide +kernel
theorem dX4_countOverlapping_14 : decode cX4_countOverlapping 14 = .ok (.if_icmp .eq 15, 3) := by decide +kernel
theorem dX4_countOverlapping_17 : decode cX4_countOverlapping 17 = .ok (.aload_n 0, 1) := by decide +kernel
theorem dX4_countOverlapping_18 : decode cX4_countOverlapping 18 = .ok (.iload_n 3, 1) := by decide +kernel
theorem dX4_countOverlapping_19 : decode cX4_countOverlapping 19 = .ok (.iload_n 1, 1) := by decide +kernel
theorem dX4_countOverlapping_20 : decode cX4_countOverlapping 20 = .ok (.invokevirtual 92, 3) := by decide +kernel
theorem dX4_countOverlapping_23 : decode cX4_countOverlapping 23 = .ok (.ifCond .eq 6, 3) := by decide +kernel
theorem dX4_countOverlapping_26 : decode cX4_countOverlapping 26 = .ok (.iinc 2 1, 3) := by decide +kernel
theorem dX4_countOverlapping_29 : decode cX4_countOverlapping 29 = .ok (.iinc 3 1, 3) := by decide +kernel
theorem dX4_countOverlapping_32 : decode cX4_countOverlapping 32 = .ok (.goto (-28), 3) := by decide +kernel
theorem dX4_countOverlapping_35 : decode cX4_countOverlapping 35 = .ok (.iload_n 2, 1) := by decide +kernel
theorem dX4_countOverlapping_36 : decode cX4_countOverlapping 36 = .ok (.ireturn, 1) := by decide +kernel
theorem ci_X4_countOverlapping : Cond.instanceMethod yX4_countOverlapping ∈ TW := TW_of 1030 (by decide +kernel) (by decide +kernel)
theorem cs_X4_countOverlapping : Cond.selects yX4_countOverlapping.cls yX4_countOverlapping yX4_countOverlapping ∈ TW := TW_of 1031 (by decide +kernel) (by decide +kernel)
theorem ml_X4_75 : Cond.methodLink RX4 75 Lib.Math.max.name ∈ TW := TW_of 959 (by decide +kernel) (by decide +kernel)
theorem ml_X4_85 : Cond.methodLink RX4 85 Lib.Math.min.name ∈ TW := TW_of 964 (by decide +kernel) (by decide +kernel)
theorem cw_X4_71 : CWd RX4 71 yX4_isBefore cX4_isBefore 4 (some .boolean) 3 := ⟨TW_of 927 (by decide +kernel) (by decide +kernel), TW_of 930 (by decide +kernel) (by decide +kernel), TW_of 19 (by decide +kernel) (by decide +kernel), by decide +kernel⟩
theorem cw_X4_81 : CWd RX4 81 yX4_placeCutPoint cX4_placeCutPoint 8 none 1 := ⟨TW_of 960 (by decide +kernel) (by decide +kernel), TW_of 963 (by decide +kernel) (by decide +kernel), TW_of 19 (by decide +kernel) (by decide +kernel), by decide +kernel⟩
theorem cw_X4_92 : CWd RX4 92 yX4_shareFrame cX4_shareFrame 3 (some .boolean) 2 := ⟨TW_of 1033 (by decide +kernel) (by decide +kernel), TW_of 1036 (by decide +kernel) (by decide +kernel), TW_of 19 (by decide +kernel) (by decide +kernel), by decide +kernel⟩
set_option maxRecDepth 20000 in
set_option maxHeartbeats 1000000 in
theorem c_X4_firstFrame {l : Launch} {Z : ZT} {g : va_W} {h : Hp} {p0 : Nat} {p1 : Int32} {p2 : Int32} (hk_p0 : knd p0 = 4) {out : Int32} (hf : f_X4_firstFrame h p0 p1 p2 = some out) : Met l yX4_firstFrame (wY yX4_firstFrame cX4_firstFrame 3 (some .int)) (rmD 0) (va_Pc [.ref (Z.1 p0), .int p1, .int p2] (Wd Z h g)) (va_Qi (fun r (_ : Unit) => r = out) (fun _ => Wd Z h g) (FR Z)) 0 0 (FR Z) := by
  refine metX RX4 rfl (by decide +kernel) (Nat.le_of_ble_eq_true rfl) ?_
  intro p e s m args below meth c C hW ls hl
  have hl : lv_has ls 3 [(0, .ref (Z.1 p0)), (1, .int p1), (2, .int p2)] := hl
  unfold f_X4_firstFrame at hf
  refine lv_iload_n C.1 C.2.1 dX4_firstFrame_0 rfl (lv_at hl 1 rfl) ?_
  refine x_ifgt (tgt := 6) C hf dX4_firstFrame_1 (by decide) (fun hf => ?_) (fun hf => ?_)
  · refine lv_aload_n C.1 C.2.1 dX4_firstFrame_6 rfl (lv_at hl 0 rfl) ?_
    refine xg_X4_52 C hW hk_p0 dX4_firstFrame_7 ?_
    refine lv_iload_n C.1 C.2.1 dX4_firstFrame_10 rfl (lv_at hl 1 rfl) ?_
    refine lv_iconst (v := 1) C.1 C.2.1 dX4_firstFrame_11 (by decide) ?_
    refine lv_isub C.1 C.2.1 dX4_firstFrame_12 ?_
    refine x_ialdC C hW (o_X4_17 hk_p0) hf dX4_firstFrame_13 (fun hf => ?_)
    refine lv_iload_n C.1 C.2.1 dX4_firstFrame_14 rfl (lv_at hl 2 rfl) ?_
    refine lv_isub C.1 C.2.1 dX4_firstFrame_15 ?_
    refine lv_aload_n C.1 C.2.1 dX4_firstFrame_16 rfl (lv_at hl 0 rfl) ?_
    refine xg_X4_49 C hW hk_p0 dX4_firstFrame_17 ?_
    refine lv_iload_n C.1 C.2.1 dX4_firstFrame_20 rfl (lv_at hl 1 rfl) ?_
    refine lv_iconst (v := 1) C.1 C.2.1 dX4_firstFrame_21 (by decide) ?_
    refine lv_isub C.1 C.2.1 dX4_firstFrame_22 ?_
    refine x_ialdC C hW (o_X4_16 hk_p0) hf dX4_firstFrame_23 (fun hf => ?_)
    refine x_max C hl (ml_X4_75) (by decide) ⟨Nat.le_refl _, Nat.le_refl _⟩ (Nat.le_of_ble_eq_true rfl) dX4_firstFrame_24 ?_
    exact x_iret C hW dX4_firstFrame_27 (Option.some.inj hf)
  · refine lv_iconst (v := 0) C.1 C.2.1 dX4_firstFrame_4 (by decide) ?_
    exact x_iret C hW dX4_firstFrame_5 (Option.some.inj hf)
set_option maxRecDepth 20000 in
set_option maxHeartbeats 1000000 in
theorem c_X4_frameBehind {l : Launch} {Z : ZT} {g : va_W} {h : Hp} {p0 : Nat} {p1 : Int32} {p2 : Int32} (hk_p0 : knd p0 = 4) {out : Int32} (hf : f_X4_frameBehind h p0 p1 p2 = some out) : Met l yX4_frameBehind (wY yX4_frameBehind cX4_frameBehind 3 (some .int)) (rmD 0) (va_Pc [.ref (Z.1 p0), .int p1, .int p2] (Wd Z h g)) (va_Qi (fun r (_ : Unit) => r = out) (fun _ => Wd Z h g) (FR Z)) 0 0 (FR Z) := by
  refine metX RX4 rfl (by decide +kernel) (Nat.le_of_ble_eq_true rfl) ?_
  intro p e s m args below meth c C hW ls hl
  have hl : lv_has ls 3 [(0, .ref (Z.1 p0)), (1, .int p1), (2, .int p2)] := hl
  unfold f_X4_frameBehind at hf
  refine lv_iload_n C.1 C.2.1 dX4_frameBehind_0 rfl (lv_at hl 1 rfl) ?_
  refine lv_iconst (v := 1) C.1 C.2.1 dX4_frameBehind_1 (by decide) ?_
  refine lv_iadd C.1 C.2.1 dX4_frameBehind_2 ?_
  refine lv_aload_n C.1 C.2.1 dX4_frameBehind_3 rfl (lv_at hl 0 rfl) ?_
  refine xg_X4_68 C hW hk_p0 dX4_frameBehind_4 ?_
  refine x_cmplt (tgt := 15) C hf dX4_frameBehind_7 (by decide) (fun hf => ?_) (fun hf => ?_)
  · refine lv_aload_n C.1 C.2.1 dX4_frameBehind_15 rfl (lv_at hl 0 rfl) ?_
    refine xg_X4_52 C hW hk_p0 dX4_frameBehind_16 ?_
    refine lv_iload_n C.1 C.2.1 dX4_frameBehind_19 rfl (lv_at hl 1 rfl) ?_
    refine x_ialdC C hW (o_X4_17 hk_p0) hf dX4_frameBehind_20 (fun hf => ?_)
    refine lv_iload_n C.1 C.2.1 dX4_frameBehind_21 rfl (lv_at hl 2 rfl) ?_
    refine lv_iadd C.1 C.2.1 dX4_frameBehind_22 ?_
    refine lv_aload_n C.1 C.2.1 dX4_frameBehind_23 rfl (lv_at hl 0 rfl) ?_
    refine xg_X4_46 C hW hk_p0 dX4_frameBehind_24 ?_
    refine lv_iload_n C.1 C.2.1 dX4_frameBehind_27 rfl (lv_at hl 1 rfl) ?_
    refine lv_iconst (v := 1) C.1 C.2.1 dX4_frameBehind_28 (by decide) ?_
    refine lv_iadd C.1 C.2.1 dX4_frameBehind_29 ?_
    refine x_ialdC C hW (o_X4_15 hk_p0) hf dX4_frameBehind_30 (fun hf => ?_)
    refine x_min C hl (ml_X4_85) (by decide) ⟨Nat.le_refl _, Nat.le_refl _⟩ (Nat.le_of_ble_eq_true rfl) dX4_frameBehind_31 ?_
    exact x_iret C hW dX4_frameBehind_34 (Option.some.inj hf)
  · refine lv_aload_n C.1 C.2.1 dX4_frameBehind_10 rfl (lv_at hl 0 rfl) ?_
    refine xg_X4_9 C hW hk_p0 dX4_frameBehind_11 ?_
    exact x_iret C hW dX4_frameBehind_14 (Option.some.inj hf)
set_option maxRecDepth 20000 in
set_option maxHeartbeats 1000000 in
theorem c_X4_rangeStart {l : Launch} {Z : ZT} {g : va_W} {h : Hp} {p0 : Nat} {p1 : Int32} (hk_p0 : knd p0 = 4) {out : Int32} (hf : f_X4_rangeStart h p0 p1 = some out) : Met l yX4_rangeStart (wY yX4_rangeStart cX4_rangeStart 2 (some .int)) (rmD 0) (va_Pc [.ref (Z.1 p0), .int p1] (Wd Z h g)) (va_Qi (fun r (_ : Unit) => r = out) (fun _ => Wd Z h g) (FR Z)) 0 0 (FR Z) := by
  refine metX RX4 rfl (by decide +kernel) (Nat.le_of_ble_eq_true rfl) ?_
  intro p e s m args below meth c C hW ls hl
  have hl : lv_has ls 2 [(0, .ref (Z.1 p0)), (1, .int p1)] := hl
  unfold f_X4_rangeStart at hf
  refine lv_iload_n C.1 C.2.1 dX4_rangeStart_0 rfl (lv_at hl 1 rfl) ?_
  refine x_ifgt (tgt := 8) C hf dX4_rangeStart_1 (by decide) (fun hf => ?_) (fun hf => ?_)
  · refine lv_aload_n C.1 C.2.1 dX4_rangeStart_8 rfl (lv_at hl 0 rfl) ?_
    refine xg_X4_52 C hW hk_p0 dX4_rangeStart_9 ?_
    refine lv_iload_n C.1 C.2.1 dX4_rangeStart_12 rfl (lv_at hl 1 rfl) ?_
    refine lv_iconst (v := 1) C.1 C.2.1 dX4_rangeStart_13 (by decide) ?_
    refine lv_isub C.1 C.2.1 dX4_rangeStart_14 ?_
    refine x_ialdC C hW (o_X4_17 hk_p0) hf dX4_rangeStart_15 (fun hf => ?_)
    exact x_iret C hW dX4_rangeStart_16 (Option.some.inj hf)
  · refine lv_iconst (v := 0) C.1 C.2.1 dX4_rangeStart_4 (by decide) ?_
    refine lv_goto (tgt := 16) C.1 C.2.1 dX4_rangeStart_5 (by decide) ?_
    exact x_iret C hW dX4_rangeStart_16 (Option.some.inj hf)
set_option maxRecDepth 20000 in
set_option maxHeartbeats 1000000 in
theorem c_X4_clear {l : Launch} {Z : ZT} {g : va_W} {h : Hp} {p0 : Nat} (hk_p0 : knd p0 = 4) {out : Hp} (hf : f_X4_clear h p0 = some out) : Met l yX4_clear (wY yX4_clear cX4_clear 1 none) (rmD 0) (va_Pc [.ref (Z.1 p0)] (Wd Z h g)) (va_Qv (fun (_ : Unit) => True) (fun _ => Wd Z out g) (FR Z)) 0 0 (FR Z) := by
  refine metX RX4 rfl (by decide +kernel) (Nat.le_of_ble_eq_true rfl) ?_
  intro p e s m args below meth c C hW ls hl
  have hl : lv_has ls 1 [(0, .ref (Z.1 p0))] := hl
  unfold f_X4_clear at hf
  refine lv_aload_n C.1 C.2.1 dX4_clear_0 rfl (lv_at hl 0 rfl) ?_
  refine lv_sipush (v := 1000) C.1 C.2.1 dX4_clear_1 (by decide) ?_
  refine xp_X4_9 C hW hk_p0 hf dX4_clear_4 (fun h1 H locs hf hW => ?_)
  refine lv_aload_n C.1 C.2.1 dX4_clear_7 rfl (lv_at hl 0 rfl) ?_
  refine lv_bipush (v := 12) C.1 C.2.1 dX4_clear_8 (by decide) ?_
  refine xp_X4_15 C hW hk_p0 hf dX4_clear_10 (fun h2 H locs hf hW => ?_)
  refine lv_aload_n C.1 C.2.1 dX4_clear_13 rfl (lv_at hl 0 rfl) ?_
  refine lv_iconst (v := 0) C.1 C.2.1 dX4_clear_14 (by decide) ?_
  refine xp_X4_59 C hW hk_p0 hf dX4_clear_15 (fun h3 H locs hf hW => ?_)
  refine lv_aload_n C.1 C.2.1 dX4_clear_18 rfl (lv_at hl 0 rfl) ?_
  refine lv_iconst (v := 0) C.1 C.2.1 dX4_clear_19 (by decide) ?_
  refine xp_X4_62 C hW hk_p0 hf dX4_clear_20 (fun h4 H locs hf hW => ?_)
  refine lv_aload_n C.1 C.2.1 dX4_clear_23 rfl (lv_at hl 0 rfl) ?_
  refine lv_iconst (v := 0) C.1 C.2.1 dX4_clear_24 (by decide) ?_
  refine xp_X4_65 C hW hk_p0 hf dX4_clear_25 (fun h5 H locs hf hW => ?_)
  refine lv_aload_n C.1 C.2.1 dX4_clear_28 rfl (lv_at hl 0 rfl) ?_
  refine lv_iconst (v := 0) C.1 C.2.1 dX4_clear_29 (by decide) ?_
  refine xp_X4_68 C hW hk_p0 hf dX4_clear_30 (fun h6 H locs hf hW => ?_)
  obtain rfl := Option.some.inj hf
  exact x_vret C hW dX4_clear_33 trivial
set_option maxRecDepth 20000 in
set_option maxHeartbeats 1000000 in
theorem c_X4_addSpeaker {l : Launch} {Z : ZT} {g : va_W} {h : Hp} {p0 : Nat} {p1 : Int32} (hk_p0 : knd p0 = 4) {out : Hp} (hf : f_X4_addSpeaker h p0 p1 = some out) : Met l yX4_addSpeaker (wY yX4_addSpeaker cX4_addSpeaker 2 none) (rmD 0) (va_Pc [.ref (Z.1 p0), .int p1] (Wd Z h g)) (va_Qv (fun (_ : Unit) => True) (fun _ => Wd Z out g) (FR Z)) 0 0 (FR Z) := by
  refine metX RX4 rfl (by decide +kernel) (Nat.le_of_ble_eq_true rfl) ?_
  intro p e s m args below meth c C hW ls hl
  have hl : lv_has ls 2 [(0, .ref (Z.1 p0)), (1, .int p1)] := hl
  unfold f_X4_addSpeaker at hf
  refine lv_aload_n C.1 C.2.1 dX4_addSpeaker_0 rfl (lv_at hl 0 rfl) ?_
  refine xg_X4_59 C hW hk_p0 dX4_addSpeaker_1 ?_
  refine lv_iconst (v := 4) C.1 C.2.1 dX4_addSpeaker_4 (by decide) ?_
  refine x_cmpge (tgt := 28) C hf dX4_addSpeaker_5 (by decide) (fun hf => ?_) (fun hf => ?_)
  · obtain rfl := Option.some.inj hf
    exact x_vret C hW dX4_addSpeaker_28 trivial
  · refine lv_aload_n C.1 C.2.1 dX4_addSpeaker_8 rfl (lv_at hl 0 rfl) ?_
    refine xg_X4_18 C hW hk_p0 dX4_addSpeaker_9 ?_
    refine lv_aload_n C.1 C.2.1 dX4_addSpeaker_12 rfl (lv_at hl 0 rfl) ?_
    refine xg_X4_59 C hW hk_p0 dX4_addSpeaker_13 ?_
    refine lv_iload_n C.1 C.2.1 dX4_addSpeaker_16 rfl (lv_at hl 1 rfl) ?_
    refine x_iastC C hW (o_X4_3 hk_p0) hf dX4_addSpeaker_17 (fun h1 H locs hf hW => ?_)
    refine lv_aload_n C.1 C.2.1 dX4_addSpeaker_18 rfl (lv_at hl 0 rfl) ?_
    refine lv_dup C.1 C.2.1 dX4_addSpeaker_19 rfl ?_
    refine xg_X4_59 C hW hk_p0 dX4_addSpeaker_20 ?_
    refine lv_iconst (v := 1) C.1 C.2.1 dX4_addSpeaker_23 (by decide) ?_
    refine lv_iadd C.1 C.2.1 dX4_addSpeaker_24 ?_
    refine xp_X4_59 C hW hk_p0 hf dX4_addSpeaker_25 (fun h2 H locs hf hW => ?_)
    obtain rfl := Option.some.inj hf
    exact x_vret C hW dX4_addSpeaker_28 trivial
set_option maxRecDepth 20000 in
set_option maxHeartbeats 1000000 in
theorem c_X4_addBreath {l : Launch} {Z : ZT} {g : va_W} {h : Hp} {p0 : Nat} {p1 : Int32} {p2 : Int32} (hk_p0 : knd p0 = 4) {out : Hp} (hf : f_X4_addBreath h p0 p1 p2 = some out) : Met l yX4_addBreath (wY yX4_addBreath cX4_addBreath 3 none) (rmD 0) (va_Pc [.ref (Z.1 p0), .int p1, .int p2] (Wd Z h g)) (va_Qv (fun (_ : Unit) => True) (fun _ => Wd Z out g) (FR Z)) 0 0 (FR Z) := by
  refine metX RX4 rfl (by decide +kernel) (Nat.le_of_ble_eq_true rfl) ?_
  intro p e s m args below meth c C hW ls hl
  have hl : lv_has ls 3 [(0, .ref (Z.1 p0)), (1, .int p1), (2, .int p2)] := hl
  unfold f_X4_addBreath at hf
  refine lv_aload_n C.1 C.2.1 dX4_addBreath_0 rfl (lv_at hl 0 rfl) ?_
  refine xg_X4_65 C hW hk_p0 dX4_addBreath_1 ?_
  refine lv_bipush (v := 12) C.1 C.2.1 dX4_addBreath_4 (by decide) ?_
  refine x_cmpge (tgt := 39) C hf dX4_addBreath_6 (by decide) (fun hf => ?_) (fun hf => ?_)
  · obtain rfl := Option.some.inj hf
    exact x_vret C hW dX4_addBreath_39 trivial
  · refine lv_aload_n C.1 C.2.1 dX4_addBreath_9 rfl (lv_at hl 0 rfl) ?_
    refine xg_X4_37 C hW hk_p0 dX4_addBreath_10 ?_
    refine lv_aload_n C.1 C.2.1 dX4_addBreath_13 rfl (lv_at hl 0 rfl) ?_
    refine xg_X4_65 C hW hk_p0 dX4_addBreath_14 ?_
    refine lv_iload_n C.1 C.2.1 dX4_addBreath_17 rfl (lv_at hl 1 rfl) ?_
    refine x_iastC C hW (o_X4_11 hk_p0) hf dX4_addBreath_18 (fun h1 H locs hf hW => ?_)
    refine lv_aload_n C.1 C.2.1 dX4_addBreath_19 rfl (lv_at hl 0 rfl) ?_
    refine xg_X4_40 C hW hk_p0 dX4_addBreath_20 ?_
    refine lv_aload_n C.1 C.2.1 dX4_addBreath_23 rfl (lv_at hl 0 rfl) ?_
    refine xg_X4_65 C hW hk_p0 dX4_addBreath_24 ?_
    refine lv_iload_n C.1 C.2.1 dX4_addBreath_27 rfl (lv_at hl 2 rfl) ?_
    refine x_iastC C hW (o_X4_12 hk_p0) hf dX4_addBreath_28 (fun h2 H locs hf hW => ?_)
    refine lv_aload_n C.1 C.2.1 dX4_addBreath_29 rfl (lv_at hl 0 rfl) ?_
    refine lv_dup C.1 C.2.1 dX4_addBreath_30 rfl ?_
    refine xg_X4_65 C hW hk_p0 dX4_addBreath_31 ?_
    refine lv_iconst (v := 1) C.1 C.2.1 dX4_addBreath_34 (by decide) ?_
    refine lv_iadd C.1 C.2.1 dX4_addBreath_35 ?_
    refine xp_X4_65 C hW hk_p0 hf dX4_addBreath_36 (fun h3 H locs hf hW => ?_)
    obtain rfl := Option.some.inj hf
    exact x_vret C hW dX4_addBreath_39 trivial
set_option maxRecDepth 20000 in
set_option maxHeartbeats 1000000 in
theorem c_X4_isBefore {l : Launch} {Z : ZT} {g : va_W} {h : Hp} {p0 : Nat} {p1 : Int32} {p2 : Int32} {p3 : Int32} (hk_p0 : knd p0 = 4) {out : Int32} (hf : f_X4_isBefore h p0 p1 p2 p3 = some out) : Met l yX4_isBefore (wY yX4_isBefore cX4_isBefore 4 (some .boolean)) (rmD 0) (va_Pc [.ref (Z.1 p0), .int p1, .int p2, .int p3] (Wd Z h g)) (va_Qi (fun r (_ : Unit) => r = out) (fun _ => Wd Z h g) (FR Z)) 0 0 (FR Z) := by
  refine metX RX4 rfl (by decide +kernel) (Nat.le_of_ble_eq_true rfl) ?_
  intro p e s m args below meth c C hW ls hl
  have hl : lv_has ls 4 [(0, .ref (Z.1 p0)), (1, .int p1), (2, .int p2), (3, .int p3)] := hl
  unfold f_X4_isBefore at hf
  refine lv_iload_n C.1 C.2.1 dX4_isBefore_0 rfl (lv_at hl 1 rfl) ?_
  refine lv_aload_n C.1 C.2.1 dX4_isBefore_1 rfl (lv_at hl 0 rfl) ?_
  refine xg_X4_28 C hW hk_p0 dX4_isBefore_2 ?_
  refine lv_iload_n C.1 C.2.1 dX4_isBefore_5 rfl (lv_at hl 3 rfl) ?_
  refine x_ialdC C hW (o_X4_7 hk_p0) hf dX4_isBefore_6 (fun hf => ?_)
  refine x_cmpeq (tgt := 26) C hf dX4_isBefore_7 (by decide) (fun hf => ?_) (fun hf => ?_)
  · refine lv_iload_n C.1 C.2.1 dX4_isBefore_26 rfl (lv_at hl 2 rfl) ?_
    refine lv_aload_n C.1 C.2.1 dX4_isBefore_27 rfl (lv_at hl 0 rfl) ?_
    refine xg_X4_25 C hW hk_p0 dX4_isBefore_28 ?_
    refine lv_iload_n C.1 C.2.1 dX4_isBefore_31 rfl (lv_at hl 3 rfl) ?_
    refine x_ialdC C hW (o_X4_6 hk_p0) hf dX4_isBefore_32 (fun hf => ?_)
    refine x_cmpge (tgt := 40) C hf dX4_isBefore_33 (by decide) (fun hf => ?_) (fun hf => ?_)
    · refine lv_iconst (v := 0) C.1 C.2.1 dX4_isBefore_40 (by decide) ?_
      exact x_zret C hW (by decide) dX4_isBefore_41 (Option.some.inj hf)
    · refine lv_iconst (v := 1) C.1 C.2.1 dX4_isBefore_36 (by decide) ?_
      refine lv_goto (tgt := 41) C.1 C.2.1 dX4_isBefore_37 (by decide) ?_
      exact x_zret C hW (by decide) dX4_isBefore_41 (Option.some.inj hf)
  · refine lv_iload_n C.1 C.2.1 dX4_isBefore_10 rfl (lv_at hl 1 rfl) ?_
    refine lv_aload_n C.1 C.2.1 dX4_isBefore_11 rfl (lv_at hl 0 rfl) ?_
    refine xg_X4_28 C hW hk_p0 dX4_isBefore_12 ?_
    refine lv_iload_n C.1 C.2.1 dX4_isBefore_15 rfl (lv_at hl 3 rfl) ?_
    refine x_ialdC C hW (o_X4_7 hk_p0) hf dX4_isBefore_16 (fun hf => ?_)
    refine x_cmpge (tgt := 24) C hf dX4_isBefore_17 (by decide) (fun hf => ?_) (fun hf => ?_)
    · refine lv_iconst (v := 0) C.1 C.2.1 dX4_isBefore_24 (by decide) ?_
      exact x_zret C hW (by decide) dX4_isBefore_25 (Option.some.inj hf)
    · refine lv_iconst (v := 1) C.1 C.2.1 dX4_isBefore_20 (by decide) ?_
      refine lv_goto (tgt := 25) C.1 C.2.1 dX4_isBefore_21 (by decide) ?_
      exact x_zret C hW (by decide) dX4_isBefore_25 (Option.some.inj hf)
set_option maxRecDepth 20000 in
set_option maxHeartbeats 1000000 in
theorem j_X4_addWord_104 {l : Launch} {Z : ZT} {g : va_W} {p0 : Nat} {p1 : Int32} {p2 : Int32} {p3 : Int32} {p4 : Int32} {h : Hp} {x5 : Int32} (hk_p0 : knd p0 = 4) {p : Program} {e : Env} {s : State} {m : MethodId} {args : Array Value} {below : List Frame} {meth : Method} {c : Code} (C : CX p s m args meth c cX4_addWord RX4 6 none Z g) {out : Hp} {ls : Array Slot} {H : Heap} {locs : List Loc} (hW : XW Z h g s.heap H locs) (hl : lv_has ls 6 [(0, .ref (Z.1 p0)), (1, .int p1), (2, .int p2), (3, .int p3), (4, .int p4), (5, .int x5)]) (hf : J_X4_addWord_104 p0 p1 p2 p3 p4 h x5 = some out) : W p l e (rmD 1) s m args below meth c H locs 0 0 (MQ below (va_Qv (fun (_ : Unit) => True) (fun _ => Wd Z out g) (FR Z)) args s 0 0 (FR Z)) (F0 m 104 ls []) := by
  refine lv_aload_n C.1 C.2.1 dX4_addWord_104 rfl (lv_at hl 0 rfl) ?_
  refine xg_X4_22 C hW hk_p0 dX4_addWord_105 ?_
  refine lv_iload C.1 C.2.1 dX4_addWord_108 (lv_at hl 5 rfl) ?_
  refine lv_iload_n C.1 C.2.1 dX4_addWord_110 rfl (lv_at hl 1 rfl) ?_
  refine x_iastC C hW (o_X4_5 hk_p0) hf dX4_addWord_111 (fun h1 H locs hf hW => ?_)
  refine lv_aload_n C.1 C.2.1 dX4_addWord_112 rfl (lv_at hl 0 rfl) ?_
  refine xg_X4_25 C hW hk_p0 dX4_addWord_113 ?_
  refine lv_iload C.1 C.2.1 dX4_addWord_116 (lv_at hl 5 rfl) ?_
  refine lv_iload_n C.1 C.2.1 dX4_addWord_118 rfl (lv_at hl 2 rfl) ?_
  refine x_iastC C hW (o_X4_6 hk_p0) hf dX4_addWord_119 (fun h2 H locs hf hW => ?_)
  refine lv_aload_n C.1 C.2.1 dX4_addWord_120 rfl (lv_at hl 0 rfl) ?_
  refine xg_X4_28 C hW hk_p0 dX4_addWord_121 ?_
  refine lv_iload C.1 C.2.1 dX4_addWord_124 (lv_at hl 5 rfl) ?_
  refine lv_iload_n C.1 C.2.1 dX4_addWord_126 rfl (lv_at hl 3 rfl) ?_
  refine x_iastC C hW (o_X4_7 hk_p0) hf dX4_addWord_127 (fun h3 H locs hf hW => ?_)
  refine lv_aload_n C.1 C.2.1 dX4_addWord_128 rfl (lv_at hl 0 rfl) ?_
  refine xg_X4_31 C hW hk_p0 dX4_addWord_129 ?_
  refine lv_iload C.1 C.2.1 dX4_addWord_132 (lv_at hl 5 rfl) ?_
  refine lv_iload C.1 C.2.1 dX4_addWord_134 (lv_at hl 4 rfl) ?_
  refine x_iastC C hW (o_X4_8 hk_p0) hf dX4_addWord_136 (fun h4 H locs hf hW => ?_)
  refine lv_aload_n C.1 C.2.1 dX4_addWord_137 rfl (lv_at hl 0 rfl) ?_
  refine lv_dup C.1 C.2.1 dX4_addWord_138 rfl ?_
  refine xg_X4_62 C hW hk_p0 dX4_addWord_139 ?_
  refine lv_iconst (v := 1) C.1 C.2.1 dX4_addWord_142 (by decide) ?_
  refine lv_iadd C.1 C.2.1 dX4_addWord_143 ?_
  refine xp_X4_62 C hW hk_p0 hf dX4_addWord_144 (fun h5 H locs hf hW => ?_)
  obtain rfl := Option.some.inj hf
  exact x_vret C hW dX4_addWord_147 trivial
set_option maxRecDepth 20000 in
set_option maxHeartbeats 1000000 in
theorem l_X4_addWord_16 {l : Launch} {Z : ZT} {g : va_W} {p0 : Nat} {p1 : Int32} {p2 : Int32} {p3 : Int32} {p4 : Int32} (hk_p0 : knd p0 = 4) {p : Program} {e : Env} {s : State} {m : MethodId} {args : Array Value} {below : List Frame} {meth : Method} {c : Code} (C : CX p s m args meth c cX4_addWord RX4 6 none Z g) {out : Hp} : ∀ (n : Nat) (x5 : Int32) (h : Hp) (ls : Array Slot) (H : Heap) (locs : List Loc), XW Z h g s.heap H locs → lv_has ls 6 [(0, .ref (Z.1 p0)), (1, .int p1), (2, .int p2), (3, .int p3), (4, .int p4), (5, .int x5)] → Lp (F_X4_addWord_16 p0 p1 p2 p3 p4) n (x5, h) = some out → W p l e (rmD 1) s m args below meth c H locs 0 0 (MQ below (va_Qv (fun (_ : Unit) => True) (fun _ => Wd Z out g) (FR Z)) args s 0 0 (FR Z)) (F0 m 16 ls []) := by
  intro n
  induction n with
  | zero => intro x5 h ls H locs hW hl hf; cases hf
  | succ n ih =>
    intro x5 h ls H locs hW hl hf
    rw [Lp_s] at hf
    refine lv_iload C.1 C.2.1 dX4_addWord_16 (lv_at hl 5 rfl) ?_
    refine x_ifle (tgt := 104) C hf dX4_addWord_18 (by decide) (fun hf => ?_) (fun hf => ?_)
    · exact j_X4_addWord_104 hk_p0 C hW (lv_sub hl [0, 1, 2, 3, 4, 5] rfl) hf
    · refine lv_aload_n C.1 C.2.1 dX4_addWord_21 rfl (lv_at hl 0 rfl) ?_
      refine lv_iload_n C.1 C.2.1 dX4_addWord_22 rfl (lv_at hl 3 rfl) ?_
      refine lv_iload_n C.1 C.2.1 dX4_addWord_23 rfl (lv_at hl 2 rfl) ?_
      refine lv_iload C.1 C.2.1 dX4_addWord_24 (lv_at hl 5 rfl) ?_
      refine lv_iconst (v := 1) C.1 C.2.1 dX4_addWord_26 (by decide) ?_
      refine lv_isub C.1 C.2.1 dX4_addWord_27 ?_
      obtain ⟨u6, hcu6, hf⟩ := bnd_t hf
      refine x_calli hW (x_runV C hW hl (wk4 hk_p0) rfl rfl (c_X4_isBefore hk_p0 hcu6) (cw_X4_71) ci_X4_isBefore cs_X4_isBefore (rm_ok (by decide) (by decide)) ⟨Nat.le_refl _, Nat.le_refl _⟩ (As := [.int p3, .int p2, .int (x5 - (1 : Int32))]) rfl rfl (Nat.le_of_ble_eq_true rfl) dX4_addWord_28) (fun H locs hW => ?_)
      refine x_ifeq (tgt := 104) C hf dX4_addWord_31 (by decide) (fun hf => ?_) (fun hf => ?_)
      · exact j_X4_addWord_104 hk_p0 C hW (lv_sub hl [0, 1, 2, 3, 4, 5] rfl) hf
      · refine lv_aload_n C.1 C.2.1 dX4_addWord_34 rfl (lv_at hl 0 rfl) ?_
        refine xg_X4_22 C hW hk_p0 dX4_addWord_35 ?_
        refine lv_iload C.1 C.2.1 dX4_addWord_38 (lv_at hl 5 rfl) ?_
        refine lv_aload_n C.1 C.2.1 dX4_addWord_40 rfl (lv_at hl 0 rfl) ?_
        refine xg_X4_22 C hW hk_p0 dX4_addWord_41 ?_
        refine lv_iload C.1 C.2.1 dX4_addWord_44 (lv_at hl 5 rfl) ?_
        refine lv_iconst (v := 1) C.1 C.2.1 dX4_addWord_46 (by decide) ?_
        refine lv_isub C.1 C.2.1 dX4_addWord_47 ?_
        refine x_ialdC C hW (o_X4_5 hk_p0) hf dX4_addWord_48 (fun hf => ?_)
        refine x_iastC C hW (o_X4_5 hk_p0) hf dX4_addWord_49 (fun h7 H locs hf hW => ?_)
        refine lv_aload_n C.1 C.2.1 dX4_addWord_50 rfl (lv_at hl 0 rfl) ?_
        refine xg_X4_25 C hW hk_p0 dX4_addWord_51 ?_
        refine lv_iload C.1 C.2.1 dX4_addWord_54 (lv_at hl 5 rfl) ?_
        refine lv_aload_n C.1 C.2.1 dX4_addWord_56 rfl (lv_at hl 0 rfl) ?_
        refine xg_X4_25 C hW hk_p0 dX4_addWord_57 ?_
        refine lv_iload C.1 C.2.1 dX4_addWord_60 (lv_at hl 5 rfl) ?_
        refine lv_iconst (v := 1) C.1 C.2.1 dX4_addWord_62 (by decide) ?_
        refine lv_isub C.1 C.2.1 dX4_addWord_63 ?_
        refine x_ialdC C hW (o_X4_6 hk_p0) hf dX4_addWord_64 (fun hf => ?_)
        refine x_iastC C hW (o_X4_6 hk_p0) hf dX4_addWord_65 (fun h8 H locs hf hW => ?_)
        refine lv_aload_n C.1 C.2.1 dX4_addWord_66 rfl (lv_at hl 0 rfl) ?_
        refine xg_X4_28 C hW hk_p0 dX4_addWord_67 ?_
        refine lv_iload C.1 C.2.1 dX4_addWord_70 (lv_at hl 5 rfl) ?_
        refine lv_aload_n C.1 C.2.1 dX4_addWord_72 rfl (lv_at hl 0 rfl) ?_
        refine xg_X4_28 C hW hk_p0 dX4_addWord_73 ?_
        refine lv_iload C.1 C.2.1 dX4_addWord_76 (lv_at hl 5 rfl) ?_
        refine lv_iconst (v := 1) C.1 C.2.1 dX4_addWord_78 (by decide) ?_
        refine lv_isub C.1 C.2.1 dX4_addWord_79 ?_
        refine x_ialdC C hW (o_X4_7 hk_p0) hf dX4_addWord_80 (fun hf => ?_)
        refine x_iastC C hW (o_X4_7 hk_p0) hf dX4_addWord_81 (fun h9 H locs hf hW => ?_)
        refine lv_aload_n C.1 C.2.1 dX4_addWord_82 rfl (lv_at hl 0 rfl) ?_
        refine xg_X4_31 C hW hk_p0 dX4_addWord_83 ?_
        refine lv_iload C.1 C.2.1 dX4_addWord_86 (lv_at hl 5 rfl) ?_
        refine lv_aload_n C.1 C.2.1 dX4_addWord_88 rfl (lv_at hl 0 rfl) ?_
        refine xg_X4_31 C hW hk_p0 dX4_addWord_89 ?_
        refine lv_iload C.1 C.2.1 dX4_addWord_92 (lv_at hl 5 rfl) ?_
        refine lv_iconst (v := 1) C.1 C.2.1 dX4_addWord_94 (by decide) ?_
        refine lv_isub C.1 C.2.1 dX4_addWord_95 ?_
        refine x_ialdC C hW (o_X4_8 hk_p0) hf dX4_addWord_96 (fun hf => ?_)
        refine x_iastC C hW (o_X4_8 hk_p0) hf dX4_addWord_97 (fun h10 H locs hf hW => ?_)
        refine x_iinc (w := -1) C hf dX4_addWord_98 hl (k := 5) rfl (by decide) (by decide) (fun v11 => [(5, .int v11), (0, .ref (Z.1 p0)), (1, .int p1), (2, .int p2), (3, .int p3), (4, .int p4)]) (fun _ => rfl) (fun v11 ls hf hl => ?_)
        refine lv_goto (tgt := 16) C.1 C.2.1 dX4_addWord_101 (by decide) ?_
        exact ih v11 h10 ls _ _ hW (lv_sub hl [1, 2, 3, 4, 5, 0] rfl) hf
set_option maxRecDepth 20000 in
set_option maxHeartbeats 1000000 in
theorem c_X4_addWord {l : Launch} {Z : ZT} {g : va_W} {h : Hp} {p0 : Nat} {p1 : Int32} {p2 : Int32} {p3 : Int32} {p4 : Int32} (hk_p0 : knd p0 = 4) {out : Hp} (hf : f_X4_addWord h p0 p1 p2 p3 p4 = some out) : Met l yX4_addWord (wY yX4_addWord cX4_addWord 6 none) (rmD 1) (va_Pc [.ref (Z.1 p0), .int p1, .int p2, .int p3, .int p4] (Wd Z h g)) (va_Qv (fun (_ : Unit) => True) (fun _ => Wd Z out g) (FR Z)) 0 0 (FR Z) := by
  refine metX RX4 rfl (by decide +kernel) (Nat.le_of_ble_eq_true rfl) ?_
  intro p e s m args below meth c C hW ls hl
  have hl : lv_has ls 6 [(0, .ref (Z.1 p0)), (1, .int p1), (2, .int p2), (3, .int p3), (4, .int p4)] := hl
  unfold f_X4_addWord at hf
  refine lv_aload_n C.1 C.2.1 dX4_addWord_0 rfl (lv_at hl 0 rfl) ?_
  refine xg_X4_62 C hW hk_p0 dX4_addWord_1 ?_
  refine lv_bipush (v := 40) C.1 C.2.1 dX4_addWord_4 (by decide) ?_
  refine x_cmplt (tgt := 10) C hf dX4_addWord_6 (by decide) (fun hf => ?_) (fun hf => ?_)
  · refine lv_aload_n C.1 C.2.1 dX4_addWord_10 rfl (lv_at hl 0 rfl) ?_
    refine xg_X4_62 C hW hk_p0 dX4_addWord_11 ?_
    refine x_ist C hf dX4_addWord_14 hl (by decide) (fun v12 => [(5, .int v12), (0, .ref (Z.1 p0)), (1, .int p1), (2, .int p2), (3, .int p3), (4, .int p4)]) (fun _ => rfl) (fun v12 ls hf hl => ?_)
    exact l_X4_addWord_16 hk_p0 C FU v12 h ls _ _ hW (lv_sub hl [1, 2, 3, 4, 5, 0] rfl) hf
  · obtain rfl := Option.some.inj hf
    exact x_vret C hW dX4_addWord_9 trivial
set_option maxRecDepth 20000 in
set_option maxHeartbeats 1000000 in
theorem l_X4_speakerNamed_2 {l : Launch} {Z : ZT} {g : va_W} {h : Hp} {p0 : Nat} {p1 : Int32} (hk_p0 : knd p0 = 4) {p : Program} {e : Env} {s : State} {m : MethodId} {args : Array Value} {below : List Frame} {meth : Method} {c : Code} (C : CX p s m args meth c cX4_speakerNamed RX4 3 (some .int) Z g) {out : Int32} : ∀ (n : Nat) (x2 : Int32) (ls : Array Slot) (H : Heap) (locs : List Loc), XW Z h g s.heap H locs → lv_has ls 3 [(0, .ref (Z.1 p0)), (1, .int p1), (2, .int x2)] → Lp (F_X4_speakerNamed_2 h p0 p1) n x2 = some out → W p l e (rmD 0) s m args below meth c H locs 0 0 (MQ below (va_Qi (fun r (_ : Unit) => r = out) (fun _ => Wd Z h g) (FR Z)) args s 0 0 (FR Z)) (F0 m 2 ls []) := by
  intro n
  induction n with
  | zero => intro x2 ls H locs hW hl hf; cases hf
  | succ n ih =>
    intro x2 ls H locs hW hl hf
    rw [Lp_s] at hf
    refine lv_iload_n C.1 C.2.1 dX4_speakerNamed_2 rfl (lv_at hl 2 rfl) ?_
    refine lv_aload_n C.1 C.2.1 dX4_speakerNamed_3 rfl (lv_at hl 0 rfl) ?_
    refine xg_X4_59 C hW hk_p0 dX4_speakerNamed_4 ?_
    refine x_cmpge (tgt := 28) C hf dX4_speakerNamed_7 (by decide) (fun hf => ?_) (fun hf => ?_)
    · refine lv_iconst (v := -1) C.1 C.2.1 dX4_speakerNamed_28 (by decide) ?_
      exact x_iret C hW dX4_speakerNamed_29 (Option.some.inj hf)
    · refine lv_aload_n C.1 C.2.1 dX4_speakerNamed_10 rfl (lv_at hl 0 rfl) ?_
      refine xg_X4_18 C hW hk_p0 dX4_speakerNamed_11 ?_
      refine lv_iload_n C.1 C.2.1 dX4_speakerNamed_14 rfl (lv_at hl 2 rfl) ?_
      refine x_ialdC C hW (o_X4_3 hk_p0) hf dX4_speakerNamed_15 (fun hf => ?_)
      refine lv_iload_n C.1 C.2.1 dX4_speakerNamed_16 rfl (lv_at hl 1 rfl) ?_
      refine x_cmpne (tgt := 22) C hf dX4_speakerNamed_17 (by decide) (fun hf => ?_) (fun hf => ?_)
      · refine x_iinc (w := 1) C hf dX4_speakerNamed_22 hl (k := 2) rfl (by decide) (by decide) (fun v1 => [(2, .int v1), (0, .ref (Z.1 p0)), (1, .int p1)]) (fun _ => rfl) (fun v1 ls hf hl => ?_)
        refine lv_goto (tgt := 2) C.1 C.2.1 dX4_speakerNamed_25 (by decide) ?_
        exact ih v1 ls _ _ hW (lv_sub hl [1, 2, 0] rfl) hf
      · refine lv_iload_n C.1 C.2.1 dX4_speakerNamed_20 rfl (lv_at hl 2 rfl) ?_
        exact x_iret C hW dX4_speakerNamed_21 (Option.some.inj hf)
set_option maxRecDepth 20000 in
set_option maxHeartbeats 1000000 in
theorem c_X4_speakerNamed {l : Launch} {Z : ZT} {g : va_W} {h : Hp} {p0 : Nat} {p1 : Int32} (hk_p0 : knd p0 = 4) {out : Int32} (hf : f_X4_speakerNamed h p0 p1 = some out) : Met l yX4_speakerNamed (wY yX4_speakerNamed cX4_speakerNamed 3 (some .int)) (rmD 0) (va_Pc [.ref (Z.1 p0), .int p1] (Wd Z h g)) (va_Qi (fun r (_ : Unit) => r = out) (fun _ => Wd Z h g) (FR Z)) 0 0 (FR Z) := by
  refine metX RX4 rfl (by decide +kernel) (Nat.le_of_ble_eq_true rfl) ?_
  intro p e s m args below meth c C hW ls hl
  have hl : lv_has ls 3 [(0, .ref (Z.1 p0)), (1, .int p1)] := hl
  unfold f_X4_speakerNamed at hf
  refine lv_iconst (v := 0) C.1 C.2.1 dX4_speakerNamed_0 (by decide) ?_
  refine lv_istore_n (lv' := [(2, .int (0 : Int32)), (0, .ref (Z.1 p0)), (1, .int p1)]) C.1 C.2.1 dX4_speakerNamed_1 rfl hl (by decide) rfl (fun ls hl => ?_)
  exact l_X4_speakerNamed_2 hk_p0 C FU (0 : Int32) ls _ _ hW (lv_sub hl [1, 2, 0] rfl) hf
set_option maxRecDepth 20000 in
set_option maxHeartbeats 1000000 in
theorem j_X4_speaksBetween_47 {l : Launch} {Z : ZT} {g : va_W} {h : Hp} {p0 : Nat} {p1 : Int32} {p2 : Int32} {p3 : Int32} {r3 : Int32 → Option (Int32)} {x4 : Int32} (hk_p0 : knd p0 = 4) {p : Program} {e : Env} {s : State} {m : MethodId} {args : Array Value} {below : List Frame} {meth : Method} {c : Code} (C : CX p s m args meth c cX4_speaksBetween RX4 5 (some .boolean) Z g) {out : Int32} (hr3 : ∀ (x4 : Int32) (ls : Array Slot) (H : Heap) (locs : List Loc), XW Z h g s.heap H locs → lv_has ls 5 [(0, .ref (Z.1 p0)), (1, .int p1), (2, .int p2), (3, .int p3), (4, .int x4)] → r3 x4 = some out → W p l e (rmD 0) s m args below meth c H locs 0 0 (MQ below (va_Qi (fun r (_ : Unit) => r = out) (fun _ => Wd Z h g) (FR Z)) args s 0 0 (FR Z)) (F0 m 3 ls [])) {ls : Array Slot} {H : Heap} {locs : List Loc} (hW : XW Z h g s.heap H locs) (hl : lv_has ls 5 [(0, .ref (Z.1 p0)), (1, .int p1), (2, .int p2), (3, .int p3), (4, .int x4)]) (hf : J_X4_speaksBetween_47 h p0 p1 p2 p3 r3 x4 = some out) : W p l e (rmD 0) s m args below meth c H locs 0 0 (MQ below (va_Qi (fun r (_ : Unit) => r = out) (fun _ => Wd Z h g) (FR Z)) args s 0 0 (FR Z)) (F0 m 47 ls []) := by
  rw [J_X4_speaksBetween_47] at hf
  refine x_iinc (w := 1) C hf dX4_speaksBetween_47 hl (k := 4) rfl (by decide) (by decide) (fun v1 => [(4, .int v1), (0, .ref (Z.1 p0)), (1, .int p1), (2, .int p2), (3, .int p3)]) (fun _ => rfl) (fun v1 ls hf hl => ?_)
  refine lv_goto (tgt := 3) C.1 C.2.1 dX4_speaksBetween_50 (by decide) ?_
  exact hr3 v1 ls _ _ hW (lv_sub hl [1, 2, 3, 4, 0] rfl) hf
set_option maxRecDepth 20000 in
set_option maxHeartbeats 1000000 in
theorem l_X4_speaksBetween_3 {l : Launch} {Z : ZT} {g : va_W} {h : Hp} {p0 : Nat} {p1 : Int32} {p2 : Int32} {p3 : Int32} (hk_p0 : knd p0 = 4) {p : Program} {e : Env} {s : State} {m : MethodId} {args : Array Value} {below : List Frame} {meth : Method} {c : Code} (C : CX p s m args meth c cX4_speaksBetween RX4 5 (some .boolean) Z g) {out : Int32} : ∀ (n : Nat) (x4 : Int32) (ls : Array Slot) (H : Heap) (locs : List Loc), XW Z h g s.heap H locs → lv_has ls 5 [(0, .ref (Z.1 p0)), (1, .int p1), (2, .int p2), (3, .int p3), (4, .int x4)] → Lp (F_X4_speaksBetween_3 h p0 p1 p2 p3) n x4 = some out → W p l e (rmD 0) s m args below meth c H locs 0 0 (MQ below (va_Qi (fun r (_ : Unit) => r = out) (fun _ => Wd Z h g) (FR Z)) args s 0 0 (FR Z)) (F0 m 3 ls []) := by
  intro n
  induction n with
  | zero => intro x4 ls H locs hW hl hf; cases hf
  | succ n ih =>
    intro x4 ls H locs hW hl hf
    rw [Lp_s] at hf
    refine lv_iload C.1 C.2.1 dX4_speaksBetween_3 (lv_at hl 4 rfl) ?_
    refine lv_aload_n C.1 C.2.1 dX4_speaksBetween_5 rfl (lv_at hl 0 rfl) ?_
    refine xg_X4_62 C hW hk_p0 dX4_speaksBetween_6 ?_
    refine x_cmpge (tgt := 53) C hf dX4_speaksBetween_9 (by decide) (fun hf => ?_) (fun hf => ?_)
    · refine lv_iconst (v := 0) C.1 C.2.1 dX4_speaksBetween_53 (by decide) ?_
      exact x_zret C hW (by decide) dX4_speaksBetween_54 (Option.some.inj hf)
    · refine lv_aload_n C.1 C.2.1 dX4_speaksBetween_12 rfl (lv_at hl 0 rfl) ?_
      refine xg_X4_25 C hW hk_p0 dX4_speaksBetween_13 ?_
      refine lv_iload C.1 C.2.1 dX4_speaksBetween_16 (lv_at hl 4 rfl) ?_
      refine x_ialdC C hW (o_X4_6 hk_p0) hf dX4_speaksBetween_18 (fun hf => ?_)
      refine lv_iload_n C.1 C.2.1 dX4_speaksBetween_19 rfl (lv_at hl 1 rfl) ?_
      refine x_cmpne (tgt := 47) C hf dX4_speaksBetween_20 (by decide) (fun hf => ?_) (fun hf => ?_)
      · exact j_X4_speaksBetween_47 hk_p0 C (fun z0 => ih z0) hW (lv_sub hl [0, 1, 2, 3, 4] rfl) hf
      · refine lv_aload_n C.1 C.2.1 dX4_speaksBetween_23 rfl (lv_at hl 0 rfl) ?_
        refine xg_X4_28 C hW hk_p0 dX4_speaksBetween_24 ?_
        refine lv_iload C.1 C.2.1 dX4_speaksBetween_27 (lv_at hl 4 rfl) ?_
        refine x_ialdC C hW (o_X4_7 hk_p0) hf dX4_speaksBetween_29 (fun hf => ?_)
        refine lv_iload_n C.1 C.2.1 dX4_speaksBetween_30 rfl (lv_at hl 3 rfl) ?_
        refine x_cmpge (tgt := 47) C hf dX4_speaksBetween_31 (by decide) (fun hf => ?_) (fun hf => ?_)
        · exact j_X4_speaksBetween_47 hk_p0 C (fun z0 => ih z0) hW (lv_sub hl [0, 1, 2, 3, 4] rfl) hf
        · refine lv_iload_n C.1 C.2.1 dX4_speaksBetween_34 rfl (lv_at hl 2 rfl) ?_
          refine lv_aload_n C.1 C.2.1 dX4_speaksBetween_35 rfl (lv_at hl 0 rfl) ?_
          refine xg_X4_31 C hW hk_p0 dX4_speaksBetween_36 ?_
          refine lv_iload C.1 C.2.1 dX4_speaksBetween_39 (lv_at hl 4 rfl) ?_
          refine x_ialdC C hW (o_X4_8 hk_p0) hf dX4_speaksBetween_41 (fun hf => ?_)
          refine x_cmpge (tgt := 47) C hf dX4_speaksBetween_42 (by decide) (fun hf => ?_) (fun hf => ?_)
          · exact j_X4_speaksBetween_47 hk_p0 C (fun z0 => ih z0) hW (lv_sub hl [0, 1, 2, 3, 4] rfl) hf
          · refine lv_iconst (v := 1) C.1 C.2.1 dX4_speaksBetween_45 (by decide) ?_
            exact x_zret C hW (by decide) dX4_speaksBetween_46 (Option.some.inj hf)
set_option maxRecDepth 20000 in
set_option maxHeartbeats 1000000 in
theorem c_X4_speaksBetween {l : Launch} {Z : ZT} {g : va_W} {h : Hp} {p0 : Nat} {p1 : Int32} {p2 : Int32} {p3 : Int32} (hk_p0 : knd p0 = 4) {out : Int32} (hf : f_X4_speaksBetween h p0 p1 p2 p3 = some out) : Met l yX4_speaksBetween (wY yX4_speaksBetween cX4_speaksBetween 5 (some .boolean)) (rmD 0) (va_Pc [.ref (Z.1 p0), .int p1, .int p2, .int p3] (Wd Z h g)) (va_Qi (fun r (_ : Unit) => r = out) (fun _ => Wd Z h g) (FR Z)) 0 0 (FR Z) := by
  refine metX RX4 rfl (by decide +kernel) (Nat.le_of_ble_eq_true rfl) ?_
  intro p e s m args below meth c C hW ls hl
  have hl : lv_has ls 5 [(0, .ref (Z.1 p0)), (1, .int p1), (2, .int p2), (3, .int p3)] := hl
  unfold f_X4_speaksBetween at hf
  refine lv_iconst (v := 0) C.1 C.2.1 dX4_speaksBetween_0 (by decide) ?_
  refine lv_istore (lv' := [(4, .int (0 : Int32)), (0, .ref (Z.1 p0)), (1, .int p1), (2, .int p2), (3, .int p3)]) C.1 C.2.1 dX4_speaksBetween_1 hl (by decide) rfl (fun ls hl => ?_)
  exact l_X4_speaksBetween_3 hk_p0 C FU (0 : Int32) ls _ _ hW (lv_sub hl [1, 2, 3, 4, 0] rfl) hf
set_option maxRecDepth 20000 in
set_option maxHeartbeats 1000000 in
theorem l_X4_holdsAllWords_2 {l : Launch} {Z : ZT} {g : va_W} {h : Hp} {p0 : Nat} (hk_p0 : knd p0 = 4) {p : Program} {e : Env} {s : State} {m : MethodId} {args : Array Value} {below : List Frame} {meth : Method} {c : Code} (C : CX p s m args meth c cX4_holdsAllWords RX4 2 (some .boolean) Z g) {out : Int32} : ∀ (n : Nat) (x1 : Int32) (ls : Array Slot) (H : Heap) (locs : List Loc), XW Z h g s.heap H locs → lv_has ls 2 [(0, .ref (Z.1 p0)), (1, .int x1)] → Lp (F_X4_holdsAllWords_2 h p0) n x1 = some out → W p l e (rmD 0) s m args below meth c H locs 0 0 (MQ below (va_Qi (fun r (_ : Unit) => r = out) (fun _ => Wd Z h g) (FR Z)) args s 0 0 (FR Z)) (F0 m 2 ls []) := by
  intro n
  induction n with
  | zero => intro x1 ls H locs hW hl hf; cases hf
  | succ n ih =>
    intro x1 ls H locs hW hl hf
    rw [Lp_s] at hf
    refine lv_iload_n C.1 C.2.1 dX4_holdsAllWords_2 rfl (lv_at hl 1 rfl) ?_
    refine lv_aload_n C.1 C.2.1 dX4_holdsAllWords_3 rfl (lv_at hl 0 rfl) ?_
    refine xg_X4_62 C hW hk_p0 dX4_holdsAllWords_4 ?_
    refine x_cmpge (tgt := 31) C hf dX4_holdsAllWords_7 (by decide) (fun hf => ?_) (fun hf => ?_)
    · refine lv_iconst (v := 1) C.1 C.2.1 dX4_holdsAllWords_31 (by decide) ?_
      exact x_zret C hW (by decide) dX4_holdsAllWords_32 (Option.some.inj hf)
    · refine lv_aload_n C.1 C.2.1 dX4_holdsAllWords_10 rfl (lv_at hl 0 rfl) ?_
      refine xg_X4_31 C hW hk_p0 dX4_holdsAllWords_11 ?_
      refine lv_iload_n C.1 C.2.1 dX4_holdsAllWords_14 rfl (lv_at hl 1 rfl) ?_
      refine x_ialdC C hW (o_X4_8 hk_p0) hf dX4_holdsAllWords_15 (fun hf => ?_)
      refine lv_aload_n C.1 C.2.1 dX4_holdsAllWords_16 rfl (lv_at hl 0 rfl) ?_
      refine xg_X4_9 C hW hk_p0 dX4_holdsAllWords_17 ?_
      refine x_cmple (tgt := 25) C hf dX4_holdsAllWords_20 (by decide) (fun hf => ?_) (fun hf => ?_)
      · refine x_iinc (w := 1) C hf dX4_holdsAllWords_25 hl (k := 1) rfl (by decide) (by decide) (fun v1 => [(1, .int v1), (0, .ref (Z.1 p0))]) (fun _ => rfl) (fun v1 ls hf hl => ?_)
        refine lv_goto (tgt := 2) C.1 C.2.1 dX4_holdsAllWords_28 (by decide) ?_
        exact ih v1 ls _ _ hW (lv_sub hl [1, 0] rfl) hf
      · refine lv_iconst (v := 0) C.1 C.2.1 dX4_holdsAllWords_23 (by decide) ?_
        exact x_zret C hW (by decide) dX4_holdsAllWords_24 (Option.some.inj hf)
set_option maxRecDepth 20000 in
set_option maxHeartbeats 1000000 in
theorem c_X4_holdsAllWords {l : Launch} {Z : ZT} {g : va_W} {h : Hp} {p0 : Nat} (hk_p0 : knd p0 = 4) {out : Int32} (hf : f_X4_holdsAllWords h p0 = some out) : Met l yX4_holdsAllWords (wY yX4_holdsAllWords cX4_holdsAllWords 2 (some .boolean)) (rmD 0) (va_Pc [.ref (Z.1 p0)] (Wd Z h g)) (va_Qi (fun r (_ : Unit) => r = out) (fun _ => Wd Z h g) (FR Z)) 0 0 (FR Z) := by
  refine metX RX4 rfl (by decide +kernel) (Nat.le_of_ble_eq_true rfl) ?_
  intro p e s m args below meth c C hW ls hl
  have hl : lv_has ls 2 [(0, .ref (Z.1 p0))] := hl
  unfold f_X4_holdsAllWords at hf
  refine lv_iconst (v := 0) C.1 C.2.1 dX4_holdsAllWords_0 (by decide) ?_
  refine lv_istore_n (lv' := [(1, .int (0 : Int32)), (0, .ref (Z.1 p0))]) C.1 C.2.1 dX4_holdsAllWords_1 rfl hl (by decide) rfl (fun ls hl => ?_)
  exact l_X4_holdsAllWords_2 hk_p0 C FU (0 : Int32) ls _ _ hW (lv_sub hl [1, 0] rfl) hf
set_option maxRecDepth 20000 in
set_option maxHeartbeats 1000000 in
theorem j_X4_placeCutPoint_133 {l : Launch} {Z : ZT} {g : va_W} {p0 : Nat} {p1 : Int32} {h : Hp} {r61 : Int32 × Int32 × Hp → Option (Hp)} {x2 : Int32} {x3 : Int32} {x4 : Int32} {x5 : Int32} (hk_p0 : knd p0 = 4) {p : Program} {e : Env} {s : State} {m : MethodId} {args : Array Value} {below : List Frame} {meth : Method} {c : Code} (C : CX p s m args meth c cX4_placeCutPoint RX4 8 none Z g) {out : Hp} (hr61 : ∀ (x4 : Int32) (x5 : Int32) (h : Hp) (ls : Array Slot) (H : Heap) (locs : List Loc), XW Z h g s.heap H locs → lv_has ls 8 [(0, .ref (Z.1 p0)), (1, .int p1), (2, .int x2), (3, .int x3), (4, .int x4), (5, .int x5)] → r61 (x4, x5, h) = some out → W p l e (rmD 0) s m args below meth c H locs 0 0 (MQ below (va_Qv (fun (_ : Unit) => True) (fun _ => Wd Z out g) (FR Z)) args s 0 0 (FR Z)) (F0 m 61 ls [])) {ls : Array Slot} {H : Heap} {locs : List Loc} (hW : XW Z h g s.heap H locs) (hl : lv_has ls 8 [(0, .ref (Z.1 p0)), (1, .int p1), (2, .int x2), (3, .int x3), (4, .int x4), (5, .int x5)]) (hf : J_X4_placeCutPoint_133 p0 p1 h r61 x2 x3 x4 x5 = some out) : W p l e (rmD 0) s m args below meth c H locs 0 0 (MQ below (va_Qv (fun (_ : Unit) => True) (fun _ => Wd Z out g) (FR Z)) args s 0 0 (FR Z)) (F0 m 133 ls []) := by
  rw [J_X4_placeCutPoint_133] at hf
  refine x_iinc (w := 1) C hf dX4_placeCutPoint_133 hl (k := 5) rfl (by decide) (by decide) (fun v1 => [(5, .int v1), (0, .ref (Z.1 p0)), (1, .int p1), (2, .int x2), (3, .int x3), (4, .int x4)]) (fun _ => rfl) (fun v1 ls hf hl => ?_)
  refine lv_goto (tgt := 61) C.1 C.2.1 dX4_placeCutPoint_136 (by decide) ?_
  exact hr61 x4 v1 h ls _ _ hW (lv_sub hl [1, 2, 3, 4, 5, 0] rfl) hf
set_option maxRecDepth 20000 in
set_option maxHeartbeats 1000000 in
theorem l_X4_placeCutPoint_61 {l : Launch} {Z : ZT} {g : va_W} {p0 : Nat} {p1 : Int32} {x2 : Int32} {x3 : Int32} (hk_p0 : knd p0 = 4) {p : Program} {e : Env} {s : State} {m : MethodId} {args : Array Value} {below : List Frame} {meth : Method} {c : Code} (C : CX p s m args meth c cX4_placeCutPoint RX4 8 none Z g) {out : Hp} : ∀ (n : Nat) (x4 : Int32) (x5 : Int32) (h : Hp) (ls : Array Slot) (H : Heap) (locs : List Loc), XW Z h g s.heap H locs → lv_has ls 8 [(0, .ref (Z.1 p0)), (1, .int p1), (2, .int x2), (3, .int x3), (4, .int x4), (5, .int x5)] → Lp (F_X4_placeCutPoint_61 p0 p1 x2 x3) n (x4, x5, h) = some out → W p l e (rmD 0) s m args below meth c H locs 0 0 (MQ below (va_Qv (fun (_ : Unit) => True) (fun _ => Wd Z out g) (FR Z)) args s 0 0 (FR Z)) (F0 m 61 ls []) := by
  intro n
  induction n with
  | zero => intro x4 x5 h ls H locs hW hl hf; cases hf
  | succ n ih =>
    intro x4 x5 h ls H locs hW hl hf
    rw [Lp_s] at hf
    refine lv_iload C.1 C.2.1 dX4_placeCutPoint_61 (lv_at hl 5 rfl) ?_
    refine lv_aload_n C.1 C.2.1 dX4_placeCutPoint_63 rfl (lv_at hl 0 rfl) ?_
    refine xg_X4_65 C hW hk_p0 dX4_placeCutPoint_64 ?_
    refine x_cmpge (tgt := 139) C hf dX4_placeCutPoint_67 (by decide) (fun hf => ?_) (fun hf => ?_)
    · obtain rfl := Option.some.inj hf
      exact x_vret C hW dX4_placeCutPoint_139 trivial
    · refine lv_iload_n C.1 C.2.1 dX4_placeCutPoint_70 rfl (lv_at hl 2 rfl) ?_
      refine lv_aload_n C.1 C.2.1 dX4_placeCutPoint_71 rfl (lv_at hl 0 rfl) ?_
      refine xg_X4_37 C hW hk_p0 dX4_placeCutPoint_72 ?_
      refine lv_iload C.1 C.2.1 dX4_placeCutPoint_75 (lv_at hl 5 rfl) ?_
      refine x_ialdC C hW (o_X4_11 hk_p0) hf dX4_placeCutPoint_77 (fun hf => ?_)
      refine x_max C hl (ml_X4_75) (by decide) ⟨Nat.le_refl _, Nat.le_refl _⟩ (Nat.le_of_ble_eq_true rfl) dX4_placeCutPoint_78 ?_
      refine x_ist C hf dX4_placeCutPoint_81 hl (by decide) (fun v2 => [(6, .int v2), (0, .ref (Z.1 p0)), (1, .int p1), (2, .int x2), (3, .int x3), (4, .int x4), (5, .int x5)]) (fun _ => rfl) (fun v2 ls hf hl => ?_)
      refine lv_iload_n C.1 C.2.1 dX4_placeCutPoint_83 rfl (lv_at hl 4 rfl) ?_
      refine lv_aload_n C.1 C.2.1 dX4_placeCutPoint_84 rfl (lv_at hl 1 rfl) ?_
      refine xg_X4_40 C hW hk_p0 dX4_placeCutPoint_85 ?_
      refine lv_iload C.1 C.2.1 dX4_placeCutPoint_88 (lv_at hl 6 rfl) ?_
      refine x_ialdC C hW (o_X4_12 hk_p0) hf dX4_placeCutPoint_90 (fun hf => ?_)
      refine x_min C hl (ml_X4_85) (by decide) ⟨Nat.le_refl _, Nat.le_refl _⟩ (Nat.le_of_ble_eq_true rfl) dX4_placeCutPoint_91 ?_
      refine x_ist C hf dX4_placeCutPoint_94 hl (by decide) (fun v3 => [(7, .int v3), (6, .int v2), (0, .ref (Z.1 p0)), (1, .int p1), (2, .int x2), (3, .int x3), (4, .int x4), (5, .int x5)]) (fun _ => rfl) (fun v3 ls hf hl => ?_)
      refine lv_iload C.1 C.2.1 dX4_placeCutPoint_96 (lv_at hl 0 rfl) ?_
      refine lv_iload C.1 C.2.1 dX4_placeCutPoint_98 (lv_at hl 1 rfl) ?_
      refine lv_isub C.1 C.2.1 dX4_placeCutPoint_100 ?_
      refine lv_iload C.1 C.2.1 dX4_placeCutPoint_101 (lv_at hl 6 rfl) ?_
      refine x_cmple (tgt := 133) C hf dX4_placeCutPoint_103 (by decide) (fun hf => ?_) (fun hf => ?_)
      · exact j_X4_placeCutPoint_133 hk_p0 C (fun z0 z1 z2 => ih z0 z1 z2) hW (lv_sub hl [2, 3, 4, 5, 6, 7] rfl) hf
      · refine lv_iload C.1 C.2.1 dX4_placeCutPoint_106 (lv_at hl 0 rfl) ?_
        refine lv_iload C.1 C.2.1 dX4_placeCutPoint_108 (lv_at hl 1 rfl) ?_
        refine lv_isub C.1 C.2.1 dX4_placeCutPoint_110 ?_
        refine x_ist C hf dX4_placeCutPoint_111 hl (by decide) (fun v4 => [(4, .int v4), (7, .int v3), (6, .int v2), (0, .ref (Z.1 p0)), (1, .int p1), (2, .int x2), (3, .int x3), (5, .int x5)]) (fun _ => rfl) (fun v4 ls hf hl => ?_)
        refine lv_aload_n C.1 C.2.1 dX4_placeCutPoint_113 rfl (lv_at hl 3 rfl) ?_
        refine xg_X4_52 C hW hk_p0 dX4_placeCutPoint_114 ?_
        refine lv_iload_n C.1 C.2.1 dX4_placeCutPoint_117 rfl (lv_at hl 4 rfl) ?_
        refine lv_iload C.1 C.2.1 dX4_placeCutPoint_118 (lv_at hl 2 rfl) ?_
        refine lv_iload C.1 C.2.1 dX4_placeCutPoint_120 (lv_at hl 1 rfl) ?_
        refine lv_iadd C.1 C.2.1 dX4_placeCutPoint_122 ?_
        refine lv_iconst (v := 2) C.1 C.2.1 dX4_placeCutPoint_123 (by decide) ?_
        refine lv_idiv C.1 C.2.1 dX4_placeCutPoint_124 (by decide) ?_
        refine x_iastC C hW (o_X4_17 hk_p0) hf dX4_placeCutPoint_125 (fun h5 H locs hf hW => ?_)
        refine lv_aload_n C.1 C.2.1 dX4_placeCutPoint_126 rfl (lv_at hl 3 rfl) ?_
        refine xg_X4_55 C hW hk_p0 dX4_placeCutPoint_127 ?_
        refine lv_iload_n C.1 C.2.1 dX4_placeCutPoint_130 rfl (lv_at hl 4 rfl) ?_
        refine lv_iconst (v := 1) C.1 C.2.1 dX4_placeCutPoint_131 (by decide) ?_
        refine x_zastC C hW (o_X4_18 hk_p0) (by decide) hf dX4_placeCutPoint_132 (fun h6 H locs hf hW => ?_)
        exact j_X4_placeCutPoint_133 hk_p0 C (fun z0 z1 z2 => ih z0 z1 z2) hW (lv_sub hl [3, 4, 5, 6, 0, 7] rfl) hf
set_option maxRecDepth 20000 in
set_option maxHeartbeats 1000000 in
theorem c_X4_placeCutPoint {l : Launch} {Z : ZT} {g : va_W} {h : Hp} {p0 : Nat} {p1 : Int32} (hk_p0 : knd p0 = 4) {out : Hp} (hf : f_X4_placeCutPoint h p0 p1 = some out) : Met l yX4_placeCutPoint (wY yX4_placeCutPoint cX4_placeCutPoint 8 none) (rmD 0) (va_Pc [.ref (Z.1 p0), .int p1] (Wd Z h g)) (va_Qv (fun (_ : Unit) => True) (fun _ => Wd Z out g) (FR Z)) 0 0 (FR Z) := by
  refine metX RX4 rfl (by decide +kernel) (Nat.le_of_ble_eq_true rfl) ?_
  intro p e s m args below meth c C hW ls hl
  have hl : lv_has ls 8 [(0, .ref (Z.1 p0)), (1, .int p1)] := hl
  unfold f_X4_placeCutPoint at hf
  refine lv_aload_n C.1 C.2.1 dX4_placeCutPoint_0 rfl (lv_at hl 0 rfl) ?_
  refine xg_X4_55 C hW hk_p0 dX4_placeCutPoint_1 ?_
  refine lv_iload_n C.1 C.2.1 dX4_placeCutPoint_4 rfl (lv_at hl 1 rfl) ?_
  refine lv_iconst (v := 0) C.1 C.2.1 dX4_placeCutPoint_5 (by decide) ?_
  refine x_zastC C hW (o_X4_18 hk_p0) (by decide) hf dX4_placeCutPoint_6 (fun h7 H locs hf hW => ?_)
  refine lv_iload_n C.1 C.2.1 dX4_placeCutPoint_7 rfl (lv_at hl 1 rfl) ?_
  refine lv_iconst (v := 1) C.1 C.2.1 dX4_placeCutPoint_8 (by decide) ?_
  refine lv_iadd C.1 C.2.1 dX4_placeCutPoint_9 ?_
  refine lv_aload_n C.1 C.2.1 dX4_placeCutPoint_10 rfl (lv_at hl 0 rfl) ?_
  refine xg_X4_68 C hW hk_p0 dX4_placeCutPoint_11 ?_
  refine x_cmplt (tgt := 28) C hf dX4_placeCutPoint_14 (by decide) (fun hf => ?_) (fun hf => ?_)
  · refine lv_aload_n C.1 C.2.1 dX4_placeCutPoint_28 rfl (lv_at hl 0 rfl) ?_
    refine xg_X4_49 C hW hk_p0 dX4_placeCutPoint_29 ?_
    refine lv_iload_n C.1 C.2.1 dX4_placeCutPoint_32 rfl (lv_at hl 1 rfl) ?_
    refine x_ialdC C hW (o_X4_16 hk_p0) hf dX4_placeCutPoint_33 (fun hf => ?_)
    refine x_istn C hf dX4_placeCutPoint_34 rfl hl (by decide) (fun v8 => [(2, .int v8), (0, .ref (Z.1 p0)), (1, .int p1)]) (fun _ => rfl) (fun v8 ls hf hl => ?_)
    refine lv_aload_n C.1 C.2.1 dX4_placeCutPoint_35 rfl (lv_at hl 1 rfl) ?_
    refine xg_X4_46 C hW hk_p0 dX4_placeCutPoint_36 ?_
    refine lv_iload_n C.1 C.2.1 dX4_placeCutPoint_39 rfl (lv_at hl 2 rfl) ?_
    refine lv_iconst (v := 1) C.1 C.2.1 dX4_placeCutPoint_40 (by decide) ?_
    refine lv_iadd C.1 C.2.1 dX4_placeCutPoint_41 ?_
    refine x_ialdC C hW (o_X4_15 hk_p0) hf dX4_placeCutPoint_42 (fun hf => ?_)
    refine x_istn C hf dX4_placeCutPoint_43 rfl hl (by decide) (fun v9 => [(3, .int v9), (2, .int v8), (0, .ref (Z.1 p0)), (1, .int p1)]) (fun _ => rfl) (fun v9 ls hf hl => ?_)
    refine lv_aload_n C.1 C.2.1 dX4_placeCutPoint_44 rfl (lv_at hl 2 rfl) ?_
    refine xg_X4_52 C hW hk_p0 dX4_placeCutPoint_45 ?_
    refine lv_iload_n C.1 C.2.1 dX4_placeCutPoint_48 rfl (lv_at hl 3 rfl) ?_
    refine lv_iload_n C.1 C.2.1 dX4_placeCutPoint_49 rfl (lv_at hl 1 rfl) ?_
    refine lv_iload_n C.1 C.2.1 dX4_placeCutPoint_50 rfl (lv_at hl 0 rfl) ?_
    refine lv_iadd C.1 C.2.1 dX4_placeCutPoint_51 ?_
    refine lv_iconst (v := 2) C.1 C.2.1 dX4_placeCutPoint_52 (by decide) ?_
    refine lv_idiv C.1 C.2.1 dX4_placeCutPoint_53 (by decide) ?_
    refine x_iastC C hW (o_X4_17 hk_p0) hf dX4_placeCutPoint_54 (fun h10 H locs hf hW => ?_)
    refine lv_iconst (v := 0) C.1 C.2.1 dX4_placeCutPoint_55 (by decide) ?_
    refine lv_istore (lv' := [(4, .int (0 : Int32)), (3, .int v9), (2, .int v8), (0, .ref (Z.1 p0)), (1, .int p1)]) C.1 C.2.1 dX4_placeCutPoint_56 hl (by decide) rfl (fun ls hl => ?_)
    refine lv_iconst (v := 0) C.1 C.2.1 dX4_placeCutPoint_58 (by decide) ?_
    refine lv_istore (lv' := [(5, .int (0 : Int32)), (4, .int (0 : Int32)), (3, .int v9), (2, .int v8), (0, .ref (Z.1 p0)), (1, .int p1)]) C.1 C.2.1 dX4_placeCutPoint_59 hl (by decide) rfl (fun ls hl => ?_)
    exact l_X4_placeCutPoint_61 hk_p0 C FU (0 : Int32) (0 : Int32) h10 ls _ _ hW (lv_sub hl [4, 5, 3, 2, 1, 0] rfl) hf
  · refine lv_aload_n C.1 C.2.1 dX4_placeCutPoint_17 rfl (lv_at hl 0 rfl) ?_
    refine xg_X4_52 C hW hk_p0 dX4_placeCutPoint_18 ?_
    refine lv_iload_n C.1 C.2.1 dX4_placeCutPoint_21 rfl (lv_at hl 1 rfl) ?_
    refine lv_aload_n C.1 C.2.1 dX4_placeCutPoint_22 rfl (lv_at hl 0 rfl) ?_
    refine xg_X4_9 C hW hk_p0 dX4_placeCutPoint_23 ?_
    refine x_iastC C hW (o_X4_17 hk_p0) hf dX4_placeCutPoint_26 (fun h11 H locs hf hW => ?_)
    obtain rfl := Option.some.inj hf
    exact x_vret C hW dX4_placeCutPoint_27 trivial
set_option maxRecDepth 20000 in
set_option maxHeartbeats 1000000 in
theorem l_X4_findBlocks_143 {l : Launch} {Z : ZT} {g : va_W} {p0 : Nat} (hk_p0 : knd p0 = 4) {p : Program} {e : Env} {s : State} {m : MethodId} {args : Array Value} {below : List Frame} {meth : Method} {c : Code} (C : CX p s m args meth c cX4_findBlocks RX4 3 none Z g) {out : Hp} : ∀ (n : Nat) (x1 : Int32) (h : Hp) (ls : Array Slot) (H : Heap) (locs : List Loc), XW Z h g s.heap H locs → lv_has ls 3 [(0, .ref (Z.1 p0)), (1, .int x1)] → Lp (F_X4_findBlocks_143 p0) n (x1, h) = some out → W p l e (rmD 1) s m args below meth c H locs 0 0 (MQ below (va_Qv (fun (_ : Unit) => True) (fun _ => Wd Z out g) (FR Z)) args s 0 0 (FR Z)) (F0 m 143 ls []) := by
  intro n
  induction n with
  | zero => intro x1 h ls H locs hW hl hf; cases hf
  | succ n ih =>
    intro x1 h ls H locs hW hl hf
    rw [Lp_s] at hf
    refine lv_iload_n C.1 C.2.1 dX4_findBlocks_143 rfl (lv_at hl 1 rfl) ?_
    refine lv_aload_n C.1 C.2.1 dX4_findBlocks_144 rfl (lv_at hl 0 rfl) ?_
    refine xg_X4_68 C hW hk_p0 dX4_findBlocks_145 ?_
    refine x_cmpge (tgt := 162) C hf dX4_findBlocks_148 (by decide) (fun hf => ?_) (fun hf => ?_)
    · obtain rfl := Option.some.inj hf
      exact x_vret C hW dX4_findBlocks_162 trivial
    · refine lv_aload_n C.1 C.2.1 dX4_findBlocks_151 rfl (lv_at hl 0 rfl) ?_
      refine lv_iload_n C.1 C.2.1 dX4_findBlocks_152 rfl (lv_at hl 1 rfl) ?_
      obtain ⟨u1, hcu1, hf⟩ := bnd_t hf
      refine x_callv hW (x_runV C hW hl (wk4 hk_p0) rfl rfl (c_X4_placeCutPoint hk_p0 hcu1) (cw_X4_81) ci_X4_placeCutPoint cs_X4_placeCutPoint (rm_ok (by decide) (by decide)) ⟨Nat.le_refl _, Nat.le_refl _⟩ (As := [.int x1]) rfl rfl (Nat.le_of_ble_eq_true rfl) dX4_findBlocks_153) (fun H locs hW => ?_)
      refine x_iinc (w := 1) C hf dX4_findBlocks_156 hl (k := 1) rfl (by decide) (by decide) (fun v2 => [(1, .int v2), (0, .ref (Z.1 p0))]) (fun _ => rfl) (fun v2 ls hf hl => ?_)
      refine lv_goto (tgt := 143) C.1 C.2.1 dX4_findBlocks_159 (by decide) ?_
      exact ih v2 u1 ls _ _ hW (lv_sub hl [1, 0] rfl) hf
set_option maxRecDepth 20000 in
set_option maxHeartbeats 1000000 in
theorem j_X4_findBlocks_128 {l : Launch} {Z : ZT} {g : va_W} {p0 : Nat} {h : Hp} (hk_p0 : knd p0 = 4) {p : Program} {e : Env} {s : State} {m : MethodId} {args : Array Value} {below : List Frame} {meth : Method} {c : Code} (C : CX p s m args meth c cX4_findBlocks RX4 3 none Z g) {out : Hp} {ls : Array Slot} {H : Heap} {locs : List Loc} (hW : XW Z h g s.heap H locs) (hl : lv_has ls 3 [(0, .ref (Z.1 p0))]) (hf : J_X4_findBlocks_128 p0 h = some out) : W p l e (rmD 1) s m args below meth c H locs 0 0 (MQ below (va_Qv (fun (_ : Unit) => True) (fun _ => Wd Z out g) (FR Z)) args s 0 0 (FR Z)) (F0 m 128 ls []) := by
  refine lv_aload_n C.1 C.2.1 dX4_findBlocks_128 rfl (lv_at hl 0 rfl) ?_
  refine xg_X4_43 C hW hk_p0 dX4_findBlocks_129 ?_
  refine lv_aload_n C.1 C.2.1 dX4_findBlocks_132 rfl (lv_at hl 0 rfl) ?_
  refine xg_X4_68 C hW hk_p0 dX4_findBlocks_133 ?_
  refine lv_aload_n C.1 C.2.1 dX4_findBlocks_136 rfl (lv_at hl 0 rfl) ?_
  refine xg_X4_62 C hW hk_p0 dX4_findBlocks_137 ?_
  refine x_iastC C hW (o_X4_14 hk_p0) hf dX4_findBlocks_140 (fun h3 H locs hf hW => ?_)
  refine lv_iconst (v := 0) C.1 C.2.1 dX4_findBlocks_141 (by decide) ?_
  refine lv_istore_n (lv' := [(1, .int (0 : Int32)), (0, .ref (Z.1 p0))]) C.1 C.2.1 dX4_findBlocks_142 rfl hl (by decide) rfl (fun ls hl => ?_)
  exact l_X4_findBlocks_143 hk_p0 C FU (0 : Int32) h3 ls _ _ hW (lv_sub hl [1, 0] rfl) hf
set_option maxRecDepth 20000 in
set_option maxHeartbeats 1000000 in
theorem j_X4_findBlocks_87 {l : Launch} {Z : ZT} {g : va_W} {p0 : Nat} {h : Hp} {r2 : Int32 × Hp → Option (Hp)} {x1 : Int32} (hk_p0 : knd p0 = 4) {p : Program} {e : Env} {s : State} {m : MethodId} {args : Array Value} {below : List Frame} {meth : Method} {c : Code} (C : CX p s m args meth c cX4_findBlocks RX4 3 none Z g) {out : Hp} (hr2 : ∀ (x1 : Int32) (h : Hp) (ls : Array Slot) (H : Heap) (locs : List Loc), XW Z h g s.heap H locs → lv_has ls 3 [(0, .ref (Z.1 p0)), (1, .int x1)] → r2 (x1, h) = some out → W p l e (rmD 1) s m args below meth c H locs 0 0 (MQ below (va_Qv (fun (_ : Unit) => True) (fun _ => Wd Z out g) (FR Z)) args s 0 0 (FR Z)) (F0 m 2 ls [])) {ls : Array Slot} {H : Heap} {locs : List Loc} (hW : XW Z h g s.heap H locs) (hl : lv_has ls 3 [(0, .ref (Z.1 p0)), (1, .int x1)]) (hf : J_X4_findBlocks_87 p0 h r2 x1 = some out) : W p l e (rmD 1) s m args below meth c H locs 0 0 (MQ below (va_Qv (fun (_ : Unit) => True) (fun _ => Wd Z out g) (FR Z)) args s 0 0 (FR Z)) (F0 m 87 ls []) := by
  rw [J_X4_findBlocks_87] at hf
  refine lv_aload_n C.1 C.2.1 dX4_findBlocks_87 rfl (lv_at hl 0 rfl) ?_
  refine xg_X4_68 C hW hk_p0 dX4_findBlocks_88 ?_
  refine lv_iconst (v := 1) C.1 C.2.1 dX4_findBlocks_91 (by decide) ?_
  refine lv_isub C.1 C.2.1 dX4_findBlocks_92 ?_
  refine x_istn C hf dX4_findBlocks_93 rfl hl (by decide) (fun v4 => [(2, .int v4), (0, .ref (Z.1 p0)), (1, .int x1)]) (fun _ => rfl) (fun v4 ls hf hl => ?_)
  refine lv_aload_n C.1 C.2.1 dX4_findBlocks_94 rfl (lv_at hl 1 rfl) ?_
  refine xg_X4_34 C hW hk_p0 dX4_findBlocks_95 ?_
  refine lv_iload_n C.1 C.2.1 dX4_findBlocks_98 rfl (lv_at hl 2 rfl) ?_
  refine lv_iload_n C.1 C.2.1 dX4_findBlocks_99 rfl (lv_at hl 0 rfl) ?_
  refine x_iastC C hW (o_X4_9 hk_p0) hf dX4_findBlocks_100 (fun h5 H locs hf hW => ?_)
  refine lv_aload_n C.1 C.2.1 dX4_findBlocks_101 rfl (lv_at hl 1 rfl) ?_
  refine xg_X4_49 C hW hk_p0 dX4_findBlocks_102 ?_
  refine lv_iload_n C.1 C.2.1 dX4_findBlocks_105 rfl (lv_at hl 0 rfl) ?_
  refine lv_aload_n C.1 C.2.1 dX4_findBlocks_106 rfl (lv_at hl 1 rfl) ?_
  refine xg_X4_49 C hW hk_p0 dX4_findBlocks_107 ?_
  refine lv_iload_n C.1 C.2.1 dX4_findBlocks_110 rfl (lv_at hl 0 rfl) ?_
  refine x_ialdC C hW (o_X4_16 hk_p0) hf dX4_findBlocks_111 (fun hf => ?_)
  refine lv_aload_n C.1 C.2.1 dX4_findBlocks_112 rfl (lv_at hl 1 rfl) ?_
  refine xg_X4_31 C hW hk_p0 dX4_findBlocks_113 ?_
  refine lv_iload_n C.1 C.2.1 dX4_findBlocks_116 rfl (lv_at hl 2 rfl) ?_
  refine x_ialdC C hW (o_X4_8 hk_p0) hf dX4_findBlocks_117 (fun hf => ?_)
  refine x_max C hl (ml_X4_75) (by decide) ⟨Nat.le_refl _, Nat.le_refl _⟩ (Nat.le_of_ble_eq_true rfl) dX4_findBlocks_118 ?_
  refine x_iastC C hW (o_X4_16 hk_p0) hf dX4_findBlocks_121 (fun h6 H locs hf hW => ?_)
  refine x_iinc (w := 1) C hf dX4_findBlocks_122 hl (k := 2) rfl (by decide) (by decide) (fun v7 => [(1, .int v7), (2, .int v4), (0, .ref (Z.1 p0))]) (fun _ => rfl) (fun v7 ls hf hl => ?_)
  refine lv_goto (tgt := 2) C.1 C.2.1 dX4_findBlocks_125 (by decide) ?_
  exact hr2 v7 h6 ls _ _ hW (lv_sub hl [2, 0] rfl) hf
set_option maxRecDepth 20000 in
set_option maxHeartbeats 1000000 in
theorem j_X4_findBlocks_37 {l : Launch} {Z : ZT} {g : va_W} {p0 : Nat} {h : Hp} {r2 : Int32 × Hp → Option (Hp)} {x1 : Int32} (hk_p0 : knd p0 = 4) {p : Program} {e : Env} {s : State} {m : MethodId} {args : Array Value} {below : List Frame} {meth : Method} {c : Code} (C : CX p s m args meth c cX4_findBlocks RX4 3 none Z g) {out : Hp} (hr2 : ∀ (x1 : Int32) (h : Hp) (ls : Array Slot) (H : Heap) (locs : List Loc), XW Z h g s.heap H locs → lv_has ls 3 [(0, .ref (Z.1 p0)), (1, .int x1)] → r2 (x1, h) = some out → W p l e (rmD 1) s m args below meth c H locs 0 0 (MQ below (va_Qv (fun (_ : Unit) => True) (fun _ => Wd Z out g) (FR Z)) args s 0 0 (FR Z)) (F0 m 2 ls [])) {ls : Array Slot} {H : Heap} {locs : List Loc} (hW : XW Z h g s.heap H locs) (hl : lv_has ls 3 [(0, .ref (Z.1 p0)), (1, .int x1)]) (hf : J_X4_findBlocks_37 p0 h r2 x1 = some out) : W p l e (rmD 1) s m args below meth c H locs 0 0 (MQ below (va_Qv (fun (_ : Unit) => True) (fun _ => Wd Z out g) (FR Z)) args s 0 0 (FR Z)) (F0 m 37 ls []) := by
  refine lv_aload_n C.1 C.2.1 dX4_findBlocks_37 rfl (lv_at hl 0 rfl) ?_
  refine xg_X4_43 C hW hk_p0 dX4_findBlocks_38 ?_
  refine lv_aload_n C.1 C.2.1 dX4_findBlocks_41 rfl (lv_at hl 0 rfl) ?_
  refine xg_X4_68 C hW hk_p0 dX4_findBlocks_42 ?_
  refine lv_iload_n C.1 C.2.1 dX4_findBlocks_45 rfl (lv_at hl 1 rfl) ?_
  refine x_iastC C hW (o_X4_14 hk_p0) hf dX4_findBlocks_46 (fun h8 H locs hf hW => ?_)
  refine lv_aload_n C.1 C.2.1 dX4_findBlocks_47 rfl (lv_at hl 0 rfl) ?_
  refine xg_X4_46 C hW hk_p0 dX4_findBlocks_48 ?_
  refine lv_aload_n C.1 C.2.1 dX4_findBlocks_51 rfl (lv_at hl 0 rfl) ?_
  refine xg_X4_68 C hW hk_p0 dX4_findBlocks_52 ?_
  refine lv_aload_n C.1 C.2.1 dX4_findBlocks_55 rfl (lv_at hl 0 rfl) ?_
  refine xg_X4_28 C hW hk_p0 dX4_findBlocks_56 ?_
  refine lv_iload_n C.1 C.2.1 dX4_findBlocks_59 rfl (lv_at hl 1 rfl) ?_
  refine x_ialdC C hW (o_X4_7 hk_p0) hf dX4_findBlocks_60 (fun hf => ?_)
  refine x_iastC C hW (o_X4_15 hk_p0) hf dX4_findBlocks_61 (fun h9 H locs hf hW => ?_)
  refine lv_aload_n C.1 C.2.1 dX4_findBlocks_62 rfl (lv_at hl 0 rfl) ?_
  refine xg_X4_49 C hW hk_p0 dX4_findBlocks_63 ?_
  refine lv_aload_n C.1 C.2.1 dX4_findBlocks_66 rfl (lv_at hl 0 rfl) ?_
  refine xg_X4_68 C hW hk_p0 dX4_findBlocks_67 ?_
  refine lv_aload_n C.1 C.2.1 dX4_findBlocks_70 rfl (lv_at hl 0 rfl) ?_
  refine xg_X4_31 C hW hk_p0 dX4_findBlocks_71 ?_
  refine lv_iload_n C.1 C.2.1 dX4_findBlocks_74 rfl (lv_at hl 1 rfl) ?_
  refine x_ialdC C hW (o_X4_8 hk_p0) hf dX4_findBlocks_75 (fun hf => ?_)
  refine x_iastC C hW (o_X4_16 hk_p0) hf dX4_findBlocks_76 (fun h10 H locs hf hW => ?_)
  refine lv_aload_n C.1 C.2.1 dX4_findBlocks_77 rfl (lv_at hl 0 rfl) ?_
  refine lv_dup C.1 C.2.1 dX4_findBlocks_78 rfl ?_
  refine xg_X4_68 C hW hk_p0 dX4_findBlocks_79 ?_
  refine lv_iconst (v := 1) C.1 C.2.1 dX4_findBlocks_82 (by decide) ?_
  refine lv_iadd C.1 C.2.1 dX4_findBlocks_83 ?_
  refine xp_X4_68 C hW hk_p0 hf dX4_findBlocks_84 (fun h11 H locs hf hW => ?_)
  exact j_X4_findBlocks_87 hk_p0 C hr2 hW (lv_sub hl [0, 1] rfl) hf
set_option maxRecDepth 20000 in
set_option maxHeartbeats 1000000 in
theorem l_X4_findBlocks_2 {l : Launch} {Z : ZT} {g : va_W} {p0 : Nat} (hk_p0 : knd p0 = 4) {p : Program} {e : Env} {s : State} {m : MethodId} {args : Array Value} {below : List Frame} {meth : Method} {c : Code} (C : CX p s m args meth c cX4_findBlocks RX4 3 none Z g) {out : Hp} : ∀ (n : Nat) (x1 : Int32) (h : Hp) (ls : Array Slot) (H : Heap) (locs : List Loc), XW Z h g s.heap H locs → lv_has ls 3 [(0, .ref (Z.1 p0)), (1, .int x1)] → Lp (F_X4_findBlocks_2 p0) n (x1, h) = some out → W p l e (rmD 1) s m args below meth c H locs 0 0 (MQ below (va_Qv (fun (_ : Unit) => True) (fun _ => Wd Z out g) (FR Z)) args s 0 0 (FR Z)) (F0 m 2 ls []) := by
  intro n
  induction n with
  | zero => intro x1 h ls H locs hW hl hf; cases hf
  | succ n ih =>
    intro x1 h ls H locs hW hl hf
    rw [Lp_s] at hf
    refine lv_iload_n C.1 C.2.1 dX4_findBlocks_2 rfl (lv_at hl 1 rfl) ?_
    refine lv_aload_n C.1 C.2.1 dX4_findBlocks_3 rfl (lv_at hl 0 rfl) ?_
    refine xg_X4_62 C hW hk_p0 dX4_findBlocks_4 ?_
    refine x_cmpge (tgt := 128) C hf dX4_findBlocks_7 (by decide) (fun hf => ?_) (fun hf => ?_)
    · exact j_X4_findBlocks_128 hk_p0 C hW (lv_sub hl [0] rfl) hf
    · refine lv_aload_n C.1 C.2.1 dX4_findBlocks_10 rfl (lv_at hl 0 rfl) ?_
      refine xg_X4_68 C hW hk_p0 dX4_findBlocks_11 ?_
      refine x_ifeq (tgt := 37) C hf dX4_findBlocks_14 (by decide) (fun hf => ?_) (fun hf => ?_)
      · exact j_X4_findBlocks_37 hk_p0 C (fun z0 z1 => ih z0 z1) hW (lv_sub hl [0, 1] rfl) hf
      · refine lv_aload_n C.1 C.2.1 dX4_findBlocks_17 rfl (lv_at hl 0 rfl) ?_
        refine xg_X4_28 C hW hk_p0 dX4_findBlocks_18 ?_
        refine lv_iload_n C.1 C.2.1 dX4_findBlocks_21 rfl (lv_at hl 1 rfl) ?_
        refine x_ialdC C hW (o_X4_7 hk_p0) hf dX4_findBlocks_22 (fun hf => ?_)
        refine lv_aload_n C.1 C.2.1 dX4_findBlocks_23 rfl (lv_at hl 0 rfl) ?_
        refine xg_X4_49 C hW hk_p0 dX4_findBlocks_24 ?_
        refine lv_aload_n C.1 C.2.1 dX4_findBlocks_27 rfl (lv_at hl 0 rfl) ?_
        refine xg_X4_68 C hW hk_p0 dX4_findBlocks_28 ?_
        refine lv_iconst (v := 1) C.1 C.2.1 dX4_findBlocks_31 (by decide) ?_
        refine lv_isub C.1 C.2.1 dX4_findBlocks_32 ?_
        refine x_ialdC C hW (o_X4_16 hk_p0) hf dX4_findBlocks_33 (fun hf => ?_)
        refine x_cmplt (tgt := 87) C hf dX4_findBlocks_34 (by decide) (fun hf => ?_) (fun hf => ?_)
        · exact j_X4_findBlocks_87 hk_p0 C (fun z0 z1 => ih z0 z1) hW (lv_sub hl [0, 1] rfl) hf
        · exact j_X4_findBlocks_37 hk_p0 C (fun z0 z1 => ih z0 z1) hW (lv_sub hl [0, 1] rfl) hf
set_option maxRecDepth 20000 in
set_option maxHeartbeats 1000000 in
theorem c_X4_findBlocks {l : Launch} {Z : ZT} {g : va_W} {h : Hp} {p0 : Nat} (hk_p0 : knd p0 = 4) {out : Hp} (hf : f_X4_findBlocks h p0 = some out) : Met l yX4_findBlocks (wY yX4_findBlocks cX4_findBlocks 3 none) (rmD 1) (va_Pc [.ref (Z.1 p0)] (Wd Z h g)) (va_Qv (fun (_ : Unit) => True) (fun _ => Wd Z out g) (FR Z)) 0 0 (FR Z) := by
  refine metX RX4 rfl (by decide +kernel) (Nat.le_of_ble_eq_true rfl) ?_
  intro p e s m args below meth c C hW ls hl
  have hl : lv_has ls 3 [(0, .ref (Z.1 p0))] := hl
  unfold f_X4_findBlocks at hf
  refine lv_iconst (v := 0) C.1 C.2.1 dX4_findBlocks_0 (by decide) ?_
  refine lv_istore_n (lv' := [(1, .int (0 : Int32)), (0, .ref (Z.1 p0))]) C.1 C.2.1 dX4_findBlocks_1 rfl hl (by decide) rfl (fun ls hl => ?_)
  exact l_X4_findBlocks_2 hk_p0 C FU (0 : Int32) h ls _ _ hW (lv_sub hl [1, 0] rfl) hf
set_option maxRecDepth 20000 in
set_option maxHeartbeats 1000000 in
theorem c_X4_shareFrame {l : Launch} {Z : ZT} {g : va_W} {h : Hp} {p0 : Nat} {p1 : Int32} {p2 : Int32} (hk_p0 : knd p0 = 4) {out : Int32} (hf : f_X4_shareFrame h p0 p1 p2 = some out) : Met l yX4_shareFrame (wY yX4_shareFrame cX4_shareFrame 3 (some .boolean)) (rmD 0) (va_Pc [.ref (Z.1 p0), .int p1, .int p2] (Wd Z h g)) (va_Qi (fun r (_ : Unit) => r = out) (fun _ => Wd Z h g) (FR Z)) 0 0 (FR Z) := by
  refine metX RX4 rfl (by decide +kernel) (Nat.le_of_ble_eq_true rfl) ?_
  intro p e s m args below meth c C hW ls hl
  have hl : lv_has ls 3 [(0, .ref (Z.1 p0)), (1, .int p1), (2, .int p2)] := hl
  unfold f_X4_shareFrame at hf
  refine lv_aload_n C.1 C.2.1 dX4_shareFrame_0 rfl (lv_at hl 0 rfl) ?_
  refine xg_X4_28 C hW hk_p0 dX4_shareFrame_1 ?_
  refine lv_iload_n C.1 C.2.1 dX4_shareFrame_4 rfl (lv_at hl 1 rfl) ?_
  refine x_ialdC C hW (o_X4_7 hk_p0) hf dX4_shareFrame_5 (fun hf => ?_)
  refine lv_aload_n C.1 C.2.1 dX4_shareFrame_6 rfl (lv_at hl 0 rfl) ?_
  refine xg_X4_31 C hW hk_p0 dX4_shareFrame_7 ?_
  refine lv_iload_n C.1 C.2.1 dX4_shareFrame_10 rfl (lv_at hl 2 rfl) ?_
  refine x_ialdC C hW (o_X4_8 hk_p0) hf dX4_shareFrame_11 (fun hf => ?_)
  refine x_cmpge (tgt := 34) C hf dX4_shareFrame_12 (by decide) (fun hf => ?_) (fun hf => ?_)
  · refine lv_iconst (v := 0) C.1 C.2.1 dX4_shareFrame_34 (by decide) ?_
    exact x_zret C hW (by decide) dX4_shareFrame_35 (Option.some.inj hf)
  · refine lv_aload_n C.1 C.2.1 dX4_shareFrame_15 rfl (lv_at hl 0 rfl) ?_
    refine xg_X4_28 C hW hk_p0 dX4_shareFrame_16 ?_
    refine lv_iload_n C.1 C.2.1 dX4_shareFrame_19 rfl (lv_at hl 2 rfl) ?_
    refine x_ialdC C hW (o_X4_7 hk_p0) hf dX4_shareFrame_20 (fun hf => ?_)
    refine lv_aload_n C.1 C.2.1 dX4_shareFrame_21 rfl (lv_at hl 0 rfl) ?_
    refine xg_X4_31 C hW hk_p0 dX4_shareFrame_22 ?_
    refine lv_iload_n C.1 C.2.1 dX4_shareFrame_25 rfl (lv_at hl 1 rfl) ?_
    refine x_ialdC C hW (o_X4_8 hk_p0) hf dX4_shareFrame_26 (fun hf => ?_)
    refine x_cmpge (tgt := 34) C hf dX4_shareFrame_27 (by decide) (fun hf => ?_) (fun hf => ?_)
    · refine lv_iconst (v := 0) C.1 C.2.1 dX4_shareFrame_34 (by decide) ?_
      exact x_zret C hW (by decide) dX4_shareFrame_35 (Option.some.inj hf)
    · refine lv_iconst (v := 1) C.1 C.2.1 dX4_shareFrame_30 (by decide) ?_
      refine lv_goto (tgt := 35) C.1 C.2.1 dX4_shareFrame_31 (by decide) ?_
      exact x_zret C hW (by decide) dX4_shareFrame_35 (Option.some.inj hf)
set_option maxRecDepth 20000 in
set_option maxHeartbeats 1000000 in
theorem j_X4_countOverlapping_29 {l : Launch} {Z : ZT} {g : va_W} {h : Hp} {p0 : Nat} {p1 : Int32} {r4 : Int32 × Int32 → Option (Int32)} {x2 : Int32} {x3 : Int32} (hk_p0 : knd p0 = 4) {p : Program} {e : Env} {s : State} {m : MethodId} {args : Array Value} {below : List Frame} {meth : Method} {c : Code} (C : CX p s m args meth c cX4_countOverlapping RX4 4 (some .int) Z g) {out : Int32} (hr4 : ∀ (x2 : Int32) (x3 : Int32) (ls : Array Slot) (H : Heap) (locs : List Loc), XW Z h g s.heap H locs → lv_has ls 4 [(0, .ref (Z.1 p0)), (1, .int p1), (2, .int x2), (3, .int x3)] → r4 (x2, x3) = some out → W p l e (rmD 1) s m args below meth c H locs 0 0 (MQ below (va_Qi (fun r (_ : Unit) => r = out) (fun _ => Wd Z h g) (FR Z)) args s 0 0 (FR Z)) (F0 m 4 ls [])) {ls : Array Slot} {H : Heap} {locs : List Loc} (hW : XW Z h g s.heap H locs) (hl : lv_has ls 4 [(0, .ref (Z.1 p0)), (1, .int p1), (2, .int x2), (3, .int x3)]) (hf : J_X4_countOverlapping_29 h p0 p1 r4 x2 x3 = some out) : W p l e (rmD 1) s m args below meth c H locs 0 0 (MQ below (va_Qi (fun r (_ : Unit) => r = out) (fun _ => Wd Z h g) (FR Z)) args s 0 0 (FR Z)) (F0 m 29 ls []) := by
  rw [J_X4_countOverlapping_29] at hf
  refine x_iinc (w := 1) C hf dX4_countOverlapping_29 hl (k := 3) rfl (by decide) (by decide) (fun v1 => [(3, .int v1), (0, .ref (Z.1 p0)), (1, .int p1), (2, .int x2)]) (fun _ => rfl) (fun v1 ls hf hl => ?_)
  refine lv_goto (tgt := 4) C.1 C.2.1 dX4_countOverlapping_32 (by decide) ?_
  exact hr4 x2 v1 ls _ _ hW (lv_sub hl [1, 2, 3, 0] rfl) hf
set_option maxRecDepth 20000 in
set_option maxHeartbeats 1000000 in
theorem l_X4_countOverlapping_4 {l : Launch} {Z : ZT} {g : va_W} {h : Hp} {p0 : Nat} {p1 : Int32} (hk_p0 : knd p0 = 4) {p : Program} {e : Env} {s : State} {m : MethodId} {args : Array Value} {below : List Frame} {meth : Method} {c : Code} (C : CX p s m args meth c cX4_countOverlapping RX4 4 (some .int) Z g) {out : Int32} : ∀ (n : Nat) (x2 : Int32) (x3 : Int32) (ls : Array Slot) (H : Heap) (locs : List Loc), XW Z h g s.heap H locs → lv_has ls 4 [(0, .ref (Z.1 p0)), (1, .int p1), (2, .int x2), (3, .int x3)] → Lp (F_X4_countOverlapping_4 h p0 p1) n (x2, x3) = some out → W p l e (rmD 1) s m args below meth c H locs 0 0 (MQ below (va_Qi (fun r (_ : Unit) => r = out) (fun _ => Wd Z h g) (FR Z)) args s 0 0 (FR Z)) (F0 m 4 ls []) := by
  intro n
  induction n with
  | zero => intro x2 x3 ls H locs hW hl hf; cases hf
  | succ n ih =>
    intro x2 x3 ls H locs hW hl hf
    rw [Lp_s] at hf
    refine lv_iload_n C.1 C.2.1 dX4_countOverlapping_4 rfl (lv_at hl 3 rfl) ?_
    refine lv_aload_n C.1 C.2.1 dX4_countOverlapping_5 rfl (lv_at hl 0 rfl) ?_
    refine xg_X4_62 C hW hk_p0 dX4_countOverlapping_6 ?_
    refine x_cmpge (tgt := 35) C hf dX4_countOverlapping_9 (by decide) (fun hf => ?_) (fun hf => ?_)
    · refine lv_iload_n C.1 C.2.1 dX4_countOverlapping_35 rfl (lv_at hl 2 rfl) ?_
      exact x_iret C hW dX4_countOverlapping_36 (Option.some.inj hf)
    · refine lv_iload_n C.1 C.2.1 dX4_countOverlapping_12 rfl (lv_at hl 3 rfl) ?_
      refine lv_iload_n C.1 C.2.1 dX4_countOverlapping_13 rfl (lv_at hl 1 rfl) ?_
      refine x_cmpeq (tgt := 29) C hf dX4_countOverlapping_14 (by decide) (fun hf => ?_) (fun hf => ?_)
      · exact j_X4_countOverlapping_29 hk_p0 C (fun z0 z1 => ih z0 z1) hW (lv_sub hl [0, 1, 2, 3] rfl) hf
      · refine lv_aload_n C.1 C.2.1 dX4_countOverlapping_17 rfl (lv_at hl 0 rfl) ?_
        refine lv_iload_n C.1 C.2.1 dX4_countOverlapping_18 rfl (lv_at hl 3 rfl) ?_
        refine lv_iload_n C.1 C.2.1 dX4_countOverlapping_19 rfl (lv_at hl 1 rfl) ?_
        obtain ⟨u2, hcu2, hf⟩ := bnd_t hf
        refine x_calli hW (x_runV C hW hl (wk4 hk_p0) rfl rfl (c_X4_shareFrame hk_p0 hcu2) (cw_X4_92) ci_X4_shareFrame cs_X4_shareFrame (rm_ok (by decide) (by decide)) ⟨Nat.le_refl _, Nat.le_refl _⟩ (As := [.int x3, .int p1]) rfl rfl (Nat.le_of_ble_eq_true rfl) dX4_countOverlapping_20) (fun H locs hW => ?_)
        refine x_ifeq (tgt := 29) C hf dX4_countOverlapping_23 (by decide) (fun hf => ?_) (fun hf => ?_)
        · exact j_X4_countOverlapping_29 hk_p0 C (fun z0 z1 => ih z0 z1) hW (lv_sub hl [0, 1, 2, 3] rfl) hf
        · refine x_iinc (w := 1) C hf dX4_countOverlapping_26 hl (k := 2) rfl (by decide) (by decide) (fun v3 => [(2, .int v3), (0, .ref (Z.1 p0)), (1, .int p1), (3, .int x3)]) (fun _ => rfl) (fun v3 ls hf hl => ?_)
          exact j_X4_countOverlapping_29 hk_p0 C (fun z0 z1 => ih z0 z1) hW (lv_sub hl [1, 2, 0, 3] rfl) hf
set_option maxRecDepth 20000 in
set_option maxHeartbeats 1000000 in
theorem c_X4_countOverlapping {l : Launch} {Z : ZT} {g : va_W} {h : Hp} {p0 : Nat} {p1 : Int32} (hk_p0 : knd p0 = 4) {out : Int32} (hf : f_X4_countOverlapping h p0 p1 = some out) : Met l yX4_countOverlapping (wY yX4_countOverlapping cX4_countOverlapping 4 (some .int)) (rmD 1) (va_Pc [.ref (Z.1 p0), .int p1] (Wd Z h g)) (va_Qi (fun r (_ : Unit) => r = out) (fun _ => Wd Z h g) (FR Z)) 0 0 (FR Z) := by
  refine metX RX4 rfl (by decide +kernel) (Nat.le_of_ble_eq_true rfl) ?_
  intro p e s m args below meth c C hW ls hl
  have hl : lv_has ls 4 [(0, .ref (Z.1 p0)), (1, .int p1)] := hl
  unfold f_X4_countOverlapping at hf
  refine lv_iconst (v := 0) C.1 C.2.1 dX4_countOverlapping_0 (by decide) ?_
  refine lv_istore_n (lv' := [(2, .int (0 : Int32)), (0, .ref (Z.1 p0)), (1, .int p1)]) C.1 C.2.1 dX4_countOverlapping_1 rfl hl (by decide) rfl (fun ls hl => ?_)
  refine lv_iconst (v := 0) C.1 C.2.1 dX4_countOverlapping_2 (by decide) ?_
  refine lv_istore_n (lv' := [(3, .int (0 : Int32)), (2, .int (0 : Int32)), (0, .ref (Z.1 p0)), (1, .int p1)]) C.1 C.2.1 dX4_countOverlapping_3 rfl hl (by decide) rfl (fun ls hl => ?_)
  exact l_X4_countOverlapping_4 hk_p0 C FU (0 : Int32) (0 : Int32) ls _ _ hW (lv_sub hl [2, 3, 1, 0] rfl) hf
