abbrev cX11_seesName : ByteArray := prog_13_method_33_code
def yX11_seesName : MethodName := ⟨RX11, "seesName", "()I"⟩
theorem dX11_seesName_0 : decode cX11_seesName 0 = .ok (.aload_n 0, 1) := by decide +kernel
theorem dX11_seesName_1 : decode cX11_seesName 1 = .ok (.invokevirtual 142, 3) := by decide +kernel
theorem dX11_seesName_4 : decode cX11_seesName 4 = .ok (.istore_n 1, 1) := by decide +kernel
theorem dX11_seesName_5 : decode cX11_seesName 5 = .ok (.aload_n 0, 1) := by decide +kernel
theorem dX11_seesName_6 : decode cX11_seesName 6 = .ok (.iload_n 1, 1) := by decide +kernel
theorem dX11_seesName_7 : decode cX11_seesName 7 = .ok (.iconst 1, 1) := by decide +kernel
theorem dX11_seesName_8 : decode cX11_seesName 8 = .ok (.bipush 6, 2) := by decide +kernel
theorem dX11_seesName_10 : decode cX11_seesName 10 = .ok (.invokestatic 166, 3) := by decide +kernel
theorem dX11_seesName_13 : decode cX11_seesName 13 = .ok (.iconst 1, 1) := by decide +kernel
theorem dX11_seesName_14 : decode cX11_seesName 14 = .ok (.invokevirtual 162, 3) := by decide +kernel
theorem dX11_seesName_17 : decode cX11_seesName 17 = .ok (.iconst 0, 1) := by decide +kernel
theorem dX11_seesName_18 : decode cX11_seesName 18 = .ok (.istore_n 2, 1) := by decide +kernel
theorem dX11_seesName_19 : decode cX11_seesName 19 = .ok (.iconst 0, 1) := by decide +kernel
theorem dX11_seesName_20 : decode cX11_seesName 20 = .ok (.istore_n 3, 1) := by decide +kernel
theorem dX11_seesName_21 : decode cX11_seesName 21 = .ok (.iload_n 3, 1) := by decide +kernel
theorem dX11_seesName_22 : decode cX11_seesName 22 = .ok (.iload_n 1, 1) := by decide +kernel
theorem dX11_seesName_23 : decode cX11_seesName 23 = .ok (.if_icmp .ge 38, 3) := by decide +kernel
theorem dX11_seesName_26 : decode cX11_seesName 26 = .ok (.aload_n 0, 1) := by decide +kernel
theorem dX11_seesName_27 : decode cX11_seesName 27 = .ok (.invokevirtual 125, 3) := by decide +kernel
theorem dX11_seesName_30 : decode cX11_seesName 30 = .ok (.ifCond .ne 31, 3) := by decide +kernel
theorem dX11_seesName_33 : decode cX11_seesName 33 = .ok (.bipush 27, 2) := by decide +kernel
theorem dX11_seesName_35 : decode cX11_seesName 35 = .ok (.iload_n 2, 1) := by decide +kernel
theorem dX11_seesName_36 : decode cX11_seesName 36 = .ok (.imul, 1) := by decide +kernel
theorem dX11_seesName_37 : decode cX11_seesName 37 = .ok (.aload_n 0, 1) := by decide +kernel
theorem dX11_seesName_38 : decode cX11_seesName 38 = .ok (.getfield 47, 3) := by decide +kernel
theorem dX11_seesName_41 : decode cX11_seesName 41 = .ok (.aload_n 0, 1) := by decide +kernel
theorem dX11_seesName_42 : decode cX11_seesName 42 = .ok (.getfield 119, 3) := by decide +kernel
theorem dX11_seesName_45 : decode cX11_seesName 45 = .ok (.iload_n 3, 1) := by decide +kernel
theorem dX11_seesName_46 : decode cX11_seesName 46 = .ok (.iadd, 1) := by decide +kernel
theorem dX11_seesName_47 : decode cX11_seesName 47 = .ok (.baload, 1) := by decide +kernel
theorem dX11_seesName_48 : decode cX11_seesName 48 = .ok (.iadd, 1) := by decide +kernel
theorem dX11_seesName_49 : decode cX11_seesName 49 = .ok (.bipush 97, 2) := by decide +kernel
theorem dX11_seesName_51 : decode cX11_seesName 51 = .ok (.isub, 1) := by decide +kernel
theorem dX11_seesName_52 : decode cX11_seesName 52 = .ok (.iconst 1, 1) := by decide +kernel
theorem dX11_seesName_53 : decode cX11_seesName 53 = .ok (.iadd, 1) := by decide +kernel
theorem dX11_seesName_54 : decode cX11_seesName 54 = .ok (.istore_n 2, 1) := by decide +kernel
theorem dX11_seesName_55 : decode cX11_seesName 55 = .ok (.iinc 3 1, 3) := by decide +kernel
theorem dX11_seesName_58 : decode cX11_seesName 58 = .ok (.goto (-37), 3) := by decide +kernel
theorem dX11_seesName_61 : decode cX11_seesName 61 = .ok (.iload_n 2, 1) := by decide +kernel
theorem dX11_seesName_62 : decode cX11_seesName 62 = .ok (.ireturn, 1) := by decide +kernel
theorem ci_X11_seesName : Cond.instanceMethod yX11_seesName ∈ TW := TW_of 1607 (by decide +kernel) (by decide +kernel)
theorem cs_X11_seesName : Cond.selects yX11_seesName.cls yX11_seesName yX11_seesName ∈ TW := TW_of 39 (by decide +kernel) (by decide +kernel)
abbrev cX11_takesName : ByteArray := prog_13_method_34_code
def yX11_takesName : MethodName := ⟨RX11, "takesName", "()I"⟩
theorem dX11_takesName_0 : decode cX11_takesName 0 = .ok (.aload_n 0, 1) := by decide +kernel
theorem dX11_takesName_1 : decode cX11_takesName 1 = .ok (.invokevirtual 170, 3) := by decide +kernel
theorem dX11_takesName_4 : decode cX11_takesName 4 = .ok (.istore_n 1, 1) := by decide +kernel
theorem dX11_takesName_5 : decode cX11_takesName 5 = .ok (.aload_n 0, 1) := by decide +kernel
theorem dX11_takesName_6 : decode cX11_takesName 6 = .ok (.invokevirtual 125, 3) := by decide +kernel
theorem dX11_takesName_9 : decode cX11_takesName 9 = .ok (.ifCond .ne 16, 3) := by decide +kernel
theorem dX11_takesName_12 : decode cX11_takesName 12 = .ok (.aload_n 0, 1) := by decide +kernel
theorem dX11_takesName_13 : decode cX11_takesName 13 = .ok (.dup, 1) := by decide +kernel
theorem dX11_takesName_14 : decode cX11_takesName 14 = .ok (.getfield 119, 3) := by decide +kernel
theorem dX11_takesName_17 : decode cX11_takesName 17 = .ok (.aload_n 0, 1) := by decide +kernel
theorem dX11_takesName_18 : decode cX11_takesName 18 = .ok (.invokevirtual 142, 3) := by decide +kernel
theorem dX11_takesName_21 : decode cX11_takesName 21 = .ok (.iadd, 1) := by decide +kernel
theorem dX11_takesName_22 : decode cX11_takesName 22 = .ok (.putfield 119, 3) := by decide +kernel
theorem dX11_takesName_25 : decode cX11_takesName 25 = .ok (.iload_n 1, 1) := by decide +kernel
theorem dX11_takesName_26 : decode cX11_takesName 26 = .ok (.ireturn, 1) := by decide +kernel
theorem ci_X11_takesName : Cond.instanceMethod yX11_takesName ∈ TW := TW_of 1615 (by decide +kernel) (by decide +kernel)
theorem cs_X11_takesName : Cond.selects yX11_takesName.cls yX11_takesName yX11_takesName ∈ TW := TW_of 41 (by decide +kernel) (by decide +kernel)
abbrev cX11_speakerNamed : ByteArray := prog_13_method_35_code
def yX11_speakerNamed : MethodName := ⟨RX11, "speakerNamed", "(I)I"⟩
theorem dX11_speakerNamed_0 : decode cX11_speakerNamed 0 = .ok (.iconst 0, 1) := by decide +kernel
theorem dX11_speakerNamed_1 : decode cX11_speakerNamed 1 = .ok (.istore_n 2, 1) := by decide +kernel
theorem dX11_speakerNamed_2 : decode cX11_speakerNamed 2 = .ok (.iload_n 2, 1) := by decide +kernel
theorem dX11_speakerNamed_3 : decode cX11_speakerNamed 3 = .ok (.aload_n 0, 1) := by decide +kernel
theorem dX11_speakerNamed_4 : decode cX11_speakerNamed 4 = .ok (.getfield 17, 3) := by decide +kernel
theorem dX11_speakerNamed_7 : decode cX11_speakerNamed 7 = .ok (.iconst 2, 1) := by decide +kernel
theorem dX11_speakerNamed_8 : decode cX11_speakerNamed 8 = .ok (.iaload, 1) := by decide +kernel
theorem dX11_speakerNamed_9 : decode cX11_speakerNamed 9 = .ok (.if_icmp .ge 23, 3) := by decide +kernel
theorem dX11_speakerNamed_12 : decode cX11_speakerNamed 12 = .ok (.aload_n 0, 1) := by decide +kernel
theorem dX11_speakerNamed_13 : decode cX11_speakerNamed 13 = .ok (.getfield 17, 3) := by decide +kernel
theorem dX11_speakerNamed_16 : decode cX11_speakerNamed 16 = .ok (.iconst 5, 1) := by decide +kernel
theorem dX11_speakerNamed_17 : decode cX11_speakerNamed 17 = .ok (.iload_n 2, 1) := by decide +kernel
theorem dX11_speakerNamed_18 : decode cX11_speakerNamed 18 = .ok (.iadd, 1) := by decide +kernel
theorem dX11_speakerNamed_19 : decode cX11_speakerNamed 19 = .ok (.iaload, 1) := by decide +kernel
theorem dX11_speakerNamed_20 : decode cX11_speakerNamed 20 = .ok (.iload_n 1, 1) := by decide +kernel
theorem dX11_speakerNamed_21 : decode cX11_speakerNamed 21 = .ok (.if_icmp .ne 5, 3) := by decide +kernel
theorem dX11_speakerNamed_24 : decode cX11_speakerNamed 24 = .ok (.iload_n 2, 1) := by decide +kernel
theorem dX11_speakerNamed_25 : decode cX11_speakerNamed 25 = .ok (.ireturn, 1) := by decide +kernel
theorem dX11_speakerNamed_26 : decode cX11_speakerNamed 26 = .ok (.iinc 2 1, 3) := by decide +kernel
theorem dX11_speakerNamed_29 : decode cX11_speakerNamed 29 = .ok (.goto (-27), 3) := by decide +kernel
theorem dX11_speakerNamed_32 : decode cX11_speakerNamed 32 = .ok (.iconst (-1), 1) := by decide +kernel
theorem dX11_speakerNamed_33 : decode cX11_speakerNamed 33 = .ok (.ireturn, 1) := by decide +kernel
theorem ci_X11_speakerNamed : Cond.instanceMethod yX11_speakerNamed ∈ TW := TW_of 1611 (by decide +kernel) (by decide +kernel)
theorem cs_X11_speakerNamed : Cond.selects yX11_speakerNamed.cls yX11_speakerNamed yX11_speakerNamed ∈ TW := TW_of 40 (by decide +kernel) (by decide +kernel)
abbrev cX11_readSpeaker : ByteArray := prog_13_method_36_code
def yX11_readSpeaker : MethodName := ⟨RX11, "readSpeaker", "(I)V"⟩
theorem dX11_readSpeaker_0 : decode cX11_readSpeaker 0 = .ok (.aload_n 0, 1) := by decide +kernel
theorem dX11_readSpeaker_1 : decode cX11_readSpeaker 1 = .ok (.iload_n 1, 1) := by decide +kernel
theorem dX11_readSpeaker_2 : decode cX11_readSpeaker 2 = .ok (.putfield 133, 3) := by decide +kernel
theorem dX11_readSpeaker_5 : decode cX11_readSpeaker 5 = .ok (.aload_n 0, 1) := by decide +kernel
theorem dX11_readSpeaker_6 : decode cX11_readSpeaker 6 = .ok (.aload_n 0, 1) := by decide +kernel
theorem dX11_readSpeaker_7 : decode cX11_readSpeaker 7 = .ok (.getfield 17, 3) := by decide +kernel
theorem dX11_readSpeaker_10 : decode cX11_readSpeaker 10 = .ok (.iconst 2, 1) := by decide +kernel
theorem dX11_readSpeaker_11 : decode cX11_readSpeaker 11 = .ok (.iaload, 1) := by decide +kernel
theorem dX11_readSpeaker_12 : decode cX11_readSpeaker 12 = .ok (.iconst 4, 1) := by decide +kernel
theorem dX11_readSpeaker_13 : decode cX11_readSpeaker 13 = .ok (.if_icmp .ge 7, 3) := by decide +kernel
theorem dX11_readSpeaker_16 : decode cX11_readSpeaker 16 = .ok (.iconst 1, 1) := by decide +kernel
theorem dX11_readSpeaker_17 : decode cX11_readSpeaker 17 = .ok (.goto 4, 3) := by decide +kernel
theorem dX11_readSpeaker_20 : decode cX11_readSpeaker 20 = .ok (.iconst 0, 1) := by decide +kernel
theorem dX11_readSpeaker_21 : decode cX11_readSpeaker 21 = .ok (.iconst 4, 1) := by decide +kernel
theorem dX11_readSpeaker_22 : decode cX11_readSpeaker 22 = .ok (.invokevirtual 162, 3) := by decide +kernel
theorem dX11_readSpeaker_25 : decode cX11_readSpeaker 25 = .ok (.aload_n 0, 1) := by decide +kernel
theorem dX11_readSpeaker_26 : decode cX11_readSpeaker 26 = .ok (.invokevirtual 125, 3) := by decide +kernel
theorem dX11_readSpeaker_29 : decode cX11_readSpeaker 29 = .ok (.ifCond .eq 4, 3) := by decide +kernel
theorem dX11_readSpeaker_32 : decode cX11_readSpeaker 32 = .ok (.return_, 1) := by decide +kernel
theorem dX11_readSpeaker_33 : decode cX11_readSpeaker 33 = .ok (.aload_n 0, 1) := by decide +kernel
theorem dX11_readSpeaker_34 : decode cX11_readSpeaker 34 = .ok (.invokevirtual 170, 3) := by decide +kernel
theorem dX11_readSpeaker_37 : decode cX11_readSpeaker 37 = .ok (.istore_n 2, 1) := by decide +kernel
theorem dX11_readSpeaker_38 : decode cX11_readSpeaker 38 = .ok (.aload_n 0, 1) := by decide +kernel
theorem dX11_readSpeaker_39 : decode cX11_readSpeaker 39 = .ok (.aload_n 0, 1) := by decide +kernel
theorem dX11_readSpeaker_40 : decode cX11_readSpeaker 40 = .ok (.iload_n 2, 1) := by decide +kernel
theorem dX11_readSpeaker_41 : decode cX11_readSpeaker 41 = .ok (.invokevirtual 173, 3) := by decide +kernel
theorem dX11_readSpeaker_44 : decode cX11_readSpeaker 44 = .ok (.iconst (-1), 1) := by decide +kernel
theorem dX11_readSpeaker_45 : decode cX11_readSpeaker 45 = .ok (.if_icmp .ne 7, 3) := by decide +kernel
theorem dX11_readSpeaker_48 : decode cX11_readSpeaker 48 = .ok (.iconst 1, 1) := by decide +kernel
theorem dX11_readSpeaker_49 : decode cX11_readSpeaker 49 = .ok (.goto 4, 3) := by decide +kernel
theorem dX11_readSpeaker_52 : decode cX11_readSpeaker 52 = .ok (.iconst 0, 1) := by decide +kernel
theorem dX11_readSpeaker_53 : decode cX11_readSpeaker 53 = .ok (.iconst 3, 1) := by decide +kernel
theorem dX11_readSpeaker_54 : decode cX11_readSpeaker 54 = .ok (.invokevirtual 162, 3) := by decide +kernel
theorem dX11_readSpeaker_57 : decode cX11_readSpeaker 57 = .ok (.aload_n 0, 1) := by decide +kernel
theorem dX11_readSpeaker_58 : decode cX11_readSpeaker 58 = .ok (.invokevirtual 125, 3) := by decide +kernel
theorem dX11_readSpeaker_61 : decode cX11_readSpeaker 61 = .ok (.ifCond .eq 4, 3) := by decide +kernel
theorem dX11_readSpeaker_64 : decode cX11_readSpeaker 64 = .ok (.return_, 1) := by decide +kernel
theorem dX11_readSpeaker_65 : decode cX11_readSpeaker 65 = .ok (.aload_n 0, 1) := by decide +kernel
theorem dX11_readSpeaker_66 : decode cX11_readSpeaker 66 = .ok (.getfield 17, 3) := by decide +kernel
theorem dX11_readSpeaker_69 : decode cX11_readSpeaker 69 = .ok (.iconst 5, 1) := by decide +kernel
theorem dX11_readSpeaker_70 : decode cX11_readSpeaker 70 = .ok (.aload_n 0, 1) := by decide +kernel
theorem dX11_readSpeaker_71 : decode cX11_readSpeaker 71 = .ok (.getfield 17, 3) := by decide +kernel
theorem dX11_readSpeaker_74 : decode cX11_readSpeaker 74 = .ok (.iconst 2, 1) := by decide +kernel
theorem dX11_readSpeaker_75 : decode cX11_readSpeaker 75 = .ok (.iaload, 1) := by decide +kernel
theorem dX11_readSpeaker_76 : decode cX11_readSpeaker 76 = .ok (.iadd, 1) := by decide +kernel
theorem dX11_readSpeaker_77 : decode cX11_readSpeaker 77 = .ok (.aload_n 0, 1) := by decide +kernel
theorem dX11_readSpeaker_78 : decode cX11_readSpeaker 78 = .ok (.invokevirtual 177, 3) := by decide +kernel
theorem dX11_readSpeaker_81 : decode cX11_readSpeaker 81 = .ok (.iastore, 1) := by decide +kernel
theorem dX11_readSpeaker_82 : decode cX11_readSpeaker 82 = .ok (.aload_n 0, 1) := by decide +kernel
theorem dX11_readSpeaker_83 : decode cX11_readSpeaker 83 = .ok (.getfield 17, 3) := by decide +kernel
theorem dX11_readSpeaker_86 : decode cX11_readSpeaker 86 = .ok (.iconst 2, 1) := by decide +kernel
theorem dX11_readSpeaker_87 : decode cX11_readSpeaker 87 = .ok (.dup2, 1) := by decide +kernel
theorem dX11_readSpeaker_88 : decode cX11_readSpeaker 88 = .ok (.iaload, 1) := by decide +kernel
theorem dX11_readSpeaker_89 : decode cX11_readSpeaker 89 = .ok (.iconst 1, 1) := by decide +kernel
theorem dX11_readSpeaker_90 : decode cX11_readSpeaker 90 = .ok (.iadd, 1) := by decide +kernel
theorem dX11_readSpeaker_91 : decode cX11_readSpeaker 91 = .ok (.iastore, 1) := by decide +kernel
theorem dX11_readSpeaker_92 : decode cX11_readSpeaker 92 = .ok (.return_, 1) := by decide +kernel
theorem ci_X11_readSpeaker : Cond.instanceMethod yX11_readSpeaker ∈ TW := TW_of 1603 (by decide +kernel) (by decide +kernel)
theorem cs_X11_readSpeaker : Cond.selects yX11_readSpeaker.cls yX11_readSpeaker yX11_readSpeaker ∈ TW := TW_of 38 (by decide +kernel) (by decide +kernel)
abbrev cX11_speaks : ByteArray := prog_13_method_37_code
def yX11_speaks : MethodName := ⟨RX11, "speaks", "(III)Z"⟩
theorem dX11_speaks_0 : decode cX11_speaks 0 = .ok (.iconst 0, 1) := by decide +kernel
theorem dX11_speaks_1 : decode cX11_speaks 1 = .ok (.istore 4, 2) := by decide +kernel
theorem dX11_speaks_3 : decode cX11_speaks 3 = .ok (.iload 4, 2) := by decide +kernel
theorem dX11_speaks_5 : decode cX11_speaks 5 = .ok (.aload_n 0, 1) := by decide +kernel
theorem dX11_speaks_6 : decode cX11_speaks 6 = .ok (.getfield 17, 3) := by decide +kernel
theorem dX11_speaks_9 : decode cX11_speaks 9 = .ok (.iconst 3, 1) := by decide +kernel
theorem dX11_speaks_10 : decode cX11_speaks 10 = .ok (.iaload, 1) := by decide +kernel
theorem dX11_speaks_11 : decode cX11_speaks 11 = .ok (.if_icmp .ge 59, 3) := by decide +kernel
theorem dX11_speaks_14 : decode cX11_speaks 14 = .ok (.bipush 9, 2) := by decide +kernel
theorem dX11_speaks_16 : decode cX11_speaks 16 = .ok (.iconst 4, 1) := by decide +kernel
theorem dX11_speaks_17 : decode cX11_speaks 17 = .ok (.iload 4, 2) := by decide +kernel
theorem dX11_speaks_19 : decode cX11_speaks 19 = .ok (.imul, 1) := by decide +kernel
theorem dX11_speaks_20 : decode cX11_speaks 20 = .ok (.iadd, 1) := by decide +kernel
theorem dX11_speaks_21 : decode cX11_speaks 21 = .ok (.istore 5, 2) := by decide +kernel
theorem dX11_speaks_23 : decode cX11_speaks 23 = .ok (.aload_n 0, 1) := by decide +kernel
theorem dX11_speaks_24 : decode cX11_speaks 24 = .ok (.getfield 17, 3) := by decide +kernel
theorem dX11_speaks_27 : decode cX11_speaks 27 = .ok (.iload 5, 2) := by decide +kernel
theorem dX11_speaks_29 : decode cX11_speaks 29 = .ok (.iconst 0, 1) := by decide +kernel
theorem dX11_speaks_30 : decode cX11_speaks 30 = .ok (.iadd, 1) := by decide +kernel
theorem dX11_speaks_31 : decode cX11_speaks 31 = .ok (.iaload, 1) := by decide +kernel
theorem dX11_speaks_32 : decode cX11_speaks 32 = .ok (.iload_n 1, 1) := by decide +kernel
theorem dX11_speaks_33 : decode cX11_speaks 33 = .ok (.if_icmp .ne 31, 3) := by decide +kernel
theorem dX11_speaks_36 : decode cX11_speaks 36 = .ok (.aload_n 0, 1) := by decide +kernel
theorem dX11_speaks_37 : decode cX11_speaks 37 = .ok (.getfield 17, 3) := by decide +kernel
theorem dX11_speaks_40 : decode cX11_speaks 40 = .ok (.iload 5, 2) := by decide +kernel
theorem dX11_speaks_42 : decode cX11_speaks 42 = .ok (.iconst 2, 1) := by decide +kernel
theorem dX11_speaks_43 : decode cX11_speaks 43 = .ok (.iadd, 1) := by decide +kernel
theorem dX11_speaks_44 : decode cX11_speaks 44 = .ok (.iaload, 1) := by decide +kernel
theorem dX11_speaks_45 : decode cX11_speaks 45 = .ok (.iload_n 3, 1) := by decide +kernel
theorem dX11_speaks_46 : decode cX11_speaks 46 = .ok (.if_icmp .ge 18, 3) := by decide +kernel
theorem dX11_speaks_49 : decode cX11_speaks 49 = .ok (.aload_n 0, 1) := by decide +kernel
theorem dX11_speaks_50 : decode cX11_speaks 50 = .ok (.getfield 17, 3) := by decide +kernel
theorem dX11_speaks_53 : decode cX11_speaks 53 = .ok (.iload 5, 2) := by decide +kernel
theorem dX11_speaks_55 : decode cX11_speaks 55 = .ok (.iconst 3, 1) := by decide +kernel
theorem dX11_speaks_56 : decode cX11_speaks 56 = .ok (.iadd, 1) := by decide +kernel
theorem dX11_speaks_57 : decode cX11_speaks 57 = .ok (.iaload, 1) := by decide +kernel
theorem dX11_speaks_58 : decode cX11_speaks 58 = .ok (.iload_n 2, 1) := by decide +kernel
theorem dX11_speaks_59 : decode cX11_speaks 59 = .ok (.if_icmp .le 5, 3) := by decide +kernel
theorem dX11_speaks_62 : decode cX11_speaks 62 = .ok (.iconst 1, 1) := by decide +kernel
theorem dX11_speaks_63 : decode cX11_speaks 63 = .ok (.ireturn, 1) := by decide +kernel
theorem dX11_speaks_64 : decode cX11_speaks 64 = .ok (.iinc 4 1, 3) := by decide +kernel
theorem dX11_speaks_67 : decode cX11_speaks 67 = .ok (.goto (-64), 3) := by decide +kernel
theorem dX11_speaks_70 : decode cX11_speaks 70 = .ok (.iconst 0, 1) := by decide +kernel
theorem dX11_speaks_71 : decode cX11_speaks 71 = .ok (.ireturn, 1) := by decide +kernel
theorem ci_X11_speaks : Cond.instanceMethod yX11_speaks ∈ TW := TW_of 1625 (by decide +kernel) (by decide +kernel)
theorem cs_X11_speaks : Cond.selects yX11_speaks.cls yX11_speaks yX11_speaks ∈ TW := TW_of 43 (by decide +kernel) (by decide +kernel)
abbrev cX11_isBehind : ByteArray := prog_13_method_40_code
def yX11_isBehind : MethodName := ⟨RX11, "isBehind", "(III)Z"⟩
theorem dX11_isBehind_0 : decode cX11_isBehind 0 = .ok (.bipush 9, 2) := by decide +kernel
theorem dX11_isBehind_2 : decode cX11_isBehind 2 = .ok (.iconst 4, 1) := by decide +kernel
theorem dX11_isBehind_3 : decode cX11_isBehind 3 = .ok (.iload_n 1, 1) := by decide +kernel
theorem dX11_isBehind_4 : decode cX11_isBehind 4 = .ok (.imul, 1) := by decide +kernel
theorem dX11_isBehind_5 : decode cX11_isBehind 5 = .ok (.iadd, 1) := by decide +kernel
theorem dX11_isBehind_6 : decode cX11_isBehind 6 = .ok (.istore 4, 2) := by decide +kernel
theorem dX11_isBehind_8 : decode cX11_isBehind 8 = .ok (.aload_n 0, 1) := by decide +kernel
theorem dX11_isBehind_9 : decode cX11_isBehind 9 = .ok (.getfield 17, 3) := by decide +kernel
theorem dX11_isBehind_12 : decode cX11_isBehind 12 = .ok (.iload 4, 2) := by decide +kernel
theorem dX11_isBehind_14 : decode cX11_isBehind 14 = .ok (.iconst 2, 1) := by decide +kernel
theorem dX11_isBehind_15 : decode cX11_isBehind 15 = .ok (.iadd, 1) := by decide +kernel
theorem dX11_isBehind_16 : decode cX11_isBehind 16 = .ok (.iaload, 1) := by decide +kernel
theorem dX11_isBehind_17 : decode cX11_isBehind 17 = .ok (.iload_n 2, 1) := by decide +kernel
theorem dX11_isBehind_18 : decode cX11_isBehind 18 = .ok (.if_icmp .gt 29, 3) := by decide +kernel
theorem dX11_isBehind_21 : decode cX11_isBehind 21 = .ok (.aload_n 0, 1) := by decide +kernel
theorem dX11_isBehind_22 : decode cX11_isBehind 22 = .ok (.getfield 17, 3) := by decide +kernel
theorem dX11_isBehind_25 : decode cX11_isBehind 25 = .ok (.iload 4, 2) := by decide +kernel
theorem dX11_isBehind_27 : decode cX11_isBehind 27 = .ok (.iconst 2, 1) := by decide +kernel
theorem dX11_isBehind_28 : decode cX11_isBehind 28 = .ok (.iadd, 1) := by decide +kernel
theorem dX11_isBehind_29 : decode cX11_isBehind 29 = .ok (.iaload, 1) := by decide +kernel
theorem dX11_isBehind_30 : decode cX11_isBehind 30 = .ok (.iload_n 2, 1) := by decide +kernel
theorem dX11_isBehind_31 : decode cX11_isBehind 31 = .ok (.if_icmp .ne 20, 3) := by decide +kernel
theorem dX11_isBehind_34 : decode cX11_isBehind 34 = .ok (.aload_n 0, 1) := by decide +kernel
theorem dX11_isBehind_35 : decode cX11_isBehind 35 = .ok (.getfield 17, 3) := by decide +kernel
theorem dX11_isBehind_38 : decode cX11_isBehind 38 = .ok (.iload 4, 2) := by decide +kernel
theorem dX11_isBehind_40 : decode cX11_isBehind 40 = .ok (.iconst 0, 1) := by decide +kernel
theorem dX11_isBehind_41 : decode cX11_isBehind 41 = .ok (.iadd, 1) := by decide +kernel
theorem dX11_isBehind_42 : decode cX11_isBehind 42 = .ok (.iaload, 1) := by decide +kernel
theorem dX11_isBehind_43 : decode cX11_isBehind 43 = .ok (.iload_n 3, 1) := by decide +kernel
theorem dX11_isBehind_44 : decode cX11_isBehind 44 = .ok (.if_icmp .le 7, 3) := by decide +kernel
theorem dX11_isBehind_47 : decode cX11_isBehind 47 = .ok (.iconst 1, 1) := by decide +kernel
theorem dX11_isBehind_48 : decode cX11_isBehind 48 = .ok (.goto 4, 3) := by decide +kernel
theorem dX11_isBehind_51 : decode cX11_isBehind 51 = .ok (.iconst 0, 1) := by decide +kernel
theorem dX11_isBehind_52 : decode cX11_isBehind 52 = .ok (.ireturn, 1) := by decide +kernel
theorem ci_X11_isBehind : Cond.instanceMethod yX11_isBehind ∈ TW := TW_of 1633 (by decide +kernel) (by decide +kernel)
theorem cs_X11_isBehind : Cond.selects yX11_isBehind.cls yX11_isBehind yX11_isBehind ∈ TW := TW_of 45 (by decide +kernel) (by decide +kernel)
abbrev cX11_putsWord : ByteArray := prog_13_method_39_code
def yX11_putsWord : MethodName := ⟨RX11, "putsWord", "(IIII)V"⟩
theorem dX11_putsWord_0 : decode cX11_putsWord 0 = .ok (.aload_n 0, 1) := by decide +kernel
theorem dX11_putsWord_1 : decode cX11_putsWord 1 = .ok (.getfield 17, 3) := by decide +kernel
theorem dX11_putsWord_4 : decode cX11_putsWord 4 = .ok (.iconst 3, 1) := by decide +kernel
theorem dX11_putsWord_5 : decode cX11_putsWord 5 = .ok (.iaload, 1) := by decide +kernel
theorem dX11_putsWord_6 : decode cX11_putsWord 6 = .ok (.istore 5, 2) := by decide +kernel
theorem dX11_putsWord_8 : decode cX11_putsWord 8 = .ok (.iload 5, 2) := by decide +kernel
theorem dX11_putsWord_10 : decode cX11_putsWord 10 = .ok (.ifCond .le 69, 3) := by decide +kernel
theorem dX11_putsWord_13 : decode cX11_putsWord 13 = .ok (.aload_n 0, 1) := by decide +kernel
theorem dX11_putsWord_14 : decode cX11_putsWord 14 = .ok (.iload 5, 2) := by decide +kernel
theorem dX11_putsWord_16 : decode cX11_putsWord 16 = .ok (.iconst 1, 1) := by decide +kernel
theorem dX11_putsWord_17 : decode cX11_putsWord 17 = .ok (.isub, 1) := by decide +kernel
theorem dX11_putsWord_18 : decode cX11_putsWord 18 = .ok (.iload_n 3, 1) := by decide +kernel
theorem dX11_putsWord_19 : decode cX11_putsWord 19 = .ok (.iload_n 1, 1) := by decide +kernel
theorem dX11_putsWord_20 : decode cX11_putsWord 20 = .ok (.invokevirtual 192, 3) := by decide +kernel
theorem dX11_putsWord_23 : decode cX11_putsWord 23 = .ok (.ifCond .eq 56, 3) := by decide +kernel
theorem dX11_putsWord_26 : decode cX11_putsWord 26 = .ok (.iconst 0, 1) := by decide +kernel
theorem dX11_putsWord_27 : decode cX11_putsWord 27 = .ok (.istore 6, 2) := by decide +kernel
theorem dX11_putsWord_29 : decode cX11_putsWord 29 = .ok (.iload 6, 2) := by decide +kernel
theorem dX11_putsWord_31 : decode cX11_putsWord 31 = .ok (.iconst 4, 1) := by decide +kernel
theorem dX11_putsWord_32 : decode cX11_putsWord 32 = .ok (.if_icmp .ge 41, 3) := by decide +kernel
theorem dX11_putsWord_35 : decode cX11_putsWord 35 = .ok (.aload_n 0, 1) := by decide +kernel
theorem dX11_putsWord_36 : decode cX11_putsWord 36 = .ok (.getfield 17, 3) := by decide +kernel
theorem dX11_putsWord_39 : decode cX11_putsWord 39 = .ok (.bipush 9, 2) := by decide +kernel
theorem dX11_putsWord_41 : decode cX11_putsWord 41 = .ok (.iconst 4, 1) := by decide +kernel
theorem dX11_putsWord_42 : decode cX11_putsWord 42 = .ok (.iload 5, 2) := by decide +kernel
theorem dX11_putsWord_44 : decode cX11_putsWord 44 = .ok (.imul, 1) := by decide +kernel
theorem dX11_putsWord_45 : decode cX11_putsWord 45 = .ok (.iadd, 1) := by decide +kernel
theorem dX11_putsWord_46 : decode cX11_putsWord 46 = .ok (.iload 6, 2) := by decide +kernel
theorem dX11_putsWord_48 : decode cX11_putsWord 48 = .ok (.iadd, 1) := by decide +kernel
theorem dX11_putsWord_49 : decode cX11_putsWord 49 = .ok (.aload_n 0, 1) := by decide +kernel
theorem dX11_putsWord_50 : decode cX11_putsWord 50 = .ok (.getfield 17, 3) := by decide +kernel
theorem dX11_putsWord_53 : decode cX11_putsWord 53 = .ok (.bipush 9, 2) := by decide +kernel
theorem dX11_putsWord_55 : decode cX11_putsWord 55 = .ok (.iconst 4, 1) := by decide +kernel
theorem dX11_putsWord_56 : decode cX11_putsWord 56 = .ok (.iload 5, 2) := by decide +kernel
theorem dX11_putsWord_58 : decode cX11_putsWord 58 = .ok (.iconst 1, 1) := by decide +kernel
theorem dX11_putsWord_59 : decode cX11_putsWord 59 = .ok (.isub, 1) := by decide +kernel
theorem dX11_putsWord_60 : decode cX11_putsWord 60 = .ok (.imul, 1) := by decide +kernel
theorem dX11_putsWord_61 : decode cX11_putsWord 61 = .ok (.iadd, 1) := by decide +kernel
theorem dX11_putsWord_62 : decode cX11_putsWord 62 = .ok (.iload 6, 2) := by decide +kernel
theorem dX11_putsWord_64 : decode cX11_putsWord 64 = .ok (.iadd, 1) := by decide +kernel
theorem dX11_putsWord_65 : decode cX11_putsWord 65 = .ok (.iaload, 1) := by decide +kernel
theorem dX11_putsWord_66 : decode cX11_putsWord 66 = .ok (.iastore, 1) := by decide +kernel
theorem dX11_putsWord_67 : decode cX11_putsWord 67 = .ok (.iinc 6 1, 3) := by decide +kernel
theorem dX11_putsWord_70 : decode cX11_putsWord 70 = .ok (.goto (-41), 3) := by decide +kernel
theorem dX11_putsWord_73 : decode cX11_putsWord 73 = .ok (.iinc 5 (-1), 3) := by decide +kernel
theorem dX11_putsWord_76 : decode cX11_putsWord 76 = .ok (.goto (-68), 3) := by decide +kernel
theorem dX11_putsWord_79 : decode cX11_putsWord 79 = .ok (.bipush 9, 2) := by decide +kernel
theorem dX11_putsWord_81 : decode cX11_putsWord 81 = .ok (.iconst 4, 1) := by decide +kernel
theorem dX11_putsWord_82 : decode cX11_putsWord 82 = .ok (.iload 5, 2) := by decide +kernel
theorem dX11_putsWord_84 : decode cX11_putsWord 84 = .ok (.imul, 1) := by decide +kernel
theorem dX11_putsWord_85 : decode cX11_putsWord 85 = .ok (.iadd, 1) := by decide +kernel
theorem dX11_putsWord_86 : decode cX11_putsWord 86 = .ok (.istore 6, 2) := by decide +kernel
theorem dX11_putsWord_88 : decode cX11_putsWord 88 = .ok (.aload_n 0, 1) := by decide +kernel
theorem dX11_putsWord_89 : decode cX11_putsWord 89 = .ok (.getfield 17, 3) := by decide +kernel
theorem dX11_putsWord_92 : decode cX11_putsWord 92 = .ok (.iload 6, 2) := by decide +kernel
theorem dX11_putsWord_94 : decode cX11_putsWord 94 = .ok (.iconst 0, 1) := by decide +kernel
theorem dX11_putsWord_95 : decode cX11_putsWord 95 = .ok (.iadd, 1) := by decide +kernel
theorem dX11_putsWord_96 : decode cX11_putsWord 96 = .ok (.iload_n 1, 1) := by decide +kernel
theorem dX11_putsWord_97 : decode cX11_putsWord 97 = .ok (.iastore, 1) := by decide +kernel
theorem dX11_putsWord_98 : decode cX11_putsWord 98 = .ok (.aload_n 0, 1) := by decide +kernel
theorem dX11_putsWord_99 : decode cX11_putsWord 99 = .ok (.getfield 17, 3) := by decide +kernel
theorem dX11_putsWord_102 : decode cX11_putsWord 102 = .ok (.iload 6, 2) := by decide +kernel
theorem dX11_putsWord_104 : decode cX11_putsWord 104 = .ok (.iconst 1, 1) := by decide +kernel
theorem dX11_putsWord_105 : decode cX11_putsWord 105 = .ok (.iadd, 1) := by decide +kernel
theorem dX11_putsWord_106 : decode cX11_putsWord 106 = .ok (.iload_n 2, 1) := by decide +kernel
theorem dX11_putsWord_107 : decode cX11_putsWord 107 = .ok (.iastore, 1) := by decide +kernel
theorem dX11_putsWord_108 : decode cX11_putsWord 108 = .ok (.aload_n 0, 1) := by decide +kernel
theorem dX11_putsWord_109 : decode cX11_putsWord 109 = .ok (.getfield 17, 3) := by decide +kernel
theorem dX11_putsWord_112 : decode cX11_putsWord 112 = .ok (.iload 6, 2) := by decide +kernel
theorem dX11_putsWord_114 : decode cX11_putsWord 114 = .ok (.iconst 2, 1) := by decide +kernel
theorem dX11_putsWord_115 : decode cX11_putsWord 115 = .ok (.iadd, 1) := by decide +kernel
theorem dX11_putsWord_116 : decode cX11_putsWord 116 = .ok (.iload_n 3, 1) := by decide +kernel
theorem dX11_putsWord_117 : decode cX11_putsWord 117 = .ok (.iastore, 1) := by decide +kernel
theorem dX11_putsWord_118 : decode cX11_putsWord 118 = .ok (.aload_n 0, 1) := by decide +kernel
theorem dX11_putsWord_119 : decode cX11_putsWord 119 = .ok (.getfield 17, 3) := by decide +kernel
theorem dX11_putsWord_122 : decode cX11_putsWord 122 = .ok (.iload 6, 2) := by decide +kernel
theorem dX11_putsWord_124 : decode cX11_putsWord 124 = .ok (.iconst 3, 1) := by decide +kernel
theorem dX11_putsWord_125 : decode cX11_putsWord 125 = .ok (.iadd, 1) := by decide +kernel
theorem dX11_putsWord_126 : decode cX11_putsWord 126 = .ok (.iload 4, 2) := by decide +kernel
theorem dX11_putsWord_128 : decode cX11_putsWord 128 = .ok (.iastore, 1) := by decide +kernel
theorem dX11_putsWord_129 : decode cX11_putsWord 129 = .ok (.aload_n 0, 1) := by decide +kernel
theorem dX11_putsWord_130 : decode cX11_putsWord 130 = .ok (.getfield 17, 3) := by decide +kernel
theorem dX11_putsWord_133 : decode cX11_putsWord 133 = .ok (.iconst 3, 1) := by decide +kernel
theorem dX11_putsWord_134 : decode cX11_putsWord 134 = .ok (.dup2, 1) := by decide +kernel
theorem dX11_putsWord_135 : decode cX11_putsWord 135 = .ok (.iaload, 1) := by decide +kernel
theorem dX11_putsWord_136 : decode cX11_putsWord 136 = .ok (.iconst 1, 1) := by decide +kernel
theorem dX11_putsWord_137 : decode cX11_putsWord 137 = .ok (.iadd, 1) := by decide +kernel
theorem dX11_putsWord_138 : decode cX11_putsWord 138 = .ok (.iastore, 1) := by decide +kernel
theorem dX11_putsWord_139 : decode cX11_putsWord 139 = .ok (.return_, 1) := by decide +kernel
theorem ci_X11_putsWord : Cond.instanceMethod yX11_putsWord ∈ TW := TW_of 1629 (by decide +kernel) (by decide +kernel)
theorem cs_X11_putsWord : Cond.selects yX11_putsWord.cls yX11_putsWord yX11_putsWord ∈ TW := TW_of 44 (by decide +kernel) (by decide +kernel)
abbrev cX11_readWord : ByteArray := prog_13_method_38_code
def yX11_readWord : MethodName := ⟨RX11, "readWord", "(I)V"⟩
theorem dX11_readWord_0 : decode cX11_readWord 0 = .ok (.aload_n 0, 1) := by decide +kernel
theorem dX11_readWord_1 : decode cX11_readWord 1 = .ok (.iload_n 1, 1) := by decide +kernel
theorem dX11_readWord_2 : decode cX11_readWord 2 = .ok (.putfield 133, 3) := by decide +kernel
theorem dX11_readWord_5 : decode cX11_readWord 5 = .ok (.aload_n 0, 1) := by decide +kernel
theorem dX11_readWord_6 : decode cX11_readWord 6 = .ok (.aload_n 0, 1) := by decide +kernel
theorem dX11_readWord_7 : decode cX11_readWord 7 = .ok (.getfield 17, 3) := by decide +kernel
theorem dX11_readWord_10 : decode cX11_readWord 10 = .ok (.iconst 3, 1) := by decide +kernel
theorem dX11_readWord_11 : decode cX11_readWord 11 = .ok (.iaload, 1) := by decide +kernel
theorem dX11_readWord_12 : decode cX11_readWord 12 = .ok (.bipush 40, 2) := by decide +kernel
theorem dX11_readWord_14 : decode cX11_readWord 14 = .ok (.if_icmp .ge 7, 3) := by decide +kernel
theorem dX11_readWord_17 : decode cX11_readWord 17 = .ok (.iconst 1, 1) := by decide +kernel
theorem dX11_readWord_18 : decode cX11_readWord 18 = .ok (.goto 4, 3) := by decide +kernel
theorem dX11_readWord_21 : decode cX11_readWord 21 = .ok (.iconst 0, 1) := by decide +kernel
theorem dX11_readWord_22 : decode cX11_readWord 22 = .ok (.iconst 4, 1) := by decide +kernel
theorem dX11_readWord_23 : decode cX11_readWord 23 = .ok (.invokevirtual 162, 3) := by decide +kernel
theorem dX11_readWord_26 : decode cX11_readWord 26 = .ok (.aload_n 0, 1) := by decide +kernel
theorem dX11_readWord_27 : decode cX11_readWord 27 = .ok (.invokevirtual 125, 3) := by decide +kernel
theorem dX11_readWord_30 : decode cX11_readWord 30 = .ok (.ifCond .eq 4, 3) := by decide +kernel
theorem dX11_readWord_33 : decode cX11_readWord 33 = .ok (.return_, 1) := by decide +kernel
theorem dX11_readWord_34 : decode cX11_readWord 34 = .ok (.aload_n 0, 1) := by decide +kernel
theorem dX11_readWord_35 : decode cX11_readWord 35 = .ok (.aload_n 0, 1) := by decide +kernel
theorem dX11_readWord_36 : decode cX11_readWord 36 = .ok (.invokevirtual 170, 3) := by decide +kernel
theorem dX11_readWord_39 : decode cX11_readWord 39 = .ok (.invokevirtual 173, 3) := by decide +kernel
theorem dX11_readWord_42 : decode cX11_readWord 42 = .ok (.istore_n 2, 1) := by decide +kernel
theorem dX11_readWord_43 : decode cX11_readWord 43 = .ok (.aload_n 0, 1) := by decide +kernel
theorem dX11_readWord_44 : decode cX11_readWord 44 = .ok (.iload_n 2, 1) := by decide +kernel
theorem dX11_readWord_45 : decode cX11_readWord 45 = .ok (.iconst (-1), 1) := by decide +kernel
theorem dX11_readWord_46 : decode cX11_readWord 46 = .ok (.if_icmp .eq 7, 3) := by decide +kernel
theorem dX11_readWord_49 : decode cX11_readWord 49 = .ok (.iconst 1, 1) := by decide +kernel
theorem dX11_readWord_50 : decode cX11_readWord 50 = .ok (.goto 4, 3) := by decide +kernel
theorem dX11_readWord_53 : decode cX11_readWord 53 = .ok (.iconst 0, 1) := by decide +kernel
theorem dX11_readWord_54 : decode cX11_readWord 54 = .ok (.iconst 3, 1) := by decide +kernel
theorem dX11_readWord_55 : decode cX11_readWord 55 = .ok (.invokevirtual 162, 3) := by decide +kernel
theorem dX11_readWord_58 : decode cX11_readWord 58 = .ok (.aload_n 0, 1) := by decide +kernel
theorem dX11_readWord_59 : decode cX11_readWord 59 = .ok (.invokevirtual 125, 3) := by decide +kernel
theorem dX11_readWord_62 : decode cX11_readWord 62 = .ok (.ifCond .eq 4, 3) := by decide +kernel
theorem dX11_readWord_65 : decode cX11_readWord 65 = .ok (.return_, 1) := by decide +kernel
theorem dX11_readWord_66 : decode cX11_readWord 66 = .ok (.aload_n 0, 1) := by decide +kernel
theorem dX11_readWord_67 : decode cX11_readWord 67 = .ok (.dup, 1) := by decide +kernel
theorem dX11_readWord_68 : decode cX11_readWord 68 = .ok (.getfield 119, 3) := by decide +kernel
theorem dX11_readWord_71 : decode cX11_readWord 71 = .ok (.aload_n 0, 1) := by decide +kernel
theorem dX11_readWord_72 : decode cX11_readWord 72 = .ok (.invokevirtual 142, 3) := by decide +kernel
theorem dX11_readWord_75 : decode cX11_readWord 75 = .ok (.iadd, 1) := by decide +kernel
theorem dX11_readWord_76 : decode cX11_readWord 76 = .ok (.putfield 119, 3) := by decide +kernel
theorem dX11_readWord_79 : decode cX11_readWord 79 = .ok (.aload_n 0, 1) := by decide +kernel
theorem dX11_readWord_80 : decode cX11_readWord 80 = .ok (.invokevirtual 177, 3) := by decide +kernel
theorem dX11_readWord_83 : decode cX11_readWord 83 = .ok (.istore_n 3, 1) := by decide +kernel
theorem dX11_readWord_84 : decode cX11_readWord 84 = .ok (.aload_n 0, 1) := by decide +kernel
theorem dX11_readWord_85 : decode cX11_readWord 85 = .ok (.iconst 0, 1) := by decide +kernel
theorem dX11_readWord_86 : decode cX11_readWord 86 = .ok (.ldc 180, 2) := by decide +kernel
theorem dX11_readWord_88 : decode cX11_readWord 88 = .ok (.invokevirtual 181, 3) := by decide +kernel
theorem dX11_readWord_91 : decode cX11_readWord 91 = .ok (.istore 4, 2) := by decide +kernel
theorem dX11_readWord_93 : decode cX11_readWord 93 = .ok (.aload_n 0, 1) := by decide +kernel
theorem dX11_readWord_94 : decode cX11_readWord 94 = .ok (.aload_n 0, 1) := by decide +kernel
theorem dX11_readWord_95 : decode cX11_readWord 95 = .ok (.iload_n 2, 1) := by decide +kernel
theorem dX11_readWord_96 : decode cX11_readWord 96 = .ok (.iload 4, 2) := by decide +kernel
theorem dX11_readWord_98 : decode cX11_readWord 98 = .ok (.iload 4, 2) := by decide +kernel
theorem dX11_readWord_100 : decode cX11_readWord 100 = .ok (.iconst 1, 1) := by decide +kernel
theorem dX11_readWord_101 : decode cX11_readWord 101 = .ok (.iadd, 1) := by decide +kernel
theorem dX11_readWord_102 : decode cX11_readWord 102 = .ok (.invokevirtual 184, 3) := by decide +kernel
theorem dX11_readWord_105 : decode cX11_readWord 105 = .ok (.ifCond .ne 7, 3) := by decide +kernel
theorem dX11_readWord_108 : decode cX11_readWord 108 = .ok (.iconst 1, 1) := by decide +kernel
theorem dX11_readWord_109 : decode cX11_readWord 109 = .ok (.goto 4, 3) := by decide +kernel
theorem dX11_readWord_112 : decode cX11_readWord 112 = .ok (.iconst 0, 1) := by decide +kernel
theorem dX11_readWord_113 : decode cX11_readWord 113 = .ok (.iconst 2, 1) := by decide +kernel
theorem dX11_readWord_114 : decode cX11_readWord 114 = .ok (.invokevirtual 162, 3) := by decide +kernel
theorem dX11_readWord_117 : decode cX11_readWord 117 = .ok (.aload_n 0, 1) := by decide +kernel
theorem dX11_readWord_118 : decode cX11_readWord 118 = .ok (.iload 4, 2) := by decide +kernel
theorem dX11_readWord_120 : decode cX11_readWord 120 = .ok (.iconst 1, 1) := by decide +kernel
theorem dX11_readWord_121 : decode cX11_readWord 121 = .ok (.iadd, 1) := by decide +kernel
theorem dX11_readWord_122 : decode cX11_readWord 122 = .ok (.ldc 187, 2) := by decide +kernel
theorem dX11_readWord_124 : decode cX11_readWord 124 = .ok (.invokevirtual 181, 3) := by decide +kernel
theorem dX11_readWord_127 : decode cX11_readWord 127 = .ok (.istore 5, 2) := by decide +kernel
theorem dX11_readWord_129 : decode cX11_readWord 129 = .ok (.aload_n 0, 1) := by decide +kernel
theorem dX11_readWord_130 : decode cX11_readWord 130 = .ok (.aload_n 0, 1) := by decide +kernel
theorem dX11_readWord_131 : decode cX11_readWord 131 = .ok (.iload_n 2, 1) := by decide +kernel
theorem dX11_readWord_132 : decode cX11_readWord 132 = .ok (.iload 4, 2) := by decide +kernel
theorem dX11_readWord_134 : decode cX11_readWord 134 = .ok (.iload 5, 2) := by decide +kernel
theorem dX11_readWord_136 : decode cX11_readWord 136 = .ok (.invokevirtual 184, 3) := by decide +kernel
theorem dX11_readWord_139 : decode cX11_readWord 139 = .ok (.ifCond .ne 7, 3) := by decide +kernel
theorem dX11_readWord_142 : decode cX11_readWord 142 = .ok (.iconst 1, 1) := by decide +kernel
theorem dX11_readWord_143 : decode cX11_readWord 143 = .ok (.goto 4, 3) := by decide +kernel
theorem dX11_readWord_146 : decode cX11_readWord 146 = .ok (.iconst 0, 1) := by decide +kernel
theorem dX11_readWord_147 : decode cX11_readWord 147 = .ok (.iconst 2, 1) := by decide +kernel
theorem dX11_readWord_148 : decode cX11_readWord 148 = .ok (.invokevirtual 162, 3) := by decide +kernel
theorem dX11_readWord_151 : decode cX11_readWord 151 = .ok (.aload_n 0, 1) := by decide +kernel
theorem dX11_readWord_152 : decode cX11_readWord 152 = .ok (.invokevirtual 125, 3) := by decide +kernel
theorem dX11_readWord_155 : decode cX11_readWord 155 = .ok (.ifCond .eq 4, 3) := by decide +kernel
theorem dX11_readWord_158 : decode cX11_readWord 158 = .ok (.return_, 1) := by decide +kernel
theorem dX11_readWord_159 : decode cX11_readWord 159 = .ok (.aload_n 0, 1) := by decide +kernel
theorem dX11_readWord_160 : decode cX11_readWord 160 = .ok (.iload_n 2, 1) := by decide +kernel
theorem dX11_readWord_161 : decode cX11_readWord 161 = .ok (.iload_n 3, 1) := by decide +kernel
theorem dX11_readWord_162 : decode cX11_readWord 162 = .ok (.iload 4, 2) := by decide +kernel
theorem dX11_readWord_164 : decode cX11_readWord 164 = .ok (.iload 5, 2) := by decide +kernel
theorem dX11_readWord_166 : decode cX11_readWord 166 = .ok (.invokevirtual 188, 3) := by decide +kernel
theorem dX11_readWord_169 : decode cX11_readWord 169 = .ok (.return_, 1) := by decide +kernel
theorem ci_X11_readWord : Cond.instanceMethod yX11_readWord ∈ TW := TW_of 1620 (by decide +kernel) (by decide +kernel)
theorem cs_X11_readWord : Cond.selects yX11_readWord.cls yX11_readWord yX11_readWord ∈ TW := TW_of 42 (by decide +kernel) (by decide +kernel)
abbrev cX11_readBreath : ByteArray := prog_13_method_41_code
def yX11_readBreath : MethodName := ⟨RX11, "readBreath", "(I)V"⟩
theorem dX11_readBreath_0 : decode cX11_readBreath 0 = .ok (.aload_n 0, 1) := by decide +kernel
theorem dX11_readBreath_1 : decode cX11_readBreath 1 = .ok (.iload_n 1, 1) := by decide +kernel
theorem dX11_readBreath_2 : decode cX11_readBreath 2 = .ok (.putfield 133, 3) := by decide +kernel
theorem dX11_readBreath_5 : decode cX11_readBreath 5 = .ok (.aload_n 0, 1) := by decide +kernel
theorem dX11_readBreath_6 : decode cX11_readBreath 6 = .ok (.aload_n 0, 1) := by decide +kernel
theorem dX11_readBreath_7 : decode cX11_readBreath 7 = .ok (.getfield 17, 3) := by decide +kernel
theorem dX11_readBreath_10 : decode cX11_readBreath 10 = .ok (.iconst 4, 1) := by decide +kernel
theorem dX11_readBreath_11 : decode cX11_readBreath 11 = .ok (.iaload, 1) := by decide +kernel
theorem dX11_readBreath_12 : decode cX11_readBreath 12 = .ok (.bipush 12, 2) := by decide +kernel
theorem dX11_readBreath_14 : decode cX11_readBreath 14 = .ok (.if_icmp .ge 7, 3) := by decide +kernel
theorem dX11_readBreath_17 : decode cX11_readBreath 17 = .ok (.iconst 1, 1) := by decide +kernel
theorem dX11_readBreath_18 : decode cX11_readBreath 18 = .ok (.goto 4, 3) := by decide +kernel
theorem dX11_readBreath_21 : decode cX11_readBreath 21 = .ok (.iconst 0, 1) := by decide +kernel
theorem dX11_readBreath_22 : decode cX11_readBreath 22 = .ok (.iconst 4, 1) := by decide +kernel
theorem dX11_readBreath_23 : decode cX11_readBreath 23 = .ok (.invokevirtual 162, 3) := by decide +kernel
theorem dX11_readBreath_26 : decode cX11_readBreath 26 = .ok (.aload_n 0, 1) := by decide +kernel
theorem dX11_readBreath_27 : decode cX11_readBreath 27 = .ok (.iconst 0, 1) := by decide +kernel
theorem dX11_readBreath_28 : decode cX11_readBreath 28 = .ok (.ldc 180, 2) := by decide +kernel
theorem dX11_readBreath_30 : decode cX11_readBreath 30 = .ok (.invokevirtual 181, 3) := by decide +kernel
theorem dX11_readBreath_33 : decode cX11_readBreath 33 = .ok (.istore_n 2, 1) := by decide +kernel
theorem dX11_readBreath_34 : decode cX11_readBreath 34 = .ok (.aload_n 0, 1) := by decide +kernel
theorem dX11_readBreath_35 : decode cX11_readBreath 35 = .ok (.iload_n 2, 1) := by decide +kernel
theorem dX11_readBreath_36 : decode cX11_readBreath 36 = .ok (.iconst 1, 1) := by decide +kernel
theorem dX11_readBreath_37 : decode cX11_readBreath 37 = .ok (.iadd, 1) := by decide +kernel
theorem dX11_readBreath_38 : decode cX11_readBreath 38 = .ok (.ldc 187, 2) := by decide +kernel
theorem dX11_readBreath_40 : decode cX11_readBreath 40 = .ok (.invokevirtual 181, 3) := by decide +kernel
theorem dX11_readBreath_43 : decode cX11_readBreath 43 = .ok (.istore_n 3, 1) := by decide +kernel
theorem dX11_readBreath_44 : decode cX11_readBreath 44 = .ok (.aload_n 0, 1) := by decide +kernel
theorem dX11_readBreath_45 : decode cX11_readBreath 45 = .ok (.invokevirtual 125, 3) := by decide +kernel
theorem dX11_readBreath_48 : decode cX11_readBreath 48 = .ok (.ifCond .eq 4, 3) := by decide +kernel
theorem dX11_readBreath_51 : decode cX11_readBreath 51 = .ok (.return_, 1) := by decide +kernel
theorem dX11_readBreath_52 : decode cX11_readBreath 52 = .ok (.aload_n 0, 1) := by decide +kernel
theorem dX11_readBreath_53 : decode cX11_readBreath 53 = .ok (.getfield 17, 3) := by decide +kernel
theorem dX11_readBreath_56 : decode cX11_readBreath 56 = .ok (.sipush 169, 3) := by decide +kernel
theorem dX11_readBreath_59 : decode cX11_readBreath 59 = .ok (.iconst 2, 1) := by decide +kernel
theorem dX11_readBreath_60 : decode cX11_readBreath 60 = .ok (.aload_n 0, 1) := by decide +kernel
theorem dX11_readBreath_61 : decode cX11_readBreath 61 = .ok (.getfield 17, 3) := by decide +kernel
theorem dX11_readBreath_64 : decode cX11_readBreath 64 = .ok (.iconst 4, 1) := by decide +kernel
theorem dX11_readBreath_65 : decode cX11_readBreath 65 = .ok (.iaload, 1) := by decide +kernel
theorem dX11_readBreath_66 : decode cX11_readBreath 66 = .ok (.imul, 1) := by decide +kernel
theorem dX11_readBreath_67 : decode cX11_readBreath 67 = .ok (.iadd, 1) := by decide +kernel
theorem dX11_readBreath_68 : decode cX11_readBreath 68 = .ok (.iload_n 2, 1) := by decide +kernel
theorem dX11_readBreath_69 : decode cX11_readBreath 69 = .ok (.iastore, 1) := by decide +kernel
theorem dX11_readBreath_70 : decode cX11_readBreath 70 = .ok (.aload_n 0, 1) := by decide +kernel
theorem dX11_readBreath_71 : decode cX11_readBreath 71 = .ok (.getfield 17, 3) := by decide +kernel
theorem dX11_readBreath_74 : decode cX11_readBreath 74 = .ok (.sipush 169, 3) := by decide +kernel
theorem dX11_readBreath_77 : decode cX11_readBreath 77 = .ok (.iconst 2, 1) := by decide +kernel
theorem dX11_readBreath_78 : decode cX11_readBreath 78 = .ok (.aload_n 0, 1) := by decide +kernel
theorem dX11_readBreath_79 : decode cX11_readBreath 79 = .ok (.getfield 17, 3) := by decide +kernel
theorem dX11_readBreath_82 : decode cX11_readBreath 82 = .ok (.iconst 4, 1) := by decide +kernel
theorem dX11_readBreath_83 : decode cX11_readBreath 83 = .ok (.iaload, 1) := by decide +kernel
theorem dX11_readBreath_84 : decode cX11_readBreath 84 = .ok (.imul, 1) := by decide +kernel
theorem dX11_readBreath_85 : decode cX11_readBreath 85 = .ok (.iadd, 1) := by decide +kernel
theorem dX11_readBreath_86 : decode cX11_readBreath 86 = .ok (.iconst 1, 1) := by decide +kernel
theorem dX11_readBreath_87 : decode cX11_readBreath 87 = .ok (.iadd, 1) := by decide +kernel
theorem dX11_readBreath_88 : decode cX11_readBreath 88 = .ok (.iload_n 3, 1) := by decide +kernel
theorem dX11_readBreath_89 : decode cX11_readBreath 89 = .ok (.iastore, 1) := by decide +kernel
theorem dX11_readBreath_90 : decode cX11_readBreath 90 = .ok (.aload_n 0, 1) := by decide +kernel
theorem dX11_readBreath_91 : decode cX11_readBreath 91 = .ok (.getfield 17, 3) := by decide +kernel
theorem dX11_readBreath_94 : decode cX11_readBreath 94 = .ok (.iconst 4, 1) := by decide +kernel
theorem dX11_readBreath_95 : decode cX11_readBreath 95 = .ok (.dup2, 1) := by decide +kernel
theorem dX11_readBreath_96 : decode cX11_readBreath 96 = .ok (.iaload, 1) := by decide +kernel
theorem dX11_readBreath_97 : decode cX11_readBreath 97 = .ok (.iconst 1, 1) := by decide +kernel
theorem dX11_readBreath_98 : decode cX11_readBreath 98 = .ok (.iadd, 1) := by decide +kernel
theorem dX11_readBreath_99 : decode cX11_readBreath 99 = .ok (.iastore, 1) := by decide +kernel
theorem dX11_readBreath_100 : decode cX11_readBreath 100 = .ok (.return_, 1) := by decide +kernel
theorem ci_X11_readBreath : Cond.instanceMethod yX11_readBreath ∈ TW := TW_of 1638 (by decide +kernel) (by decide +kernel)
theorem cs_X11_readBreath : Cond.selects yX11_readBreath.cls yX11_readBreath yX11_readBreath ∈ TW := TW_of 46 (by decide +kernel) (by decide +kernel)
abbrev cX11_readLine : ByteArray := prog_13_method_42_code
def yX11_readLine : MethodName := ⟨RX11, "readLine", "()V"⟩
theorem dX11_readLine_0 : decode cX11_readLine 0 = .ok (.aload_n 0, 1) := by decide +kernel
theorem dX11_readLine_1 : decode cX11_readLine 1 = .ok (.getfield 133, 3) := by decide +kernel
theorem dX11_readLine_4 : decode cX11_readLine 4 = .ok (.istore_n 1, 1) := by decide +kernel
theorem dX11_readLine_5 : decode cX11_readLine 5 = .ok (.aload_n 0, 1) := by decide +kernel
theorem dX11_readLine_6 : decode cX11_readLine 6 = .ok (.ldc 195, 2) := by decide +kernel
theorem dX11_readLine_8 : decode cX11_readLine 8 = .ok (.invokevirtual 196, 3) := by decide +kernel
theorem dX11_readLine_11 : decode cX11_readLine 11 = .ok (.ifCond .eq 19, 3) := by decide +kernel
theorem dX11_readLine_14 : decode cX11_readLine 14 = .ok (.aload_n 0, 1) := by decide +kernel
theorem dX11_readLine_15 : decode cX11_readLine 15 = .ok (.getfield 17, 3) := by decide +kernel
theorem dX11_readLine_18 : decode cX11_readLine 18 = .ok (.iconst 0, 1) := by decide +kernel
theorem dX11_readLine_19 : decode cX11_readLine 19 = .ok (.aload_n 0, 1) := by decide +kernel
theorem dX11_readLine_20 : decode cX11_readLine 20 = .ok (.iconst 1, 1) := by decide +kernel
theorem dX11_readLine_21 : decode cX11_readLine 21 = .ok (.ldc 187, 2) := by decide +kernel
theorem dX11_readLine_23 : decode cX11_readLine 23 = .ok (.invokevirtual 181, 3) := by decide +kernel
theorem dX11_readLine_26 : decode cX11_readLine 26 = .ok (.iastore, 1) := by decide +kernel
theorem dX11_readLine_27 : decode cX11_readLine 27 = .ok (.goto 86, 3) := by decide +kernel
theorem dX11_readLine_30 : decode cX11_readLine 30 = .ok (.aload_n 0, 1) := by decide +kernel
theorem dX11_readLine_31 : decode cX11_readLine 31 = .ok (.ldc 199, 2) := by decide +kernel
theorem dX11_readLine_33 : decode cX11_readLine 33 = .ok (.invokevirtual 196, 3) := by decide +kernel
theorem dX11_readLine_36 : decode cX11_readLine 36 = .ok (.ifCond .eq 11, 3) := by decide +kernel
theorem dX11_readLine_39 : decode cX11_readLine 39 = .ok (.aload_n 0, 1) := by decide +kernel
theorem dX11_readLine_40 : decode cX11_readLine 40 = .ok (.iload_n 1, 1) := by decide +kernel
theorem dX11_readLine_41 : decode cX11_readLine 41 = .ok (.invokevirtual 201, 3) := by decide +kernel
theorem dX11_readLine_44 : decode cX11_readLine 44 = .ok (.goto 69, 3) := by decide +kernel
theorem dX11_readLine_47 : decode cX11_readLine 47 = .ok (.aload_n 0, 1) := by decide +kernel
theorem dX11_readLine_48 : decode cX11_readLine 48 = .ok (.ldc 204, 2) := by decide +kernel
theorem dX11_readLine_50 : decode cX11_readLine 50 = .ok (.invokevirtual 196, 3) := by decide +kernel
theorem dX11_readLine_53 : decode cX11_readLine 53 = .ok (.ifCond .eq 11, 3) := by decide +kernel
theorem dX11_readLine_56 : decode cX11_readLine 56 = .ok (.aload_n 0, 1) := by decide +kernel
theorem dX11_readLine_57 : decode cX11_readLine 57 = .ok (.iload_n 1, 1) := by decide +kernel
theorem dX11_readLine_58 : decode cX11_readLine 58 = .ok (.invokevirtual 206, 3) := by decide +kernel
theorem dX11_readLine_61 : decode cX11_readLine 61 = .ok (.goto 52, 3) := by decide +kernel
theorem dX11_readLine_64 : decode cX11_readLine 64 = .ok (.aload_n 0, 1) := by decide +kernel
theorem dX11_readLine_65 : decode cX11_readLine 65 = .ok (.ldc 209, 2) := by decide +kernel
theorem dX11_readLine_67 : decode cX11_readLine 67 = .ok (.invokevirtual 196, 3) := by decide +kernel
theorem dX11_readLine_70 : decode cX11_readLine 70 = .ok (.ifCond .eq 11, 3) := by decide +kernel
theorem dX11_readLine_73 : decode cX11_readLine 73 = .ok (.aload_n 0, 1) := by decide +kernel
theorem dX11_readLine_74 : decode cX11_readLine 74 = .ok (.iload_n 1, 1) := by decide +kernel
theorem dX11_readLine_75 : decode cX11_readLine 75 = .ok (.invokevirtual 211, 3) := by decide +kernel
theorem dX11_readLine_78 : decode cX11_readLine 78 = .ok (.goto 35, 3) := by decide +kernel
theorem dX11_readLine_81 : decode cX11_readLine 81 = .ok (.aload_n 0, 1) := by decide +kernel
theorem dX11_readLine_82 : decode cX11_readLine 82 = .ok (.ldc 214, 2) := by decide +kernel
theorem dX11_readLine_84 : decode cX11_readLine 84 = .ok (.invokevirtual 196, 3) := by decide +kernel
theorem dX11_readLine_87 : decode cX11_readLine 87 = .ok (.ifCond .eq 20, 3) := by decide +kernel
theorem dX11_readLine_90 : decode cX11_readLine 90 = .ok (.aload_n 0, 1) := by decide +kernel
theorem dX11_readLine_91 : decode cX11_readLine 91 = .ok (.getfield 17, 3) := by decide +kernel
theorem dX11_readLine_94 : decode cX11_readLine 94 = .ok (.iconst 1, 1) := by decide +kernel
theorem dX11_readLine_95 : decode cX11_readLine 95 = .ok (.aload_n 0, 1) := by decide +kernel
theorem dX11_readLine_96 : decode cX11_readLine 96 = .ok (.iconst 0, 1) := by decide +kernel
theorem dX11_readLine_97 : decode cX11_readLine 97 = .ok (.sipush 999, 3) := by decide +kernel
theorem dX11_readLine_100 : decode cX11_readLine 100 = .ok (.invokevirtual 181, 3) := by decide +kernel
theorem dX11_readLine_103 : decode cX11_readLine 103 = .ok (.iastore, 1) := by decide +kernel
theorem dX11_readLine_104 : decode cX11_readLine 104 = .ok (.goto 9, 3) := by decide +kernel
theorem dX11_readLine_107 : decode cX11_readLine 107 = .ok (.aload_n 0, 1) := by decide +kernel
theorem dX11_readLine_108 : decode cX11_readLine 108 = .ok (.iconst 0, 1) := by decide +kernel
theorem dX11_readLine_109 : decode cX11_readLine 109 = .ok (.iconst 1, 1) := by decide +kernel
theorem dX11_readLine_110 : decode cX11_readLine 110 = .ok (.invokevirtual 162, 3) := by decide +kernel
theorem dX11_readLine_113 : decode cX11_readLine 113 = .ok (.return_, 1) := by decide +kernel
theorem ci_X11_readLine : Cond.instanceMethod yX11_readLine ∈ TW := TW_of 1571 (by decide +kernel) (by decide +kernel)
theorem cs_X11_readLine : Cond.selects yX11_readLine.cls yX11_readLine yX11_readLine ∈ TW := TW_of 32 (by decide +kernel) (by decide +kernel)
abbrev cX11_beginsText : ByteArray := prog_13_method_43_code
def yX11_beginsText : MethodName := ⟨RX11, "beginsText", "()V"⟩
theorem dX11_beginsText_0 : decode cX11_beginsText 0 = .ok (.aload_n 0, 1) := by decide +kernel
theorem dX11_beginsText_1 : decode cX11_beginsText 1 = .ok (.aload_n 0, 1) := by decide +kernel
theorem dX11_beginsText_2 : decode cX11_beginsText 2 = .ok (.getfield 110, 3) := by decide +kernel
theorem dX11_beginsText_5 : decode cX11_beginsText 5 = .ok (.putfield 122, 3) := by decide +kernel
theorem dX11_beginsText_8 : decode cX11_beginsText 8 = .ok (.aload_n 0, 1) := by decide +kernel
theorem dX11_beginsText_9 : decode cX11_beginsText 9 = .ok (.iconst 0, 1) := by decide +kernel
theorem dX11_beginsText_10 : decode cX11_beginsText 10 = .ok (.putfield 110, 3) := by decide +kernel
theorem dX11_beginsText_13 : decode cX11_beginsText 13 = .ok (.aload_n 0, 1) := by decide +kernel
theorem dX11_beginsText_14 : decode cX11_beginsText 14 = .ok (.iconst 0, 1) := by decide +kernel
theorem dX11_beginsText_15 : decode cX11_beginsText 15 = .ok (.putfield 119, 3) := by decide +kernel
theorem dX11_beginsText_18 : decode cX11_beginsText 18 = .ok (.aload_n 0, 1) := by decide +kernel
theorem dX11_beginsText_19 : decode cX11_beginsText 19 = .ok (.iconst (-1), 1) := by decide +kernel
theorem dX11_beginsText_20 : decode cX11_beginsText 20 = .ok (.putfield 116, 3) := by decide +kernel
theorem dX11_beginsText_23 : decode cX11_beginsText 23 = .ok (.aload_n 0, 1) := by decide +kernel
theorem dX11_beginsText_24 : decode cX11_beginsText 24 = .ok (.iconst 0, 1) := by decide +kernel
theorem dX11_beginsText_25 : decode cX11_beginsText 25 = .ok (.putfield 136, 3) := by decide +kernel
theorem dX11_beginsText_28 : decode cX11_beginsText 28 = .ok (.aload_n 0, 1) := by decide +kernel
theorem dX11_beginsText_29 : decode cX11_beginsText 29 = .ok (.invokevirtual 139, 3) := by decide +kernel
theorem dX11_beginsText_32 : decode cX11_beginsText 32 = .ok (.return_, 1) := by decide +kernel
theorem ci_X11_beginsText : Cond.instanceMethod yX11_beginsText ∈ TW := TW_of 1555 (by decide +kernel) (by decide +kernel)
theorem cs_X11_beginsText : Cond.selects yX11_beginsText.cls yX11_beginsText yX11_beginsText ∈ TW := TW_of 28 (by decide +kernel) (by decide +kernel)
abbrev cX11_endsText : ByteArray := prog_13_method_44_code
def yX11_endsText : MethodName := ⟨RX11, "endsText", "()Z"⟩
theorem dX11_endsText_0 : decode cX11_endsText 0 = .ok (.aload_n 0, 1) := by decide +kernel
theorem dX11_endsText_1 : decode cX11_endsText 1 = .ok (.aload_n 0, 1) := by decide +kernel
theorem dX11_endsText_2 : decode cX11_endsText 2 = .ok (.getfield 116, 3) := by decide +kernel
theorem dX11_endsText_5 : decode cX11_endsText 5 = .ok (.putfield 54, 3) := by decide +kernel
theorem dX11_endsText_8 : decode cX11_endsText 8 = .ok (.aload_n 0, 1) := by decide +kernel
theorem dX11_endsText_9 : decode cX11_endsText 9 = .ok (.aload_n 0, 1) := by decide +kernel
theorem dX11_endsText_10 : decode cX11_endsText 10 = .ok (.getfield 136, 3) := by decide +kernel
theorem dX11_endsText_13 : decode cX11_endsText 13 = .ok (.putfield 113, 3) := by decide +kernel
theorem dX11_endsText_16 : decode cX11_endsText 16 = .ok (.aload_n 0, 1) := by decide +kernel
theorem dX11_endsText_17 : decode cX11_endsText 17 = .ok (.aload_n 0, 1) := by decide +kernel
theorem dX11_endsText_18 : decode cX11_endsText 18 = .ok (.invokevirtual 125, 3) := by decide +kernel
theorem dX11_endsText_21 : decode cX11_endsText 21 = .ok (.iconst 1, 1) := by decide +kernel
theorem dX11_endsText_22 : decode cX11_endsText 22 = .ok (.invokevirtual 216, 3) := by decide +kernel
theorem dX11_endsText_25 : decode cX11_endsText 25 = .ok (.ifCond .ne 7, 3) := by decide +kernel
theorem dX11_endsText_28 : decode cX11_endsText 28 = .ok (.iconst 1, 1) := by decide +kernel
theorem dX11_endsText_29 : decode cX11_endsText 29 = .ok (.goto 4, 3) := by decide +kernel
theorem dX11_endsText_32 : decode cX11_endsText 32 = .ok (.iconst 0, 1) := by decide +kernel
theorem dX11_endsText_33 : decode cX11_endsText 33 = .ok (.ireturn, 1) := by decide +kernel
theorem ci_X11_endsText : Cond.instanceMethod yX11_endsText ∈ TW := TW_of 1651 (by decide +kernel) (by decide +kernel)
theorem cs_X11_endsText : Cond.selects yX11_endsText.cls yX11_endsText yX11_endsText ∈ TW := TW_of 49 (by decide +kernel) (by decide +kernel)
abbrev cX11_load : ByteArray := prog_13_method_45_code
def yX11_load : MethodName := ⟨RX11, "load", "()I"⟩
theorem dX11_load_0 : decode cX11_load 0 = .ok (.aload_n 0, 1) := by decide +kernel
theorem dX11_load_1 : decode cX11_load 1 = .ok (.iconst 0, 1) := by decide +kernel
theorem dX11_load_2 : decode cX11_load 2 = .ok (.putfield 3, 3) := by decide +kernel
theorem dX11_load_5 : decode cX11_load 5 = .ok (.aload_n 0, 1) := by decide +kernel
theorem dX11_load_6 : decode cX11_load 6 = .ok (.invokevirtual 75, 3) := by decide +kernel
theorem dX11_load_9 : decode cX11_load 9 = .ok (.aload_n 0, 1) := by decide +kernel
theorem dX11_load_10 : decode cX11_load 10 = .ok (.invokevirtual 220, 3) := by decide +kernel
theorem dX11_load_13 : decode cX11_load 13 = .ok (.aload_n 0, 1) := by decide +kernel
theorem dX11_load_14 : decode cX11_load 14 = .ok (.invokevirtual 125, 3) := by decide +kernel
theorem dX11_load_17 : decode cX11_load 17 = .ok (.ifCond .ne 31, 3) := by decide +kernel
theorem dX11_load_20 : decode cX11_load 20 = .ok (.aload_n 0, 1) := by decide +kernel
theorem dX11_load_21 : decode cX11_load 21 = .ok (.getfield 119, 3) := by decide +kernel
theorem dX11_load_24 : decode cX11_load 24 = .ok (.aload_n 0, 1) := by decide +kernel
theorem dX11_load_25 : decode cX11_load 25 = .ok (.getfield 122, 3) := by decide +kernel
theorem dX11_load_28 : decode cX11_load 28 = .ok (.if_icmp .ge 20, 3) := by decide +kernel
theorem dX11_load_31 : decode cX11_load 31 = .ok (.aload_n 0, 1) := by decide +kernel
theorem dX11_load_32 : decode cX11_load 32 = .ok (.invokevirtual 223, 3) := by decide +kernel
theorem dX11_load_35 : decode cX11_load 35 = .ok (.aload_n 0, 1) := by decide +kernel
theorem dX11_load_36 : decode cX11_load 36 = .ok (.bipush 59, 2) := by decide +kernel
theorem dX11_load_38 : decode cX11_load 38 = .ok (.invokevirtual 226, 3) := by decide +kernel
theorem dX11_load_41 : decode cX11_load 41 = .ok (.aload_n 0, 1) := by decide +kernel
theorem dX11_load_42 : decode cX11_load 42 = .ok (.invokevirtual 139, 3) := by decide +kernel
theorem dX11_load_45 : decode cX11_load 45 = .ok (.goto (-32), 3) := by decide +kernel
theorem dX11_load_48 : decode cX11_load 48 = .ok (.iconst 0, 1) := by decide +kernel
theorem dX11_load_49 : decode cX11_load 49 = .ok (.istore_n 1, 1) := by decide +kernel
theorem dX11_load_50 : decode cX11_load 50 = .ok (.iload_n 1, 1) := by decide +kernel
theorem dX11_load_51 : decode cX11_load 51 = .ok (.aload_n 0, 1) := by decide +kernel
theorem dX11_load_52 : decode cX11_load 52 = .ok (.getfield 17, 3) := by decide +kernel
theorem dX11_load_55 : decode cX11_load 55 = .ok (.iconst 3, 1) := by decide +kernel
theorem dX11_load_56 : decode cX11_load 56 = .ok (.iaload, 1) := by decide +kernel
theorem dX11_load_57 : decode cX11_load 57 = .ok (.if_icmp .ge 41, 3) := by decide +kernel
theorem dX11_load_60 : decode cX11_load 60 = .ok (.aload_n 0, 1) := by decide +kernel
theorem dX11_load_61 : decode cX11_load 61 = .ok (.aload_n 0, 1) := by decide +kernel
theorem dX11_load_62 : decode cX11_load 62 = .ok (.getfield 17, 3) := by decide +kernel
theorem dX11_load_65 : decode cX11_load 65 = .ok (.bipush 9, 2) := by decide +kernel
theorem dX11_load_67 : decode cX11_load 67 = .ok (.iconst 4, 1) := by decide +kernel
theorem dX11_load_68 : decode cX11_load 68 = .ok (.iload_n 1, 1) := by decide +kernel
theorem dX11_load_69 : decode cX11_load 69 = .ok (.imul, 1) := by decide +kernel
theorem dX11_load_70 : decode cX11_load 70 = .ok (.iadd, 1) := by decide +kernel
theorem dX11_load_71 : decode cX11_load 71 = .ok (.iconst 3, 1) := by decide +kernel
theorem dX11_load_72 : decode cX11_load 72 = .ok (.iadd, 1) := by decide +kernel
theorem dX11_load_73 : decode cX11_load 73 = .ok (.iaload, 1) := by decide +kernel
theorem dX11_load_74 : decode cX11_load 74 = .ok (.aload_n 0, 1) := by decide +kernel
theorem dX11_load_75 : decode cX11_load 75 = .ok (.getfield 17, 3) := by decide +kernel
theorem dX11_load_78 : decode cX11_load 78 = .ok (.iconst 0, 1) := by decide +kernel
theorem dX11_load_79 : decode cX11_load 79 = .ok (.iaload, 1) := by decide +kernel
theorem dX11_load_80 : decode cX11_load 80 = .ok (.if_icmp .gt 7, 3) := by decide +kernel
theorem dX11_load_83 : decode cX11_load 83 = .ok (.iconst 1, 1) := by decide +kernel
theorem dX11_load_84 : decode cX11_load 84 = .ok (.goto 4, 3) := by decide +kernel
theorem dX11_load_87 : decode cX11_load 87 = .ok (.iconst 0, 1) := by decide +kernel
theorem dX11_load_88 : decode cX11_load 88 = .ok (.iconst 2, 1) := by decide +kernel
theorem dX11_load_89 : decode cX11_load 89 = .ok (.invokevirtual 162, 3) := by decide +kernel
theorem dX11_load_92 : decode cX11_load 92 = .ok (.iinc 1 1, 3) := by decide +kernel
theorem dX11_load_95 : decode cX11_load 95 = .ok (.goto (-45), 3) := by decide +kernel
theorem dX11_load_98 : decode cX11_load 98 = .ok (.aload_n 0, 1) := by decide +kernel
theorem dX11_load_99 : decode cX11_load 99 = .ok (.invokevirtual 229, 3) := by decide +kernel
theorem dX11_load_102 : decode cX11_load 102 = .ok (.ifCond .ne 5, 3) := by decide +kernel
theorem dX11_load_105 : decode cX11_load 105 = .ok (.iconst 0, 1) := by decide +kernel
theorem dX11_load_106 : decode cX11_load 106 = .ok (.ireturn, 1) := by decide +kernel
theorem dX11_load_107 : decode cX11_load 107 = .ok (.aload_n 0, 1) := by decide +kernel
theorem dX11_load_108 : decode cX11_load 108 = .ok (.invokevirtual 78, 3) := by decide +kernel
theorem dX11_load_111 : decode cX11_load 111 = .ok (.aload_n 0, 1) := by decide +kernel
theorem dX11_load_112 : decode cX11_load 112 = .ok (.invokevirtual 90, 3) := by decide +kernel
theorem dX11_load_115 : decode cX11_load 115 = .ok (.ireturn, 1) := by decide +kernel
theorem ci_X11_load : Cond.instanceMethod yX11_load ∈ TW := TW_of 1550 (by decide +kernel) (by decide +kernel)
theorem cs_X11_load : Cond.selects yX11_load.cls yX11_load yX11_load ∈ TW := TW_of 1551 (by decide +kernel) (by decide +kernel)
abbrev cX11_drafts : ByteArray := prog_13_method_46_code
def yX11_drafts : MethodName := ⟨RX11, "drafts", "(I)V"⟩
theorem dX11_drafts_0 : decode cX11_drafts 0 = .ok (.aload_n 0, 1) := by decide +kernel
theorem dX11_drafts_1 : decode cX11_drafts 1 = .ok (.getfield 60, 3) := by decide +kernel
theorem dX11_drafts_4 : decode cX11_drafts 4 = .ok (.aload_n 0, 1) := by decide +kernel
theorem dX11_drafts_5 : decode cX11_drafts 5 = .ok (.getfield 232, 3) := by decide +kernel
theorem dX11_drafts_8 : decode cX11_drafts 8 = .ok (.iload_n 1, 1) := by decide +kernel
theorem dX11_drafts_9 : decode cX11_drafts 9 = .ok (.iastore, 1) := by decide +kernel
theorem dX11_drafts_10 : decode cX11_drafts 10 = .ok (.aload_n 0, 1) := by decide +kernel
theorem dX11_drafts_11 : decode cX11_drafts 11 = .ok (.dup, 1) := by decide +kernel
theorem dX11_drafts_12 : decode cX11_drafts 12 = .ok (.getfield 232, 3) := by decide +kernel
theorem dX11_drafts_15 : decode cX11_drafts 15 = .ok (.iconst 1, 1) := by decide +kernel
theorem dX11_drafts_16 : decode cX11_drafts 16 = .ok (.iadd, 1) := by decide +kernel
theorem dX11_drafts_17 : decode cX11_drafts 17 = .ok (.putfield 232, 3) := by decide +kernel
theorem dX11_drafts_20 : decode cX11_drafts 20 = .ok (.return_, 1) := by decide +kernel
theorem ci_X11_drafts : Cond.instanceMethod yX11_drafts ∈ TW := TW_of 1677 (by decide +kernel) (by decide +kernel)
theorem cs_X11_drafts : Cond.selects yX11_drafts.cls yX11_drafts yX11_drafts ∈ TW := TW_of 53 (by decide +kernel) (by decide +kernel)
abbrev cX11_readPhrase : ByteArray := prog_13_method_47_code
def yX11_readPhrase : MethodName := ⟨RX11, "readPhrase", "()V"⟩
theorem dX11_readPhrase_0 : decode cX11_readPhrase 0 = .ok (.aload_n 0, 1) := by decide +kernel
theorem dX11_readPhrase_1 : decode cX11_readPhrase 1 = .ok (.bipush 40, 2) := by decide +kernel
theorem dX11_readPhrase_3 : decode cX11_readPhrase 3 = .ok (.invokevirtual 226, 3) := by decide +kernel
theorem dX11_readPhrase_6 : decode cX11_readPhrase 6 = .ok (.aload_n 0, 1) := by decide +kernel
theorem dX11_readPhrase_7 : decode cX11_readPhrase 7 = .ok (.getfield 232, 3) := by decide +kernel
theorem dX11_readPhrase_10 : decode cX11_readPhrase 10 = .ok (.istore_n 1, 1) := by decide +kernel
theorem dX11_readPhrase_11 : decode cX11_readPhrase 11 = .ok (.aload_n 0, 1) := by decide +kernel
theorem dX11_readPhrase_12 : decode cX11_readPhrase 12 = .ok (.iconst 0, 1) := by decide +kernel
theorem dX11_readPhrase_13 : decode cX11_readPhrase 13 = .ok (.invokevirtual 235, 3) := by decide +kernel
theorem dX11_readPhrase_16 : decode cX11_readPhrase 16 = .ok (.iconst 1, 1) := by decide +kernel
theorem dX11_readPhrase_17 : decode cX11_readPhrase 17 = .ok (.istore_n 2, 1) := by decide +kernel
theorem dX11_readPhrase_18 : decode cX11_readPhrase 18 = .ok (.iload_n 2, 1) := by decide +kernel
theorem dX11_readPhrase_19 : decode cX11_readPhrase 19 = .ok (.ifCond .eq 88, 3) := by decide +kernel
theorem dX11_readPhrase_22 : decode cX11_readPhrase 22 = .ok (.aload_n 0, 1) := by decide +kernel
theorem dX11_readPhrase_23 : decode cX11_readPhrase 23 = .ok (.invokevirtual 125, 3) := by decide +kernel
theorem dX11_readPhrase_26 : decode cX11_readPhrase 26 = .ok (.ifCond .ne 81, 3) := by decide +kernel
theorem dX11_readPhrase_29 : decode cX11_readPhrase 29 = .ok (.aload_n 0, 1) := by decide +kernel
theorem dX11_readPhrase_30 : decode cX11_readPhrase 30 = .ok (.invokevirtual 170, 3) := by decide +kernel
theorem dX11_readPhrase_33 : decode cX11_readPhrase 33 = .ok (.istore_n 3, 1) := by decide +kernel
theorem dX11_readPhrase_34 : decode cX11_readPhrase 34 = .ok (.aload_n 0, 1) := by decide +kernel
theorem dX11_readPhrase_35 : decode cX11_readPhrase 35 = .ok (.aload_n 0, 1) := by decide +kernel
theorem dX11_readPhrase_36 : decode cX11_readPhrase 36 = .ok (.getfield 60, 3) := by decide +kernel
theorem dX11_readPhrase_39 : decode cX11_readPhrase 39 = .ok (.iload_n 1, 1) := by decide +kernel
theorem dX11_readPhrase_40 : decode cX11_readPhrase 40 = .ok (.iaload, 1) := by decide +kernel
theorem dX11_readPhrase_41 : decode cX11_readPhrase 41 = .ok (.bipush 6, 2) := by decide +kernel
theorem dX11_readPhrase_43 : decode cX11_readPhrase 43 = .ok (.if_icmp .ge 7, 3) := by decide +kernel
theorem dX11_readPhrase_46 : decode cX11_readPhrase 46 = .ok (.iconst 1, 1) := by decide +kernel
theorem dX11_readPhrase_47 : decode cX11_readPhrase 47 = .ok (.goto 4, 3) := by decide +kernel
theorem dX11_readPhrase_50 : decode cX11_readPhrase 50 = .ok (.iconst 0, 1) := by decide +kernel
theorem dX11_readPhrase_51 : decode cX11_readPhrase 51 = .ok (.iconst 4, 1) := by decide +kernel
theorem dX11_readPhrase_52 : decode cX11_readPhrase 52 = .ok (.invokevirtual 162, 3) := by decide +kernel
theorem dX11_readPhrase_55 : decode cX11_readPhrase 55 = .ok (.aload_n 0, 1) := by decide +kernel
theorem dX11_readPhrase_56 : decode cX11_readPhrase 56 = .ok (.invokevirtual 125, 3) := by decide +kernel
theorem dX11_readPhrase_59 : decode cX11_readPhrase 59 = .ok (.ifCond .eq 4, 3) := by decide +kernel
theorem dX11_readPhrase_62 : decode cX11_readPhrase 62 = .ok (.return_, 1) := by decide +kernel
theorem dX11_readPhrase_63 : decode cX11_readPhrase 63 = .ok (.aload_n 0, 1) := by decide +kernel
theorem dX11_readPhrase_64 : decode cX11_readPhrase 64 = .ok (.dup, 1) := by decide +kernel
theorem dX11_readPhrase_65 : decode cX11_readPhrase 65 = .ok (.getfield 119, 3) := by decide +kernel
theorem dX11_readPhrase_68 : decode cX11_readPhrase 68 = .ok (.aload_n 0, 1) := by decide +kernel
theorem dX11_readPhrase_69 : decode cX11_readPhrase 69 = .ok (.invokevirtual 142, 3) := by decide +kernel
theorem dX11_readPhrase_72 : decode cX11_readPhrase 72 = .ok (.iadd, 1) := by decide +kernel
theorem dX11_readPhrase_73 : decode cX11_readPhrase 73 = .ok (.putfield 119, 3) := by decide +kernel
theorem dX11_readPhrase_76 : decode cX11_readPhrase 76 = .ok (.aload_n 0, 1) := by decide +kernel
theorem dX11_readPhrase_77 : decode cX11_readPhrase 77 = .ok (.iload_n 3, 1) := by decide +kernel
theorem dX11_readPhrase_78 : decode cX11_readPhrase 78 = .ok (.invokevirtual 235, 3) := by decide +kernel
theorem dX11_readPhrase_81 : decode cX11_readPhrase 81 = .ok (.aload_n 0, 1) := by decide +kernel
theorem dX11_readPhrase_82 : decode cX11_readPhrase 82 = .ok (.getfield 60, 3) := by decide +kernel
theorem dX11_readPhrase_85 : decode cX11_readPhrase 85 = .ok (.iload_n 1, 1) := by decide +kernel
theorem dX11_readPhrase_86 : decode cX11_readPhrase 86 = .ok (.dup2, 1) := by decide +kernel
theorem dX11_readPhrase_87 : decode cX11_readPhrase 87 = .ok (.iaload, 1) := by decide +kernel
theorem dX11_readPhrase_88 : decode cX11_readPhrase 88 = .ok (.iconst 1, 1) := by decide +kernel
theorem dX11_readPhrase_89 : decode cX11_readPhrase 89 = .ok (.iadd, 1) := by decide +kernel
theorem dX11_readPhrase_90 : decode cX11_readPhrase 90 = .ok (.iastore, 1) := by decide +kernel
theorem dX11_readPhrase_91 : decode cX11_readPhrase 91 = .ok (.aload_n 0, 1) := by decide +kernel
theorem dX11_readPhrase_92 : decode cX11_readPhrase 92 = .ok (.invokevirtual 142, 3) := by decide +kernel
theorem dX11_readPhrase_95 : decode cX11_readPhrase 95 = .ok (.ifCond .le 7, 3) := by decide +kernel
theorem dX11_readPhrase_98 : decode cX11_readPhrase 98 = .ok (.iconst 1, 1) := by decide +kernel
theorem dX11_readPhrase_99 : decode cX11_readPhrase 99 = .ok (.goto 4, 3) := by decide +kernel
theorem dX11_readPhrase_102 : decode cX11_readPhrase 102 = .ok (.iconst 0, 1) := by decide +kernel
theorem dX11_readPhrase_103 : decode cX11_readPhrase 103 = .ok (.istore_n 2, 1) := by decide +kernel
theorem dX11_readPhrase_104 : decode cX11_readPhrase 104 = .ok (.goto (-86), 3) := by decide +kernel
theorem dX11_readPhrase_107 : decode cX11_readPhrase 107 = .ok (.aload_n 0, 1) := by decide +kernel
theorem dX11_readPhrase_108 : decode cX11_readPhrase 108 = .ok (.bipush 41, 2) := by decide +kernel
theorem dX11_readPhrase_110 : decode cX11_readPhrase 110 = .ok (.invokevirtual 226, 3) := by decide +kernel
theorem dX11_readPhrase_113 : decode cX11_readPhrase 113 = .ok (.return_, 1) := by decide +kernel
theorem ci_X11_readPhrase : Cond.instanceMethod yX11_readPhrase ∈ TW := TW_of 1685 (by decide +kernel) (by decide +kernel)
theorem cs_X11_readPhrase : Cond.selects yX11_readPhrase.cls yX11_readPhrase yX11_readPhrase ∈ TW := TW_of 55 (by decide +kernel) (by decide +kernel)
abbrev cX11_commandHere : ByteArray := prog_13_method_48_code
def yX11_commandHere : MethodName := ⟨RX11, "commandHere", "()I"⟩
theorem dX11_commandHere_0 : decode cX11_commandHere 0 = .ok (.aload_n 0, 1) := by decide +kernel
theorem dX11_commandHere_1 : decode cX11_commandHere 1 = .ok (.ldc 238, 2) := by decide +kernel
theorem dX11_commandHere_3 : decode cX11_commandHere 3 = .ok (.invokevirtual 154, 3) := by decide +kernel
theorem dX11_commandHere_6 : decode cX11_commandHere 6 = .ok (.ifCond .eq 7, 3) := by decide +kernel
theorem dX11_commandHere_9 : decode cX11_commandHere 9 = .ok (.iconst 0, 1) := by decide +kernel
theorem dX11_commandHere_10 : decode cX11_commandHere 10 = .ok (.goto 69, 3) := by decide +kernel
theorem dX11_commandHere_13 : decode cX11_commandHere 13 = .ok (.aload_n 0, 1) := by decide +kernel
theorem dX11_commandHere_14 : decode cX11_commandHere 14 = .ok (.ldc 240, 2) := by decide +kernel
theorem dX11_commandHere_16 : decode cX11_commandHere 16 = .ok (.invokevirtual 154, 3) := by decide +kernel
theorem dX11_commandHere_19 : decode cX11_commandHere 19 = .ok (.ifCond .eq 7, 3) := by decide +kernel
theorem dX11_commandHere_22 : decode cX11_commandHere 22 = .ok (.iconst 1, 1) := by decide +kernel
theorem dX11_commandHere_23 : decode cX11_commandHere 23 = .ok (.goto 56, 3) := by decide +kernel
theorem dX11_commandHere_26 : decode cX11_commandHere 26 = .ok (.aload_n 0, 1) := by decide +kernel
theorem dX11_commandHere_27 : decode cX11_commandHere 27 = .ok (.ldc 242, 2) := by decide +kernel
theorem dX11_commandHere_29 : decode cX11_commandHere 29 = .ok (.invokevirtual 154, 3) := by decide +kernel
theorem dX11_commandHere_32 : decode cX11_commandHere 32 = .ok (.ifCond .eq 7, 3) := by decide +kernel
theorem dX11_commandHere_35 : decode cX11_commandHere 35 = .ok (.iconst 2, 1) := by decide +kernel
theorem dX11_commandHere_36 : decode cX11_commandHere 36 = .ok (.goto 43, 3) := by decide +kernel
theorem dX11_commandHere_39 : decode cX11_commandHere 39 = .ok (.aload_n 0, 1) := by decide +kernel
theorem dX11_commandHere_40 : decode cX11_commandHere 40 = .ok (.ldc 244, 2) := by decide +kernel
theorem dX11_commandHere_42 : decode cX11_commandHere 42 = .ok (.invokevirtual 154, 3) := by decide +kernel
theorem dX11_commandHere_45 : decode cX11_commandHere 45 = .ok (.ifCond .eq 7, 3) := by decide +kernel
theorem dX11_commandHere_48 : decode cX11_commandHere 48 = .ok (.iconst 3, 1) := by decide +kernel
theorem dX11_commandHere_49 : decode cX11_commandHere 49 = .ok (.goto 30, 3) := by decide +kernel
theorem dX11_commandHere_52 : decode cX11_commandHere 52 = .ok (.aload_n 0, 1) := by decide +kernel
theorem dX11_commandHere_53 : decode cX11_commandHere 53 = .ok (.ldc 246, 2) := by decide +kernel
theorem dX11_commandHere_55 : decode cX11_commandHere 55 = .ok (.invokevirtual 154, 3) := by decide +kernel
theorem dX11_commandHere_58 : decode cX11_commandHere 58 = .ok (.ifCond .eq 7, 3) := by decide +kernel
theorem dX11_commandHere_61 : decode cX11_commandHere 61 = .ok (.iconst 4, 1) := by decide +kernel
theorem dX11_commandHere_62 : decode cX11_commandHere 62 = .ok (.goto 17, 3) := by decide +kernel
theorem dX11_commandHere_65 : decode cX11_commandHere 65 = .ok (.aload_n 0, 1) := by decide +kernel
theorem dX11_commandHere_66 : decode cX11_commandHere 66 = .ok (.ldc 248, 2) := by decide +kernel
theorem dX11_commandHere_68 : decode cX11_commandHere 68 = .ok (.invokevirtual 154, 3) := by decide +kernel
theorem dX11_commandHere_71 : decode cX11_commandHere 71 = .ok (.ifCond .eq 7, 3) := by decide +kernel
theorem dX11_commandHere_74 : decode cX11_commandHere 74 = .ok (.iconst 5, 1) := by decide +kernel
theorem dX11_commandHere_75 : decode cX11_commandHere 75 = .ok (.goto 4, 3) := by decide +kernel
theorem dX11_commandHere_78 : decode cX11_commandHere 78 = .ok (.iconst (-1), 1) := by decide +kernel
theorem dX11_commandHere_79 : decode cX11_commandHere 79 = .ok (.ireturn, 1) := by decide +kernel
theorem ci_X11_commandHere : Cond.instanceMethod yX11_commandHere ∈ TW := TW_of 1667 (by decide +kernel) (by decide +kernel)
theorem cs_X11_commandHere : Cond.selects yX11_commandHere.cls yX11_commandHere yX11_commandHere ∈ TW := TW_of 52 (by decide +kernel) (by decide +kernel)
abbrev cX11_readBlock : ByteArray := prog_13_method_50_code
def yX11_readBlock : MethodName := ⟨RX11, "readBlock", "()V"⟩
theorem dX11_readBlock_0 : decode cX11_readBlock 0 = .ok (.aload_n 0, 1) := by decide +kernel
theorem dX11_readBlock_1 : decode cX11_readBlock 1 = .ok (.invokevirtual 139, 3) := by decide +kernel
theorem dX11_readBlock_4 : decode cX11_readBlock 4 = .ok (.aload_n 0, 1) := by decide +kernel
theorem dX11_readBlock_5 : decode cX11_readBlock 5 = .ok (.aload_n 0, 1) := by decide +kernel
theorem dX11_readBlock_6 : decode cX11_readBlock 6 = .ok (.bipush 123, 2) := by decide +kernel
theorem dX11_readBlock_8 : decode cX11_readBlock 8 = .ok (.bipush 123, 2) := by decide +kernel
theorem dX11_readBlock_10 : decode cX11_readBlock 10 = .ok (.invokevirtual 129, 3) := by decide +kernel
theorem dX11_readBlock_13 : decode cX11_readBlock 13 = .ok (.iconst 1, 1) := by decide +kernel
theorem dX11_readBlock_14 : decode cX11_readBlock 14 = .ok (.invokevirtual 162, 3) := by decide +kernel
theorem dX11_readBlock_17 : decode cX11_readBlock 17 = .ok (.aload_n 0, 1) := by decide +kernel
theorem dX11_readBlock_18 : decode cX11_readBlock 18 = .ok (.aload_n 0, 1) := by decide +kernel
theorem dX11_readBlock_19 : decode cX11_readBlock 19 = .ok (.getfield 266, 3) := by decide +kernel
theorem dX11_readBlock_22 : decode cX11_readBlock 22 = .ok (.iconst 5, 1) := by decide +kernel
theorem dX11_readBlock_23 : decode cX11_readBlock 23 = .ok (.if_icmp .ge 7, 3) := by decide +kernel
theorem dX11_readBlock_26 : decode cX11_readBlock 26 = .ok (.iconst 1, 1) := by decide +kernel
theorem dX11_readBlock_27 : decode cX11_readBlock 27 = .ok (.goto 4, 3) := by decide +kernel
theorem dX11_readBlock_30 : decode cX11_readBlock 30 = .ok (.iconst 0, 1) := by decide +kernel
theorem dX11_readBlock_31 : decode cX11_readBlock 31 = .ok (.iconst 4, 1) := by decide +kernel
theorem dX11_readBlock_32 : decode cX11_readBlock 32 = .ok (.invokevirtual 162, 3) := by decide +kernel
theorem dX11_readBlock_35 : decode cX11_readBlock 35 = .ok (.aload_n 0, 1) := by decide +kernel
theorem dX11_readBlock_36 : decode cX11_readBlock 36 = .ok (.invokevirtual 125, 3) := by decide +kernel
theorem dX11_readBlock_39 : decode cX11_readBlock 39 = .ok (.ifCond .eq 4, 3) := by decide +kernel
theorem dX11_readBlock_42 : decode cX11_readBlock 42 = .ok (.return_, 1) := by decide +kernel
theorem dX11_readBlock_43 : decode cX11_readBlock 43 = .ok (.aload_n 0, 1) := by decide +kernel
theorem dX11_readBlock_44 : decode cX11_readBlock 44 = .ok (.dup, 1) := by decide +kernel
theorem dX11_readBlock_45 : decode cX11_readBlock 45 = .ok (.getfield 119, 3) := by decide +kernel
theorem dX11_readBlock_48 : decode cX11_readBlock 48 = .ok (.iconst 1, 1) := by decide +kernel
theorem dX11_readBlock_49 : decode cX11_readBlock 49 = .ok (.iadd, 1) := by decide +kernel
theorem dX11_readBlock_50 : decode cX11_readBlock 50 = .ok (.putfield 119, 3) := by decide +kernel
theorem dX11_readBlock_53 : decode cX11_readBlock 53 = .ok (.aload_n 0, 1) := by decide +kernel
theorem dX11_readBlock_54 : decode cX11_readBlock 54 = .ok (.dup, 1) := by decide +kernel
theorem dX11_readBlock_55 : decode cX11_readBlock 55 = .ok (.getfield 266, 3) := by decide +kernel
theorem dX11_readBlock_58 : decode cX11_readBlock 58 = .ok (.iconst 1, 1) := by decide +kernel
theorem dX11_readBlock_59 : decode cX11_readBlock 59 = .ok (.iadd, 1) := by decide +kernel
theorem dX11_readBlock_60 : decode cX11_readBlock 60 = .ok (.putfield 266, 3) := by decide +kernel
theorem dX11_readBlock_63 : decode cX11_readBlock 63 = .ok (.aload_n 0, 1) := by decide +kernel
theorem dX11_readBlock_64 : decode cX11_readBlock 64 = .ok (.getfield 232, 3) := by decide +kernel
theorem dX11_readBlock_67 : decode cX11_readBlock 67 = .ok (.istore_n 1, 1) := by decide +kernel
theorem dX11_readBlock_68 : decode cX11_readBlock 68 = .ok (.aload_n 0, 1) := by decide +kernel
theorem dX11_readBlock_69 : decode cX11_readBlock 69 = .ok (.iconst 0, 1) := by decide +kernel
theorem dX11_readBlock_70 : decode cX11_readBlock 70 = .ok (.invokevirtual 235, 3) := by decide +kernel
theorem dX11_readBlock_73 : decode cX11_readBlock 73 = .ok (.aload_n 0, 1) := by decide +kernel
theorem dX11_readBlock_74 : decode cX11_readBlock 74 = .ok (.invokevirtual 139, 3) := by decide +kernel
theorem dX11_readBlock_77 : decode cX11_readBlock 77 = .ok (.aload_n 0, 1) := by decide +kernel
theorem dX11_readBlock_78 : decode cX11_readBlock 78 = .ok (.invokevirtual 125, 3) := by decide +kernel
theorem dX11_readBlock_81 : decode cX11_readBlock 81 = .ok (.ifCond .ne 25, 3) := by decide +kernel
theorem dX11_readBlock_84 : decode cX11_readBlock 84 = .ok (.aload_n 0, 1) := by decide +kernel
theorem dX11_readBlock_85 : decode cX11_readBlock 85 = .ok (.bipush 125, 2) := by decide +kernel
theorem dX11_readBlock_87 : decode cX11_readBlock 87 = .ok (.bipush 125, 2) := by decide +kernel
theorem dX11_readBlock_89 : decode cX11_readBlock 89 = .ok (.invokevirtual 129, 3) := by decide +kernel
theorem dX11_readBlock_92 : decode cX11_readBlock 92 = .ok (.ifCond .ne 14, 3) := by decide +kernel
theorem dX11_readBlock_95 : decode cX11_readBlock 95 = .ok (.aload_n 0, 1) := by decide +kernel
theorem dX11_readBlock_96 : decode cX11_readBlock 96 = .ok (.invokevirtual 269, 3) := by decide +kernel
theorem dX11_readBlock_99 : decode cX11_readBlock 99 = .ok (.aload_n 0, 1) := by decide +kernel
theorem dX11_readBlock_100 : decode cX11_readBlock 100 = .ok (.invokevirtual 139, 3) := by decide +kernel
theorem dX11_readBlock_103 : decode cX11_readBlock 103 = .ok (.goto (-26), 3) := by decide +kernel
theorem dX11_readBlock_106 : decode cX11_readBlock 106 = .ok (.aload_n 0, 1) := by decide +kernel
theorem dX11_readBlock_107 : decode cX11_readBlock 107 = .ok (.getfield 60, 3) := by decide +kernel
theorem dX11_readBlock_110 : decode cX11_readBlock 110 = .ok (.iload_n 1, 1) := by decide +kernel
theorem dX11_readBlock_111 : decode cX11_readBlock 111 = .ok (.aload_n 0, 1) := by decide +kernel
theorem dX11_readBlock_112 : decode cX11_readBlock 112 = .ok (.getfield 232, 3) := by decide +kernel
theorem dX11_readBlock_115 : decode cX11_readBlock 115 = .ok (.iload_n 1, 1) := by decide +kernel
theorem dX11_readBlock_116 : decode cX11_readBlock 116 = .ok (.isub, 1) := by decide +kernel
theorem dX11_readBlock_117 : decode cX11_readBlock 117 = .ok (.iconst 1, 1) := by decide +kernel
theorem dX11_readBlock_118 : decode cX11_readBlock 118 = .ok (.isub, 1) := by decide +kernel
theorem dX11_readBlock_119 : decode cX11_readBlock 119 = .ok (.iastore, 1) := by decide +kernel
theorem dX11_readBlock_120 : decode cX11_readBlock 120 = .ok (.aload_n 0, 1) := by decide +kernel
theorem dX11_readBlock_121 : decode cX11_readBlock 121 = .ok (.dup, 1) := by decide +kernel
theorem dX11_readBlock_122 : decode cX11_readBlock 122 = .ok (.getfield 266, 3) := by decide +kernel
theorem dX11_readBlock_125 : decode cX11_readBlock 125 = .ok (.iconst 1, 1) := by decide +kernel
theorem dX11_readBlock_126 : decode cX11_readBlock 126 = .ok (.isub, 1) := by decide +kernel
theorem dX11_readBlock_127 : decode cX11_readBlock 127 = .ok (.putfield 266, 3) := by decide +kernel
theorem dX11_readBlock_130 : decode cX11_readBlock 130 = .ok (.aload_n 0, 1) := by decide +kernel
theorem dX11_readBlock_131 : decode cX11_readBlock 131 = .ok (.bipush 125, 2) := by decide +kernel
theorem dX11_readBlock_133 : decode cX11_readBlock 133 = .ok (.invokevirtual 226, 3) := by decide +kernel
theorem dX11_readBlock_136 : decode cX11_readBlock 136 = .ok (.return_, 1) := by decide +kernel
theorem ci_X11_readBlock : Cond.instanceMethod yX11_readBlock ∈ TW := TW_of 1681 (by decide +kernel) (by decide +kernel)
theorem cs_X11_readBlock : Cond.selects yX11_readBlock.cls yX11_readBlock yX11_readBlock ∈ TW := TW_of 54 (by decide +kernel) (by decide +kernel)
abbrev cX11_readCommand : ByteArray := prog_13_method_49_code
def yX11_readCommand : MethodName := ⟨RX11, "readCommand", "()V"⟩
theorem dX11_readCommand_0 : decode cX11_readCommand 0 = .ok (.aload_n 0, 1) := by decide +kernel
theorem dX11_readCommand_1 : decode cX11_readCommand 1 = .ok (.invokevirtual 250, 3) := by decide +kernel
theorem dX11_readCommand_4 : decode cX11_readCommand 4 = .ok (.istore_n 1, 1) := by decide +kernel
theorem dX11_readCommand_5 : decode cX11_readCommand 5 = .ok (.aload_n 0, 1) := by decide +kernel
theorem dX11_readCommand_6 : decode cX11_readCommand 6 = .ok (.iload_n 1, 1) := by decide +kernel
theorem dX11_readCommand_7 : decode cX11_readCommand 7 = .ok (.iconst (-1), 1) := by decide +kernel
theorem dX11_readCommand_8 : decode cX11_readCommand 8 = .ok (.if_icmp .eq 7, 3) := by decide +kernel
theorem dX11_readCommand_11 : decode cX11_readCommand 11 = .ok (.iconst 1, 1) := by decide +kernel
theorem dX11_readCommand_12 : decode cX11_readCommand 12 = .ok (.goto 4, 3) := by decide +kernel
theorem dX11_readCommand_15 : decode cX11_readCommand 15 = .ok (.iconst 0, 1) := by decide +kernel
theorem dX11_readCommand_16 : decode cX11_readCommand 16 = .ok (.iconst 1, 1) := by decide +kernel
theorem dX11_readCommand_17 : decode cX11_readCommand 17 = .ok (.invokevirtual 162, 3) := by decide +kernel
theorem dX11_readCommand_20 : decode cX11_readCommand 20 = .ok (.aload_n 0, 1) := by decide +kernel
theorem dX11_readCommand_21 : decode cX11_readCommand 21 = .ok (.aload_n 0, 1) := by decide +kernel
theorem dX11_readCommand_22 : decode cX11_readCommand 22 = .ok (.getfield 253, 3) := by decide +kernel
theorem dX11_readCommand_25 : decode cX11_readCommand 25 = .ok (.bipush 30, 2) := by decide +kernel
theorem dX11_readCommand_27 : decode cX11_readCommand 27 = .ok (.if_icmp .ge 7, 3) := by decide +kernel
theorem dX11_readCommand_30 : decode cX11_readCommand 30 = .ok (.iconst 1, 1) := by decide +kernel
theorem dX11_readCommand_31 : decode cX11_readCommand 31 = .ok (.goto 4, 3) := by decide +kernel
theorem dX11_readCommand_34 : decode cX11_readCommand 34 = .ok (.iconst 0, 1) := by decide +kernel
theorem dX11_readCommand_35 : decode cX11_readCommand 35 = .ok (.iconst 4, 1) := by decide +kernel
theorem dX11_readCommand_36 : decode cX11_readCommand 36 = .ok (.invokevirtual 162, 3) := by decide +kernel
theorem dX11_readCommand_39 : decode cX11_readCommand 39 = .ok (.aload_n 0, 1) := by decide +kernel
theorem dX11_readCommand_40 : decode cX11_readCommand 40 = .ok (.invokevirtual 125, 3) := by decide +kernel
theorem dX11_readCommand_43 : decode cX11_readCommand 43 = .ok (.ifCond .eq 4, 3) := by decide +kernel
theorem dX11_readCommand_46 : decode cX11_readCommand 46 = .ok (.return_, 1) := by decide +kernel
theorem dX11_readCommand_47 : decode cX11_readCommand 47 = .ok (.aload_n 0, 1) := by decide +kernel
theorem dX11_readCommand_48 : decode cX11_readCommand 48 = .ok (.dup, 1) := by decide +kernel
theorem dX11_readCommand_49 : decode cX11_readCommand 49 = .ok (.getfield 119, 3) := by decide +kernel
theorem dX11_readCommand_52 : decode cX11_readCommand 52 = .ok (.aload_n 0, 1) := by decide +kernel
theorem dX11_readCommand_53 : decode cX11_readCommand 53 = .ok (.invokevirtual 142, 3) := by decide +kernel
theorem dX11_readCommand_56 : decode cX11_readCommand 56 = .ok (.iadd, 1) := by decide +kernel
theorem dX11_readCommand_57 : decode cX11_readCommand 57 = .ok (.putfield 119, 3) := by decide +kernel
theorem dX11_readCommand_60 : decode cX11_readCommand 60 = .ok (.aload_n 0, 1) := by decide +kernel
theorem dX11_readCommand_61 : decode cX11_readCommand 61 = .ok (.dup, 1) := by decide +kernel
theorem dX11_readCommand_62 : decode cX11_readCommand 62 = .ok (.getfield 253, 3) := by decide +kernel
theorem dX11_readCommand_65 : decode cX11_readCommand 65 = .ok (.iconst 1, 1) := by decide +kernel
theorem dX11_readCommand_66 : decode cX11_readCommand 66 = .ok (.iadd, 1) := by decide +kernel
theorem dX11_readCommand_67 : decode cX11_readCommand 67 = .ok (.putfield 253, 3) := by decide +kernel
theorem dX11_readCommand_70 : decode cX11_readCommand 70 = .ok (.aload_n 0, 1) := by decide +kernel
theorem dX11_readCommand_71 : decode cX11_readCommand 71 = .ok (.iload_n 1, 1) := by decide +kernel
theorem dX11_readCommand_72 : decode cX11_readCommand 72 = .ok (.invokevirtual 235, 3) := by decide +kernel
theorem dX11_readCommand_75 : decode cX11_readCommand 75 = .ok (.iload_n 1, 1) := by decide +kernel
theorem dX11_readCommand_76 : decode cX11_readCommand 76 = .ok (.iconst 5, 1) := by decide +kernel
theorem dX11_readCommand_77 : decode cX11_readCommand 77 = .ok (.if_icmp .ne 19, 3) := by decide +kernel
theorem dX11_readCommand_80 : decode cX11_readCommand 80 = .ok (.aload_n 0, 1) := by decide +kernel
theorem dX11_readCommand_81 : decode cX11_readCommand 81 = .ok (.aload_n 0, 1) := by decide +kernel
theorem dX11_readCommand_82 : decode cX11_readCommand 82 = .ok (.iconst 1, 1) := by decide +kernel
theorem dX11_readCommand_83 : decode cX11_readCommand 83 = .ok (.bipush 9, 2) := by decide +kernel
theorem dX11_readCommand_85 : decode cX11_readCommand 85 = .ok (.invokevirtual 181, 3) := by decide +kernel
theorem dX11_readCommand_88 : decode cX11_readCommand 88 = .ok (.invokevirtual 235, 3) := by decide +kernel
theorem dX11_readCommand_91 : decode cX11_readCommand 91 = .ok (.aload_n 0, 1) := by decide +kernel
theorem dX11_readCommand_92 : decode cX11_readCommand 92 = .ok (.invokevirtual 256, 3) := by decide +kernel
theorem dX11_readCommand_95 : decode cX11_readCommand 95 = .ok (.return_, 1) := by decide +kernel
theorem dX11_readCommand_96 : decode cX11_readCommand 96 = .ok (.aload_n 0, 1) := by decide +kernel
theorem dX11_readCommand_97 : decode cX11_readCommand 97 = .ok (.invokevirtual 259, 3) := by decide +kernel
theorem dX11_readCommand_100 : decode cX11_readCommand 100 = .ok (.iload_n 1, 1) := by decide +kernel
theorem dX11_readCommand_101 : decode cX11_readCommand 101 = .ok (.iconst 4, 1) := by decide +kernel
theorem dX11_readCommand_102 : decode cX11_readCommand 102 = .ok (.if_icmp .ne 30, 3) := by decide +kernel
theorem dX11_readCommand_105 : decode cX11_readCommand 105 = .ok (.aload_n 0, 1) := by decide +kernel
theorem dX11_readCommand_106 : decode cX11_readCommand 106 = .ok (.invokevirtual 256, 3) := by decide +kernel
theorem dX11_readCommand_109 : decode cX11_readCommand 109 = .ok (.aload_n 0, 1) := by decide +kernel
theorem dX11_readCommand_110 : decode cX11_readCommand 110 = .ok (.ldc_w 262, 3) := by decide +kernel
theorem dX11_readCommand_113 : decode cX11_readCommand 113 = .ok (.invokevirtual 196, 3) := by decide +kernel
theorem dX11_readCommand_116 : decode cX11_readCommand 116 = .ok (.ifCond .eq 10, 3) := by decide +kernel
theorem dX11_readCommand_119 : decode cX11_readCommand 119 = .ok (.aload_n 0, 1) := by decide +kernel
theorem dX11_readCommand_120 : decode cX11_readCommand 120 = .ok (.invokevirtual 256, 3) := by decide +kernel
theorem dX11_readCommand_123 : decode cX11_readCommand 123 = .ok (.goto 8, 3) := by decide +kernel
theorem dX11_readCommand_126 : decode cX11_readCommand 126 = .ok (.aload_n 0, 1) := by decide +kernel
theorem dX11_readCommand_127 : decode cX11_readCommand 127 = .ok (.iconst 0, 1) := by decide +kernel
theorem dX11_readCommand_128 : decode cX11_readCommand 128 = .ok (.invokevirtual 235, 3) := by decide +kernel
theorem dX11_readCommand_131 : decode cX11_readCommand 131 = .ok (.return_, 1) := by decide +kernel
theorem dX11_readCommand_132 : decode cX11_readCommand 132 = .ok (.iload_n 1, 1) := by decide +kernel
theorem dX11_readCommand_133 : decode cX11_readCommand 133 = .ok (.iconst 3, 1) := by decide +kernel
theorem dX11_readCommand_134 : decode cX11_readCommand 134 = .ok (.if_icmp .ne 21, 3) := by decide +kernel
theorem dX11_readCommand_137 : decode cX11_readCommand 137 = .ok (.aload_n 0, 1) := by decide +kernel
theorem dX11_readCommand_138 : decode cX11_readCommand 138 = .ok (.ldc_w 264, 3) := by decide +kernel
theorem dX11_readCommand_141 : decode cX11_readCommand 141 = .ok (.invokevirtual 196, 3) := by decide +kernel
theorem dX11_readCommand_144 : decode cX11_readCommand 144 = .ok (.istore_n 2, 1) := by decide +kernel
theorem dX11_readCommand_145 : decode cX11_readCommand 145 = .ok (.aload_n 0, 1) := by decide +kernel
theorem dX11_readCommand_146 : decode cX11_readCommand 146 = .ok (.iload_n 2, 1) := by decide +kernel
theorem dX11_readCommand_147 : decode cX11_readCommand 147 = .ok (.iconst 1, 1) := by decide +kernel
theorem dX11_readCommand_148 : decode cX11_readCommand 148 = .ok (.invokevirtual 162, 3) := by decide +kernel
theorem dX11_readCommand_151 : decode cX11_readCommand 151 = .ok (.aload_n 0, 1) := by decide +kernel
theorem dX11_readCommand_152 : decode cX11_readCommand 152 = .ok (.invokevirtual 259, 3) := by decide +kernel
theorem dX11_readCommand_155 : decode cX11_readCommand 155 = .ok (.aload_n 0, 1) := by decide +kernel
theorem dX11_readCommand_156 : decode cX11_readCommand 156 = .ok (.bipush 59, 2) := by decide +kernel
theorem dX11_readCommand_158 : decode cX11_readCommand 158 = .ok (.invokevirtual 226, 3) := by decide +kernel
theorem dX11_readCommand_161 : decode cX11_readCommand 161 = .ok (.return_, 1) := by decide +kernel
theorem ci_X11_readCommand : Cond.instanceMethod yX11_readCommand ∈ TW := TW_of 1663 (by decide +kernel) (by decide +kernel)
theorem cs_X11_readCommand : Cond.selects yX11_readCommand.cls yX11_readCommand yX11_readCommand ∈ TW := TW_of 51 (by decide +kernel) (by decide +kernel)
abbrev cX11_loadScript : ByteArray := prog_13_method_51_code
def yX11_loadScript : MethodName := ⟨RX11, "loadScript", "()I"⟩
theorem dX11_loadScript_0 : decode cX11_loadScript 0 = .ok (.aload_n 0, 1) := by decide +kernel
theorem dX11_loadScript_1 : decode cX11_loadScript 1 = .ok (.iconst 0, 1) := by decide +kernel
theorem dX11_loadScript_2 : decode cX11_loadScript 2 = .ok (.putfield 3, 3) := by decide +kernel
theorem dX11_loadScript_5 : decode cX11_loadScript 5 = .ok (.aload_n 0, 1) := by decide +kernel
theorem dX11_loadScript_6 : decode cX11_loadScript 6 = .ok (.invokevirtual 220, 3) := by decide +kernel
theorem dX11_loadScript_9 : decode cX11_loadScript 9 = .ok (.aload_n 0, 1) := by decide +kernel
theorem dX11_loadScript_10 : decode cX11_loadScript 10 = .ok (.iconst 0, 1) := by decide +kernel
theorem dX11_loadScript_11 : decode cX11_loadScript 11 = .ok (.putfield 232, 3) := by decide +kernel
theorem dX11_loadScript_14 : decode cX11_loadScript 14 = .ok (.aload_n 0, 1) := by decide +kernel
theorem dX11_loadScript_15 : decode cX11_loadScript 15 = .ok (.iconst 0, 1) := by decide +kernel
theorem dX11_loadScript_16 : decode cX11_loadScript 16 = .ok (.putfield 253, 3) := by decide +kernel
theorem dX11_loadScript_19 : decode cX11_loadScript 19 = .ok (.aload_n 0, 1) := by decide +kernel
theorem dX11_loadScript_20 : decode cX11_loadScript 20 = .ok (.iconst 0, 1) := by decide +kernel
theorem dX11_loadScript_21 : decode cX11_loadScript 21 = .ok (.putfield 266, 3) := by decide +kernel
theorem dX11_loadScript_24 : decode cX11_loadScript 24 = .ok (.aload_n 0, 1) := by decide +kernel
theorem dX11_loadScript_25 : decode cX11_loadScript 25 = .ok (.invokevirtual 125, 3) := by decide +kernel
theorem dX11_loadScript_28 : decode cX11_loadScript 28 = .ok (.ifCond .ne 25, 3) := by decide +kernel
theorem dX11_loadScript_31 : decode cX11_loadScript 31 = .ok (.aload_n 0, 1) := by decide +kernel
theorem dX11_loadScript_32 : decode cX11_loadScript 32 = .ok (.getfield 119, 3) := by decide +kernel
theorem dX11_loadScript_35 : decode cX11_loadScript 35 = .ok (.aload_n 0, 1) := by decide +kernel
theorem dX11_loadScript_36 : decode cX11_loadScript 36 = .ok (.getfield 122, 3) := by decide +kernel
theorem dX11_loadScript_39 : decode cX11_loadScript 39 = .ok (.if_icmp .ge 14, 3) := by decide +kernel
theorem dX11_loadScript_42 : decode cX11_loadScript 42 = .ok (.aload_n 0, 1) := by decide +kernel
theorem dX11_loadScript_43 : decode cX11_loadScript 43 = .ok (.invokevirtual 269, 3) := by decide +kernel
theorem dX11_loadScript_46 : decode cX11_loadScript 46 = .ok (.aload_n 0, 1) := by decide +kernel
theorem dX11_loadScript_47 : decode cX11_loadScript 47 = .ok (.invokevirtual 139, 3) := by decide +kernel
theorem dX11_loadScript_50 : decode cX11_loadScript 50 = .ok (.goto (-26), 3) := by decide +kernel
theorem dX11_loadScript_53 : decode cX11_loadScript 53 = .ok (.aload_n 0, 1) := by decide +kernel
theorem dX11_loadScript_54 : decode cX11_loadScript 54 = .ok (.invokevirtual 229, 3) := by decide +kernel
theorem dX11_loadScript_57 : decode cX11_loadScript 57 = .ok (.ifCond .ne 5, 3) := by decide +kernel
theorem dX11_loadScript_60 : decode cX11_loadScript 60 = .ok (.iconst 0, 1) := by decide +kernel
theorem dX11_loadScript_61 : decode cX11_loadScript 61 = .ok (.ireturn, 1) := by decide +kernel
theorem dX11_loadScript_62 : decode cX11_loadScript 62 = .ok (.aload_n 0, 1) := by decide +kernel
theorem dX11_loadScript_63 : decode cX11_loadScript 63 = .ok (.aload_n 0, 1) := by decide +kernel
theorem dX11_loadScript_64 : decode cX11_loadScript 64 = .ok (.getfield 232, 3) := by decide +kernel
theorem dX11_loadScript_67 : decode cX11_loadScript 67 = .ok (.putfield 272, 3) := by decide +kernel
theorem dX11_loadScript_70 : decode cX11_loadScript 70 = .ok (.iconst 0, 1) := by decide +kernel
theorem dX11_loadScript_71 : decode cX11_loadScript 71 = .ok (.istore_n 1, 1) := by decide +kernel
theorem dX11_loadScript_72 : decode cX11_loadScript 72 = .ok (.iload_n 1, 1) := by decide +kernel
theorem dX11_loadScript_73 : decode cX11_loadScript 73 = .ok (.aload_n 0, 1) := by decide +kernel
theorem dX11_loadScript_74 : decode cX11_loadScript 74 = .ok (.getfield 272, 3) := by decide +kernel
theorem dX11_loadScript_77 : decode cX11_loadScript 77 = .ok (.if_icmp .ge 21, 3) := by decide +kernel
theorem dX11_loadScript_80 : decode cX11_loadScript 80 = .ok (.aload_n 0, 1) := by decide +kernel
theorem dX11_loadScript_81 : decode cX11_loadScript 81 = .ok (.getfield 57, 3) := by decide +kernel
theorem dX11_loadScript_84 : decode cX11_loadScript 84 = .ok (.iload_n 1, 1) := by decide +kernel
theorem dX11_loadScript_85 : decode cX11_loadScript 85 = .ok (.aload_n 0, 1) := by decide +kernel
theorem dX11_loadScript_86 : decode cX11_loadScript 86 = .ok (.getfield 60, 3) := by decide +kernel
theorem dX11_loadScript_89 : decode cX11_loadScript 89 = .ok (.iload_n 1, 1) := by decide +kernel
theorem dX11_loadScript_90 : decode cX11_loadScript 90 = .ok (.iaload, 1) := by decide +kernel
theorem dX11_loadScript_91 : decode cX11_loadScript 91 = .ok (.iastore, 1) := by decide +kernel
theorem dX11_loadScript_92 : decode cX11_loadScript 92 = .ok (.iinc 1 1, 3) := by decide +kernel
theorem dX11_loadScript_95 : decode cX11_loadScript 95 = .ok (.goto (-23), 3) := by decide +kernel
theorem dX11_loadScript_98 : decode cX11_loadScript 98 = .ok (.aload_n 0, 1) := by decide +kernel
theorem dX11_loadScript_99 : decode cX11_loadScript 99 = .ok (.getfield 253, 3) := by decide +kernel
theorem dX11_loadScript_102 : decode cX11_loadScript 102 = .ok (.ireturn, 1) := by decide +kernel
theorem ci_X11_loadScript : Cond.instanceMethod yX11_loadScript ∈ TW := TW_of 1658 (by decide +kernel) (by decide +kernel)
theorem cs_X11_loadScript : Cond.selects yX11_loadScript.cls yX11_loadScript yX11_loadScript ∈ TW := TW_of 1659 (by decide +kernel) (by decide +kernel)
abbrev cX11_noSpeaker : ByteArray := prog_13_method_52_code
def yX11_noSpeaker : MethodName := ⟨RX11, "noSpeaker", "(I)Z"⟩
theorem dX11_noSpeaker_0 : decode cX11_noSpeaker 0 = .ok (.aload_n 0, 1) := by decide +kernel
theorem dX11_noSpeaker_1 : decode cX11_noSpeaker 1 = .ok (.iload_n 1, 1) := by decide +kernel
theorem dX11_noSpeaker_2 : decode cX11_noSpeaker 2 = .ok (.iconst 0, 1) := by decide +kernel
theorem dX11_noSpeaker_3 : decode cX11_noSpeaker 3 = .ok (.aload_n 0, 1) := by decide +kernel
theorem dX11_noSpeaker_4 : decode cX11_noSpeaker 4 = .ok (.getfield 13, 3) := by decide +kernel
theorem dX11_noSpeaker_7 : decode cX11_noSpeaker 7 = .ok (.iconst 2, 1) := by decide +kernel
theorem dX11_noSpeaker_8 : decode cX11_noSpeaker 8 = .ok (.iaload, 1) := by decide +kernel
theorem dX11_noSpeaker_9 : decode cX11_noSpeaker 9 = .ok (.iconst 1, 1) := by decide +kernel
theorem dX11_noSpeaker_10 : decode cX11_noSpeaker 10 = .ok (.isub, 1) := by decide +kernel
theorem dX11_noSpeaker_11 : decode cX11_noSpeaker 11 = .ok (.invokestatic 166, 3) := by decide +kernel
theorem dX11_noSpeaker_14 : decode cX11_noSpeaker 14 = .ok (.ifCond .ne 7, 3) := by decide +kernel
theorem dX11_noSpeaker_17 : decode cX11_noSpeaker 17 = .ok (.iconst 1, 1) := by decide +kernel
theorem dX11_noSpeaker_18 : decode cX11_noSpeaker 18 = .ok (.goto 4, 3) := by decide +kernel
theorem dX11_noSpeaker_21 : decode cX11_noSpeaker 21 = .ok (.iconst 0, 1) := by decide +kernel
theorem dX11_noSpeaker_22 : decode cX11_noSpeaker 22 = .ok (.iconst 1, 1) := by decide +kernel
theorem dX11_noSpeaker_23 : decode cX11_noSpeaker 23 = .ok (.invokevirtual 216, 3) := by decide +kernel
theorem dX11_noSpeaker_26 : decode cX11_noSpeaker 26 = .ok (.ireturn, 1) := by decide +kernel
theorem ci_X11_noSpeaker : Cond.instanceMethod yX11_noSpeaker ∈ TW := TW_of 1839 (by decide +kernel) (by decide +kernel)
theorem cs_X11_noSpeaker : Cond.selects yX11_noSpeaker.cls yX11_noSpeaker yX11_noSpeaker ∈ TW := TW_of 76 (by decide +kernel) (by decide +kernel)
abbrev cX11_noWord : ByteArray := prog_13_method_53_code
def yX11_noWord : MethodName := ⟨RX11, "noWord", "(I)Z"⟩
theorem dX11_noWord_0 : decode cX11_noWord 0 = .ok (.aload_n 0, 1) := by decide +kernel
theorem dX11_noWord_1 : decode cX11_noWord 1 = .ok (.iload_n 1, 1) := by decide +kernel
theorem dX11_noWord_2 : decode cX11_noWord 2 = .ok (.iconst 0, 1) := by decide +kernel
theorem dX11_noWord_3 : decode cX11_noWord 3 = .ok (.aload_n 0, 1) := by decide +kernel
theorem dX11_noWord_4 : decode cX11_noWord 4 = .ok (.invokevirtual 90, 3) := by decide +kernel
theorem dX11_noWord_7 : decode cX11_noWord 7 = .ok (.iconst 1, 1) := by decide +kernel
theorem dX11_noWord_8 : decode cX11_noWord 8 = .ok (.isub, 1) := by decide +kernel
theorem dX11_noWord_9 : decode cX11_noWord 9 = .ok (.invokestatic 166, 3) := by decide +kernel
theorem dX11_noWord_12 : decode cX11_noWord 12 = .ok (.ifCond .ne 7, 3) := by decide +kernel
theorem dX11_noWord_15 : decode cX11_noWord 15 = .ok (.iconst 1, 1) := by decide +kernel
theorem dX11_noWord_16 : decode cX11_noWord 16 = .ok (.goto 4, 3) := by decide +kernel
theorem dX11_noWord_19 : decode cX11_noWord 19 = .ok (.iconst 0, 1) := by decide +kernel
theorem dX11_noWord_20 : decode cX11_noWord 20 = .ok (.iconst 1, 1) := by decide +kernel
theorem dX11_noWord_21 : decode cX11_noWord 21 = .ok (.invokevirtual 216, 3) := by decide +kernel
theorem dX11_noWord_24 : decode cX11_noWord 24 = .ok (.ireturn, 1) := by decide +kernel
theorem ci_X11_noWord : Cond.instanceMethod yX11_noWord ∈ TW := TW_of 1699 (by decide +kernel) (by decide +kernel)
theorem cs_X11_noWord : Cond.selects yX11_noWord.cls yX11_noWord yX11_noWord ∈ TW := TW_of 56 (by decide +kernel) (by decide +kernel)
theorem cw_X11_170 : CWd RX11 170 yX11_seesName cX11_seesName 4 (some .int) 0 := ⟨TW_of 1605 (by decide +kernel) (by decide +kernel), TW_of 1608 (by decide +kernel) (by decide +kernel), TW_of 112 (by decide +kernel) (by decide +kernel), by decide +kernel⟩
theorem cw_X11_173 : CWd RX11 173 yX11_speakerNamed cX11_speakerNamed 3 (some .int) 1 := ⟨TW_of 1609 (by decide +kernel) (by decide +kernel), TW_of 1612 (by decide +kernel) (by decide +kernel), TW_of 112 (by decide +kernel) (by decide +kernel), by decide +kernel⟩
theorem cw_X11_177 : CWd RX11 177 yX11_takesName cX11_takesName 2 (some .int) 0 := ⟨TW_of 1613 (by decide +kernel) (by decide +kernel), TW_of 1616 (by decide +kernel) (by decide +kernel), TW_of 112 (by decide +kernel) (by decide +kernel), by decide +kernel⟩
theorem cw_X11_192 : CWd RX11 192 yX11_isBehind cX11_isBehind 5 (some .boolean) 3 := ⟨TW_of 1631 (by decide +kernel) (by decide +kernel), TW_of 1634 (by decide +kernel) (by decide +kernel), TW_of 112 (by decide +kernel) (by decide +kernel), by decide +kernel⟩
theorem mc_X11_180 : Cond.constant RX11 180 99998 ∈ TW := TW_of 1622 (by decide +kernel) (by decide +kernel)
theorem cw_X11_181 : CWd RX11 181 yX11_number cX11_number 4 (some .int) 2 := ⟨TW_of 1589 (by decide +kernel) (by decide +kernel), TW_of 1592 (by decide +kernel) (by decide +kernel), TW_of 112 (by decide +kernel) (by decide +kernel), by decide +kernel⟩
theorem cw_X11_184 : CWd RX11 184 yX11_speaks cX11_speaks 6 (some .boolean) 3 := ⟨TW_of 1623 (by decide +kernel) (by decide +kernel), TW_of 1626 (by decide +kernel) (by decide +kernel), TW_of 112 (by decide +kernel) (by decide +kernel), by decide +kernel⟩
theorem mc_X11_187 : Cond.constant RX11 187 99999 ∈ TW := TW_of 1588 (by decide +kernel) (by decide +kernel)
theorem cw_X11_188 : CWd RX11 188 yX11_putsWord cX11_putsWord 7 none 4 := ⟨TW_of 1627 (by decide +kernel) (by decide +kernel), TW_of 1630 (by decide +kernel) (by decide +kernel), TW_of 112 (by decide +kernel) (by decide +kernel), by decide +kernel⟩
theorem cw_X11_196 : CWd RX11 196 yX11_takes cX11_takes 3 (some .boolean) 1 := ⟨TW_of 1574 (by decide +kernel) (by decide +kernel), TW_of 1577 (by decide +kernel) (by decide +kernel), TW_of 112 (by decide +kernel) (by decide +kernel), by decide +kernel⟩
theorem cw_X11_201 : CWd RX11 201 yX11_readSpeaker cX11_readSpeaker 3 none 1 := ⟨TW_of 1601 (by decide +kernel) (by decide +kernel), TW_of 1604 (by decide +kernel) (by decide +kernel), TW_of 112 (by decide +kernel) (by decide +kernel), by decide +kernel⟩
theorem cw_X11_206 : CWd RX11 206 yX11_readWord cX11_readWord 6 none 1 := ⟨TW_of 1618 (by decide +kernel) (by decide +kernel), TW_of 1621 (by decide +kernel) (by decide +kernel), TW_of 112 (by decide +kernel) (by decide +kernel), by decide +kernel⟩
theorem cw_X11_211 : CWd RX11 211 yX11_readBreath cX11_readBreath 4 none 1 := ⟨TW_of 1636 (by decide +kernel) (by decide +kernel), TW_of 1639 (by decide +kernel) (by decide +kernel), TW_of 112 (by decide +kernel) (by decide +kernel), by decide +kernel⟩
theorem cw_X11_216 : CWd RX11 216 yX11_throwsIf cX11_throwsIf 3 (some .boolean) 2 := ⟨TW_of 1653 (by decide +kernel) (by decide +kernel), TW_of 1656 (by decide +kernel) (by decide +kernel), TW_of 112 (by decide +kernel) (by decide +kernel), by decide +kernel⟩
theorem cw_X11_75 : CWd RX11 75 yX11_begins cX11_begins 2 none 0 := ⟨TW_of 1369 (by decide +kernel) (by decide +kernel), TW_of 1372 (by decide +kernel) (by decide +kernel), TW_of 112 (by decide +kernel) (by decide +kernel), by decide +kernel⟩
theorem cw_X11_78 : CWd RX11 78 yX11_takesOver cX11_takesOver 2 none 0 := ⟨TW_of 1373 (by decide +kernel) (by decide +kernel), TW_of 1376 (by decide +kernel) (by decide +kernel), TW_of 112 (by decide +kernel) (by decide +kernel), by decide +kernel⟩
theorem cw_X11_220 : CWd RX11 220 yX11_beginsText cX11_beginsText 1 none 0 := ⟨TW_of 1553 (by decide +kernel) (by decide +kernel), TW_of 1556 (by decide +kernel) (by decide +kernel), TW_of 112 (by decide +kernel) (by decide +kernel), by decide +kernel⟩
theorem cw_X11_223 : CWd RX11 223 yX11_readLine cX11_readLine 2 none 0 := ⟨TW_of 1569 (by decide +kernel) (by decide +kernel), TW_of 1572 (by decide +kernel) (by decide +kernel), TW_of 112 (by decide +kernel) (by decide +kernel), by decide +kernel⟩
theorem cw_X11_226 : CWd RX11 226 yX11_needs cX11_needs 3 none 1 := ⟨TW_of 1641 (by decide +kernel) (by decide +kernel), TW_of 1644 (by decide +kernel) (by decide +kernel), TW_of 112 (by decide +kernel) (by decide +kernel), by decide +kernel⟩
theorem cw_X11_229 : CWd RX11 229 yX11_endsText cX11_endsText 1 (some .boolean) 0 := ⟨TW_of 1649 (by decide +kernel) (by decide +kernel), TW_of 1652 (by decide +kernel) (by decide +kernel), TW_of 112 (by decide +kernel) (by decide +kernel), by decide +kernel⟩
theorem cw_X11_235 : CWd RX11 235 yX11_drafts cX11_drafts 2 none 1 := ⟨TW_of 1675 (by decide +kernel) (by decide +kernel), TW_of 1678 (by decide +kernel) (by decide +kernel), TW_of 112 (by decide +kernel) (by decide +kernel), by decide +kernel⟩
theorem cw_X11_269 : CWd RX11 269 yX11_readCommand cX11_readCommand 3 none 0 := ⟨TW_of 1661 (by decide +kernel) (by decide +kernel), TW_of 1664 (by decide +kernel) (by decide +kernel), TW_of 112 (by decide +kernel) (by decide +kernel), by decide +kernel⟩
theorem cw_X11_250 : CWd RX11 250 yX11_commandHere cX11_commandHere 1 (some .int) 0 := ⟨TW_of 1665 (by decide +kernel) (by decide +kernel), TW_of 1668 (by decide +kernel) (by decide +kernel), TW_of 112 (by decide +kernel) (by decide +kernel), by decide +kernel⟩
theorem cw_X11_256 : CWd RX11 256 yX11_readBlock cX11_readBlock 2 none 0 := ⟨TW_of 1679 (by decide +kernel) (by decide +kernel), TW_of 1682 (by decide +kernel) (by decide +kernel), TW_of 112 (by decide +kernel) (by decide +kernel), by decide +kernel⟩
theorem cw_X11_259 : CWd RX11 259 yX11_readPhrase cX11_readPhrase 4 none 0 := ⟨TW_of 1683 (by decide +kernel) (by decide +kernel), TW_of 1686 (by decide +kernel) (by decide +kernel), TW_of 112 (by decide +kernel) (by decide +kernel), by decide +kernel⟩
set_option maxRecDepth 20000 in
set_option maxHeartbeats 1000000 in
theorem l_X11_seesName_21 {l : Launch} {Z : ZT} {h : Hp} {g : Hp} {x1 : Int32} {p : Program} {e : Env} {s : State} {m : MethodId} {args : Array Value} {below : List Frame} {meth : Method} {c : Code} (C : CX p s m args meth c cX11_seesName RX11 4 (some .int) Z) {out : Int32 × Hp} : ∀ (n : Nat) (x2 : Int32) (x3 : Int32) (ls : Array Slot) (H : Heap) (locs : List Loc), XW Z h g s.heap H locs → lv_has ls 4 [(0, .ref (Z.1 125)), (1, .int x1), (2, .int x2), (3, .int x3)] → Lp (F_X11_seesName_21 g x1) n (x2, x3) = some out → W p l e (rmD 3) s m args below meth c H locs 0 0 (MQ below (va_Qi (fun r (_ : Unit) => r = out.1) (fun _ => Wd Z h out.2) (FR Z)) args s 0 0 (FR Z)) (F0 m 21 ls []) := by
  intro n
  induction n with
  | zero => intro x2 x3 ls H locs hW hl hf; cases hf
  | succ n ih =>
    intro x2 x3 ls H locs hW hl hf
    rw [Lp_s] at hf
    refine lv_iload_n C.1 C.2.1 dX11_seesName_21 rfl (lv_at hl 3 rfl) ?_
    refine lv_iload_n C.1 C.2.1 dX11_seesName_22 rfl (lv_at hl 1 rfl) ?_
    refine x_cmpge (tgt := 61) C hf dX11_seesName_23 (by decide) (fun hf => ?_) (fun hf => ?_)
    · refine lv_iload_n C.1 C.2.1 dX11_seesName_61 rfl (lv_at hl 2 rfl) ?_
      obtain rfl := Option.some.inj hf
      exact x_iret C hW dX11_seesName_62 rfl
    · refine lv_aload_n C.1 C.2.1 dX11_seesName_26 rfl (lv_at hl 0 rfl) ?_
      obtain ⟨u1, hcu1, hf⟩ := bnd_t hf
      refine x_calli hW (x_runV C hW hl (wk9 (k_125)) rfl rfl (c_X11_hasFailed hcu1) (cw_X11_125) ci_X11_hasFailed cs_X11_hasFailed (rm_ok (by decide) (by decide)) ⟨Nat.le_refl _, Nat.le_refl _⟩ (As := []) rfl rfl (Nat.le_of_ble_eq_true rfl) dX11_seesName_27) (fun H locs hW => ?_)
      refine x_ifne (tgt := 61) C hf dX11_seesName_30 (by decide) (fun hf => ?_) (fun hf => ?_)
      · refine lv_iload_n C.1 C.2.1 dX11_seesName_61 rfl (lv_at hl 2 rfl) ?_
        obtain rfl := Option.some.inj hf
        exact x_iret C hW dX11_seesName_62 rfl
      · refine lv_bipush (v := 27) C.1 C.2.1 dX11_seesName_33 (by decide) ?_
        refine lv_iload_n C.1 C.2.1 dX11_seesName_35 rfl (lv_at hl 2 rfl) ?_
        refine lv_imul C.1 C.2.1 dX11_seesName_36 ?_
        refine lv_aload_n C.1 C.2.1 dX11_seesName_37 rfl (lv_at hl 0 rfl) ?_
        refine xg_X11_47 C hW (k_125) dX11_seesName_38 ?_
        refine lv_aload_n C.1 C.2.1 dX11_seesName_41 rfl (lv_at hl 0 rfl) ?_
        refine xg_X11_119 C hW (k_125) dX11_seesName_42 ?_
        refine lv_iload_n C.1 C.2.1 dX11_seesName_45 rfl (lv_at hl 3 rfl) ?_
        refine lv_iadd C.1 C.2.1 dX11_seesName_46 ?_
        refine x_baldM C hW a_137 hf dX11_seesName_47 (fun hf => ?_)
        refine lv_iadd C.1 C.2.1 dX11_seesName_48 ?_
        refine lv_bipush (v := 97) C.1 C.2.1 dX11_seesName_49 (by decide) ?_
        refine lv_isub C.1 C.2.1 dX11_seesName_51 ?_
        refine lv_iconst (v := 1) C.1 C.2.1 dX11_seesName_52 (by decide) ?_
        refine lv_iadd C.1 C.2.1 dX11_seesName_53 ?_
        refine x_istn C hf dX11_seesName_54 rfl hl (by decide) (fun v2 => [(2, .int v2), (0, .ref (Z.1 125)), (1, .int x1), (3, .int x3)]) (fun _ => rfl) (fun v2 ls hf hl => ?_)
        refine x_iinc (w := 1) C hf dX11_seesName_55 hl (k := 3) rfl (by decide) (by decide) (fun v3 => [(3, .int v3), (2, .int v2), (0, .ref (Z.1 125)), (1, .int x1)]) (fun _ => rfl) (fun v3 ls hf hl => ?_)
        refine lv_goto (tgt := 21) C.1 C.2.1 dX11_seesName_58 (by decide) ?_
        exact ih v2 v3 ls _ _ hW (lv_sub hl [2, 3, 1, 0] rfl) hf
set_option maxRecDepth 20000 in
set_option maxHeartbeats 1000000 in
theorem c_X11_seesName {l : Launch} {Z : ZT} {h : Hp} {g : Hp} {out : Int32 × Hp} (hf : f_X11_seesName g = some out) : Met l yX11_seesName (wY yX11_seesName cX11_seesName 4 (some .int)) (rmD 3) (va_Pc [.ref (Z.1 125)] (Wd Z h g)) (va_Qi (fun r (_ : Unit) => r = out.1) (fun _ => Wd Z h out.2) (FR Z)) 0 0 (FR Z) := by
  refine metX RX11 rfl (by decide +kernel) (Nat.le_of_ble_eq_true rfl) ?_
  intro p e s m args below meth c C hW ls hl
  have hl : lv_has ls 4 [(0, .ref (Z.1 125))] := hl
  unfold f_X11_seesName at hf
  refine lv_aload_n C.1 C.2.1 dX11_seesName_0 rfl (lv_at hl 0 rfl) ?_
  obtain ⟨u4, hcu4, hf⟩ := bnd_t hf
  refine x_calli hW (x_runV C hW hl (wk9 (k_125)) rfl rfl (c_X11_letters hcu4) (cw_X11_142) ci_X11_letters cs_X11_letters (rm_ok (by decide) (by decide)) ⟨Nat.le_refl _, Nat.le_refl _⟩ (As := []) rfl rfl (Nat.le_of_ble_eq_true rfl) dX11_seesName_1) (fun H locs hW => ?_)
  refine lv_istore_n (lv' := [(1, .int u4.1), (0, .ref (Z.1 125))]) C.1 C.2.1 dX11_seesName_4 rfl hl (by decide) rfl (fun ls hl => ?_)
  refine lv_aload_n C.1 C.2.1 dX11_seesName_5 rfl (lv_at hl 1 rfl) ?_
  refine lv_iload_n C.1 C.2.1 dX11_seesName_6 rfl (lv_at hl 0 rfl) ?_
  refine lv_iconst (v := 1) C.1 C.2.1 dX11_seesName_7 (by decide) ?_
  refine lv_bipush (v := 6) C.1 C.2.1 dX11_seesName_8 (by decide) ?_
  obtain ⟨u5, hcu5, hf⟩ := bnd_t hf
  refine x_calli hW (x_runS C hW hl (c_X11_in hcu5) (cw_X11_166) ct_X11_in (rm_ok (by decide) (by decide)) ⟨Nat.le_refl _, Nat.le_refl _⟩ (As := [.int u4.1, .int (1 : Int32), .int (6 : Int32)]) rfl rfl (Nat.le_of_ble_eq_true rfl) dX11_seesName_10) (fun H locs hW => ?_)
  refine lv_iconst (v := 1) C.1 C.2.1 dX11_seesName_13 (by decide) ?_
  obtain ⟨u6, hcu6, hf⟩ := bnd_t hf
  refine x_callv hW (x_runV C hW hl (wk9 (k_125)) rfl rfl (c_X11_must hcu6) (cw_X11_162) ci_X11_must cs_X11_must (rm_ok (by decide) (by decide)) ⟨Nat.le_refl _, Nat.le_refl _⟩ (As := [.int u5, .int (1 : Int32)]) rfl rfl (Nat.le_of_ble_eq_true rfl) dX11_seesName_14) (fun H locs hW => ?_)
  refine lv_iconst (v := 0) C.1 C.2.1 dX11_seesName_17 (by decide) ?_
  refine lv_istore_n (lv' := [(2, .int (0 : Int32)), (1, .int u4.1), (0, .ref (Z.1 125))]) C.1 C.2.1 dX11_seesName_18 rfl hl (by decide) rfl (fun ls hl => ?_)
  refine lv_iconst (v := 0) C.1 C.2.1 dX11_seesName_19 (by decide) ?_
  refine lv_istore_n (lv' := [(3, .int (0 : Int32)), (2, .int (0 : Int32)), (1, .int u4.1), (0, .ref (Z.1 125))]) C.1 C.2.1 dX11_seesName_20 rfl hl (by decide) rfl (fun ls hl => ?_)
  exact l_X11_seesName_21 C FU (0 : Int32) (0 : Int32) ls _ _ hW (lv_sub hl [3, 2, 1, 0] rfl) hf
set_option maxRecDepth 20000 in
set_option maxHeartbeats 1000000 in
theorem c_X11_takesName {l : Launch} {Z : ZT} {h : Hp} {g : Hp} {out : Int32 × Hp} (hf : f_X11_takesName g = some out) : Met l yX11_takesName (wY yX11_takesName cX11_takesName 2 (some .int)) (rmD 4) (va_Pc [.ref (Z.1 125)] (Wd Z h g)) (va_Qi (fun r (_ : Unit) => r = out.1) (fun _ => Wd Z h out.2) (FR Z)) 0 0 (FR Z) := by
  refine metX RX11 rfl (by decide +kernel) (Nat.le_of_ble_eq_true rfl) ?_
  intro p e s m args below meth c C hW ls hl
  have hl : lv_has ls 2 [(0, .ref (Z.1 125))] := hl
  unfold f_X11_takesName at hf
  refine lv_aload_n C.1 C.2.1 dX11_takesName_0 rfl (lv_at hl 0 rfl) ?_
  obtain ⟨u1, hcu1, hf⟩ := bnd_t hf
  refine x_calli hW (x_runV C hW hl (wk9 (k_125)) rfl rfl (c_X11_seesName hcu1) (cw_X11_170) ci_X11_seesName cs_X11_seesName (rm_ok (by decide) (by decide)) ⟨Nat.le_refl _, Nat.le_refl _⟩ (As := []) rfl rfl (Nat.le_of_ble_eq_true rfl) dX11_takesName_1) (fun H locs hW => ?_)
  refine lv_istore_n (lv' := [(1, .int u1.1), (0, .ref (Z.1 125))]) C.1 C.2.1 dX11_takesName_4 rfl hl (by decide) rfl (fun ls hl => ?_)
  refine lv_aload_n C.1 C.2.1 dX11_takesName_5 rfl (lv_at hl 1 rfl) ?_
  obtain ⟨u2, hcu2, hf⟩ := bnd_t hf
  refine x_calli hW (x_runV C hW hl (wk9 (k_125)) rfl rfl (c_X11_hasFailed hcu2) (cw_X11_125) ci_X11_hasFailed cs_X11_hasFailed (rm_ok (by decide) (by decide)) ⟨Nat.le_refl _, Nat.le_refl _⟩ (As := []) rfl rfl (Nat.le_of_ble_eq_true rfl) dX11_takesName_6) (fun H locs hW => ?_)
  refine x_ifne (tgt := 25) C hf dX11_takesName_9 (by decide) (fun hf => ?_) (fun hf => ?_)
  · refine lv_iload_n C.1 C.2.1 dX11_takesName_25 rfl (lv_at hl 0 rfl) ?_
    obtain rfl := Option.some.inj hf
    exact x_iret C hW dX11_takesName_26 rfl
  · refine lv_aload_n C.1 C.2.1 dX11_takesName_12 rfl (lv_at hl 1 rfl) ?_
    refine lv_dup C.1 C.2.1 dX11_takesName_13 rfl ?_
    refine xg_X11_119 C hW (k_125) dX11_takesName_14 ?_
    refine lv_aload_n C.1 C.2.1 dX11_takesName_17 rfl (lv_at hl 1 rfl) ?_
    obtain ⟨u3, hcu3, hf⟩ := bnd_t hf
    refine x_calli hW (x_runV C hW hl (wk9 (k_125)) rfl rfl (c_X11_letters hcu3) (cw_X11_142) ci_X11_letters cs_X11_letters (rm_ok (by decide) (by decide)) ⟨Nat.le_refl _, Nat.le_refl _⟩ (As := []) rfl rfl (Nat.le_of_ble_eq_true rfl) dX11_takesName_18) (fun H locs hW => ?_)
    refine lv_iadd C.1 C.2.1 dX11_takesName_21 ?_
    refine xp_X11_119 C hW (k_125) hf dX11_takesName_22 (fun g4 H locs hf hW => ?_)
    refine lv_iload_n C.1 C.2.1 dX11_takesName_25 rfl (lv_at hl 0 rfl) ?_
    obtain rfl := Option.some.inj hf
    exact x_iret C hW dX11_takesName_26 rfl
set_option maxRecDepth 20000 in
set_option maxHeartbeats 1000000 in
theorem l_X11_speakerNamed_2 {l : Launch} {Z : ZT} {h : Hp} {g : Hp} {p1 : Int32} {p : Program} {e : Env} {s : State} {m : MethodId} {args : Array Value} {below : List Frame} {meth : Method} {c : Code} (C : CX p s m args meth c cX11_speakerNamed RX11 3 (some .int) Z) {out : Int32} : ∀ (n : Nat) (x2 : Int32) (ls : Array Slot) (H : Heap) (locs : List Loc), XW Z h g s.heap H locs → lv_has ls 3 [(0, .ref (Z.1 125)), (1, .int p1), (2, .int x2)] → Lp (F_X11_speakerNamed_2 g p1) n x2 = some out → W p l e (rmD 0) s m args below meth c H locs 0 0 (MQ below (va_Qi (fun r (_ : Unit) => r = out) (fun _ => Wd Z h g) (FR Z)) args s 0 0 (FR Z)) (F0 m 2 ls []) := by
  intro n
  induction n with
  | zero => intro x2 ls H locs hW hl hf; cases hf
  | succ n ih =>
    intro x2 ls H locs hW hl hf
    rw [Lp_s] at hf
    refine lv_iload_n C.1 C.2.1 dX11_speakerNamed_2 rfl (lv_at hl 2 rfl) ?_
    refine lv_aload_n C.1 C.2.1 dX11_speakerNamed_3 rfl (lv_at hl 0 rfl) ?_
    refine xg_X11_17 C hW (k_125) dX11_speakerNamed_4 ?_
    refine lv_iconst (v := 2) C.1 C.2.1 dX11_speakerNamed_7 (by decide) ?_
    refine x_ialdM C hW a_127 hf dX11_speakerNamed_8 (fun hf => ?_)
    refine x_cmpge (tgt := 32) C hf dX11_speakerNamed_9 (by decide) (fun hf => ?_) (fun hf => ?_)
    · refine lv_iconst (v := -1) C.1 C.2.1 dX11_speakerNamed_32 (by decide) ?_
      exact x_iret C hW dX11_speakerNamed_33 (Option.some.inj hf)
    · refine lv_aload_n C.1 C.2.1 dX11_speakerNamed_12 rfl (lv_at hl 0 rfl) ?_
      refine xg_X11_17 C hW (k_125) dX11_speakerNamed_13 ?_
      refine lv_iconst (v := 5) C.1 C.2.1 dX11_speakerNamed_16 (by decide) ?_
      refine lv_iload_n C.1 C.2.1 dX11_speakerNamed_17 rfl (lv_at hl 2 rfl) ?_
      refine lv_iadd C.1 C.2.1 dX11_speakerNamed_18 ?_
      refine x_ialdM C hW a_127 hf dX11_speakerNamed_19 (fun hf => ?_)
      refine lv_iload_n C.1 C.2.1 dX11_speakerNamed_20 rfl (lv_at hl 1 rfl) ?_
      refine x_cmpne (tgt := 26) C hf dX11_speakerNamed_21 (by decide) (fun hf => ?_) (fun hf => ?_)
      · refine x_iinc (w := 1) C hf dX11_speakerNamed_26 hl (k := 2) rfl (by decide) (by decide) (fun v1 => [(2, .int v1), (0, .ref (Z.1 125)), (1, .int p1)]) (fun _ => rfl) (fun v1 ls hf hl => ?_)
        refine lv_goto (tgt := 2) C.1 C.2.1 dX11_speakerNamed_29 (by decide) ?_
        exact ih v1 ls _ _ hW (lv_sub hl [1, 2, 0] rfl) hf
      · refine lv_iload_n C.1 C.2.1 dX11_speakerNamed_24 rfl (lv_at hl 2 rfl) ?_
        exact x_iret C hW dX11_speakerNamed_25 (Option.some.inj hf)
set_option maxRecDepth 20000 in
set_option maxHeartbeats 1000000 in
theorem c_X11_speakerNamed {l : Launch} {Z : ZT} {h : Hp} {g : Hp} {p1 : Int32} {out : Int32} (hf : f_X11_speakerNamed g p1 = some out) : Met l yX11_speakerNamed (wY yX11_speakerNamed cX11_speakerNamed 3 (some .int)) (rmD 0) (va_Pc [.ref (Z.1 125), .int p1] (Wd Z h g)) (va_Qi (fun r (_ : Unit) => r = out) (fun _ => Wd Z h g) (FR Z)) 0 0 (FR Z) := by
  refine metX RX11 rfl (by decide +kernel) (Nat.le_of_ble_eq_true rfl) ?_
  intro p e s m args below meth c C hW ls hl
  have hl : lv_has ls 3 [(0, .ref (Z.1 125)), (1, .int p1)] := hl
  unfold f_X11_speakerNamed at hf
  refine lv_iconst (v := 0) C.1 C.2.1 dX11_speakerNamed_0 (by decide) ?_
  refine lv_istore_n (lv' := [(2, .int (0 : Int32)), (0, .ref (Z.1 125)), (1, .int p1)]) C.1 C.2.1 dX11_speakerNamed_1 rfl hl (by decide) rfl (fun ls hl => ?_)
  exact l_X11_speakerNamed_2 C FU (0 : Int32) ls _ _ hW (lv_sub hl [1, 2, 0] rfl) hf
set_option maxRecDepth 20000 in
set_option maxHeartbeats 1000000 in
theorem j_X11_readSpeaker_53 {l : Launch} {Z : ZT} {h : Hp} {p1 : Int32} {g : Hp} {s1 : Int32} {p : Program} {e : Env} {s : State} {m : MethodId} {args : Array Value} {below : List Frame} {meth : Method} {c : Code} (C : CX p s m args meth c cX11_readSpeaker RX11 3 none Z) {out : Hp} {ls : Array Slot} {H : Heap} {locs : List Loc} (hW : XW Z h g s.heap H locs) (hl : lv_has ls 3 [(0, .ref (Z.1 125)), (1, .int p1)]) (hf : J_X11_readSpeaker_53 p1 g s1 = some out) : W p l e (rmD 5) s m args below meth c H locs 0 0 (MQ below (va_Qv (fun (_ : Unit) => True) (fun _ => Wd Z h out) (FR Z)) args s 0 0 (FR Z)) (F0 m 53 ls [.int s1, .ref (Z.1 125)]) := by
  rw [J_X11_readSpeaker_53] at hf
  refine lv_iconst (v := 3) C.1 C.2.1 dX11_readSpeaker_53 (by decide) ?_
  obtain ⟨u1, hcu1, hf⟩ := bnd_t hf
  refine x_callv hW (x_runV C hW hl (wk9 (k_125)) rfl rfl (c_X11_must hcu1) (cw_X11_162) ci_X11_must cs_X11_must (rm_ok (by decide) (by decide)) ⟨Nat.le_refl _, Nat.le_refl _⟩ (As := [.int s1, .int (3 : Int32)]) rfl rfl (Nat.le_of_ble_eq_true rfl) dX11_readSpeaker_54) (fun H locs hW => ?_)
  refine lv_aload_n C.1 C.2.1 dX11_readSpeaker_57 rfl (lv_at hl 0 rfl) ?_
  obtain ⟨u2, hcu2, hf⟩ := bnd_t hf
  refine x_calli hW (x_runV C hW hl (wk9 (k_125)) rfl rfl (c_X11_hasFailed hcu2) (cw_X11_125) ci_X11_hasFailed cs_X11_hasFailed (rm_ok (by decide) (by decide)) ⟨Nat.le_refl _, Nat.le_refl _⟩ (As := []) rfl rfl (Nat.le_of_ble_eq_true rfl) dX11_readSpeaker_58) (fun H locs hW => ?_)
  refine x_ifeq (tgt := 65) C hf dX11_readSpeaker_61 (by decide) (fun hf => ?_) (fun hf => ?_)
  · refine lv_aload_n C.1 C.2.1 dX11_readSpeaker_65 rfl (lv_at hl 0 rfl) ?_
    refine xg_X11_17 C hW (k_125) dX11_readSpeaker_66 ?_
    refine lv_iconst (v := 5) C.1 C.2.1 dX11_readSpeaker_69 (by decide) ?_
    refine lv_aload_n C.1 C.2.1 dX11_readSpeaker_70 rfl (lv_at hl 0 rfl) ?_
    refine xg_X11_17 C hW (k_125) dX11_readSpeaker_71 ?_
    refine lv_iconst (v := 2) C.1 C.2.1 dX11_readSpeaker_74 (by decide) ?_
    refine x_ialdM C hW a_127 hf dX11_readSpeaker_75 (fun hf => ?_)
    refine lv_iadd C.1 C.2.1 dX11_readSpeaker_76 ?_
    refine lv_aload_n C.1 C.2.1 dX11_readSpeaker_77 rfl (lv_at hl 0 rfl) ?_
    obtain ⟨u3, hcu3, hf⟩ := bnd_t hf
    refine x_calli hW (x_runV C hW hl (wk9 (k_125)) rfl rfl (c_X11_takesName hcu3) (cw_X11_177) ci_X11_takesName cs_X11_takesName (rm_ok (by decide) (by decide)) ⟨Nat.le_refl _, Nat.le_refl _⟩ (As := []) rfl rfl (Nat.le_of_ble_eq_true rfl) dX11_readSpeaker_78) (fun H locs hW => ?_)
    refine x_iastM C hW a_127 hf dX11_readSpeaker_81 (fun g4 H locs hf hW => ?_)
    refine lv_aload_n C.1 C.2.1 dX11_readSpeaker_82 rfl (lv_at hl 0 rfl) ?_
    refine xg_X11_17 C hW (k_125) dX11_readSpeaker_83 ?_
    refine lv_iconst (v := 2) C.1 C.2.1 dX11_readSpeaker_86 (by decide) ?_
    refine lv_dup2_11 C.1 C.2.1 dX11_readSpeaker_87 rfl rfl ?_
    refine x_ialdM C hW a_127 hf dX11_readSpeaker_88 (fun hf => ?_)
    refine lv_iconst (v := 1) C.1 C.2.1 dX11_readSpeaker_89 (by decide) ?_
    refine lv_iadd C.1 C.2.1 dX11_readSpeaker_90 ?_
    refine x_iastM C hW a_127 hf dX11_readSpeaker_91 (fun g5 H locs hf hW => ?_)
    obtain rfl := Option.some.inj hf
    exact x_vret C hW dX11_readSpeaker_92 trivial
  · obtain rfl := Option.some.inj hf
    exact x_vret C hW dX11_readSpeaker_64 trivial
set_option maxRecDepth 20000 in
set_option maxHeartbeats 1000000 in
theorem j_X11_readSpeaker_21 {l : Launch} {Z : ZT} {h : Hp} {p1 : Int32} {g : Hp} {s1 : Int32} {p : Program} {e : Env} {s : State} {m : MethodId} {args : Array Value} {below : List Frame} {meth : Method} {c : Code} (C : CX p s m args meth c cX11_readSpeaker RX11 3 none Z) {out : Hp} {ls : Array Slot} {H : Heap} {locs : List Loc} (hW : XW Z h g s.heap H locs) (hl : lv_has ls 3 [(0, .ref (Z.1 125)), (1, .int p1)]) (hf : J_X11_readSpeaker_21 p1 g s1 = some out) : W p l e (rmD 5) s m args below meth c H locs 0 0 (MQ below (va_Qv (fun (_ : Unit) => True) (fun _ => Wd Z h out) (FR Z)) args s 0 0 (FR Z)) (F0 m 21 ls [.int s1, .ref (Z.1 125)]) := by
  rw [J_X11_readSpeaker_21] at hf
  refine lv_iconst (v := 4) C.1 C.2.1 dX11_readSpeaker_21 (by decide) ?_
  obtain ⟨u6, hcu6, hf⟩ := bnd_t hf
  refine x_callv hW (x_runV C hW hl (wk9 (k_125)) rfl rfl (c_X11_must hcu6) (cw_X11_162) ci_X11_must cs_X11_must (rm_ok (by decide) (by decide)) ⟨Nat.le_refl _, Nat.le_refl _⟩ (As := [.int s1, .int (4 : Int32)]) rfl rfl (Nat.le_of_ble_eq_true rfl) dX11_readSpeaker_22) (fun H locs hW => ?_)
  refine lv_aload_n C.1 C.2.1 dX11_readSpeaker_25 rfl (lv_at hl 0 rfl) ?_
  obtain ⟨u7, hcu7, hf⟩ := bnd_t hf
  refine x_calli hW (x_runV C hW hl (wk9 (k_125)) rfl rfl (c_X11_hasFailed hcu7) (cw_X11_125) ci_X11_hasFailed cs_X11_hasFailed (rm_ok (by decide) (by decide)) ⟨Nat.le_refl _, Nat.le_refl _⟩ (As := []) rfl rfl (Nat.le_of_ble_eq_true rfl) dX11_readSpeaker_26) (fun H locs hW => ?_)
  refine x_ifeq (tgt := 33) C hf dX11_readSpeaker_29 (by decide) (fun hf => ?_) (fun hf => ?_)
  · refine lv_aload_n C.1 C.2.1 dX11_readSpeaker_33 rfl (lv_at hl 0 rfl) ?_
    obtain ⟨u8, hcu8, hf⟩ := bnd_t hf
    refine x_calli hW (x_runV C hW hl (wk9 (k_125)) rfl rfl (c_X11_seesName hcu8) (cw_X11_170) ci_X11_seesName cs_X11_seesName (rm_ok (by decide) (by decide)) ⟨Nat.le_refl _, Nat.le_refl _⟩ (As := []) rfl rfl (Nat.le_of_ble_eq_true rfl) dX11_readSpeaker_34) (fun H locs hW => ?_)
    refine lv_istore_n (lv' := [(2, .int u8.1), (0, .ref (Z.1 125)), (1, .int p1)]) C.1 C.2.1 dX11_readSpeaker_37 rfl hl (by decide) rfl (fun ls hl => ?_)
    refine lv_aload_n C.1 C.2.1 dX11_readSpeaker_38 rfl (lv_at hl 1 rfl) ?_
    refine lv_aload_n C.1 C.2.1 dX11_readSpeaker_39 rfl (lv_at hl 1 rfl) ?_
    refine lv_iload_n C.1 C.2.1 dX11_readSpeaker_40 rfl (lv_at hl 0 rfl) ?_
    obtain ⟨u9, hcu9, hf⟩ := bnd_t hf
    refine x_calli hW (x_runV C hW hl (wk9 (k_125)) rfl rfl (c_X11_speakerNamed hcu9) (cw_X11_173) ci_X11_speakerNamed cs_X11_speakerNamed (rm_ok (by decide) (by decide)) ⟨Nat.le_refl _, Nat.le_refl _⟩ (As := [.int u8.1]) rfl rfl (Nat.le_of_ble_eq_true rfl) dX11_readSpeaker_41) (fun H locs hW => ?_)
    refine lv_iconst (v := -1) C.1 C.2.1 dX11_readSpeaker_44 (by decide) ?_
    refine x_cmpne (tgt := 52) C hf dX11_readSpeaker_45 (by decide) (fun hf => ?_) (fun hf => ?_)
    · refine lv_iconst (v := 0) C.1 C.2.1 dX11_readSpeaker_52 (by decide) ?_
      exact j_X11_readSpeaker_53 C hW (lv_sub hl [1, 2] rfl) hf
    · refine lv_iconst (v := 1) C.1 C.2.1 dX11_readSpeaker_48 (by decide) ?_
      refine lv_goto (tgt := 53) C.1 C.2.1 dX11_readSpeaker_49 (by decide) ?_
      exact j_X11_readSpeaker_53 C hW (lv_sub hl [1, 2] rfl) hf
  · obtain rfl := Option.some.inj hf
    exact x_vret C hW dX11_readSpeaker_32 trivial
set_option maxRecDepth 20000 in
set_option maxHeartbeats 1000000 in
theorem c_X11_readSpeaker {l : Launch} {Z : ZT} {h : Hp} {g : Hp} {p1 : Int32} {out : Hp} (hf : f_X11_readSpeaker g p1 = some out) : Met l yX11_readSpeaker (wY yX11_readSpeaker cX11_readSpeaker 3 none) (rmD 5) (va_Pc [.ref (Z.1 125), .int p1] (Wd Z h g)) (va_Qv (fun (_ : Unit) => True) (fun _ => Wd Z h out) (FR Z)) 0 0 (FR Z) := by
  refine metX RX11 rfl (by decide +kernel) (Nat.le_of_ble_eq_true rfl) ?_
  intro p e s m args below meth c C hW ls hl
  have hl : lv_has ls 3 [(0, .ref (Z.1 125)), (1, .int p1)] := hl
  unfold f_X11_readSpeaker at hf
  refine lv_aload_n C.1 C.2.1 dX11_readSpeaker_0 rfl (lv_at hl 0 rfl) ?_
  refine lv_iload_n C.1 C.2.1 dX11_readSpeaker_1 rfl (lv_at hl 1 rfl) ?_
  refine xp_X11_133 C hW (k_125) hf dX11_readSpeaker_2 (fun g10 H locs hf hW => ?_)
  refine lv_aload_n C.1 C.2.1 dX11_readSpeaker_5 rfl (lv_at hl 0 rfl) ?_
  refine lv_aload_n C.1 C.2.1 dX11_readSpeaker_6 rfl (lv_at hl 0 rfl) ?_
  refine xg_X11_17 C hW (k_125) dX11_readSpeaker_7 ?_
  refine lv_iconst (v := 2) C.1 C.2.1 dX11_readSpeaker_10 (by decide) ?_
  refine x_ialdM C hW a_127 hf dX11_readSpeaker_11 (fun hf => ?_)
  refine lv_iconst (v := 4) C.1 C.2.1 dX11_readSpeaker_12 (by decide) ?_
  refine x_cmpge (tgt := 20) C hf dX11_readSpeaker_13 (by decide) (fun hf => ?_) (fun hf => ?_)
  · refine lv_iconst (v := 0) C.1 C.2.1 dX11_readSpeaker_20 (by decide) ?_
    exact j_X11_readSpeaker_21 C hW (lv_sub hl [0, 1] rfl) hf
  · refine lv_iconst (v := 1) C.1 C.2.1 dX11_readSpeaker_16 (by decide) ?_
    refine lv_goto (tgt := 21) C.1 C.2.1 dX11_readSpeaker_17 (by decide) ?_
    exact j_X11_readSpeaker_21 C hW (lv_sub hl [0, 1] rfl) hf
set_option maxRecDepth 20000 in
set_option maxHeartbeats 1000000 in
theorem j_X11_speaks_64 {l : Launch} {Z : ZT} {h : Hp} {g : Hp} {p1 : Int32} {p2 : Int32} {p3 : Int32} {r3 : Int32 → Option (Int32)} {x4 : Int32} {p : Program} {e : Env} {s : State} {m : MethodId} {args : Array Value} {below : List Frame} {meth : Method} {c : Code} (C : CX p s m args meth c cX11_speaks RX11 6 (some .boolean) Z) {out : Int32} (hr3 : ∀ (x4 : Int32) (ls : Array Slot) (H : Heap) (locs : List Loc), XW Z h g s.heap H locs → lv_has ls 6 [(0, .ref (Z.1 125)), (1, .int p1), (2, .int p2), (3, .int p3), (4, .int x4)] → r3 x4 = some out → W p l e (rmD 0) s m args below meth c H locs 0 0 (MQ below (va_Qi (fun r (_ : Unit) => r = out) (fun _ => Wd Z h g) (FR Z)) args s 0 0 (FR Z)) (F0 m 3 ls [])) {ls : Array Slot} {H : Heap} {locs : List Loc} (hW : XW Z h g s.heap H locs) (hl : lv_has ls 6 [(0, .ref (Z.1 125)), (1, .int p1), (2, .int p2), (3, .int p3), (4, .int x4)]) (hf : J_X11_speaks_64 g p1 p2 p3 r3 x4 = some out) : W p l e (rmD 0) s m args below meth c H locs 0 0 (MQ below (va_Qi (fun r (_ : Unit) => r = out) (fun _ => Wd Z h g) (FR Z)) args s 0 0 (FR Z)) (F0 m 64 ls []) := by
  rw [J_X11_speaks_64] at hf
  refine x_iinc (w := 1) C hf dX11_speaks_64 hl (k := 4) rfl (by decide) (by decide) (fun v1 => [(4, .int v1), (0, .ref (Z.1 125)), (1, .int p1), (2, .int p2), (3, .int p3)]) (fun _ => rfl) (fun v1 ls hf hl => ?_)
  refine lv_goto (tgt := 3) C.1 C.2.1 dX11_speaks_67 (by decide) ?_
  exact hr3 v1 ls _ _ hW (lv_sub hl [1, 2, 3, 4, 0] rfl) hf
set_option maxRecDepth 20000 in
set_option maxHeartbeats 1000000 in
theorem l_X11_speaks_3 {l : Launch} {Z : ZT} {h : Hp} {g : Hp} {p1 : Int32} {p2 : Int32} {p3 : Int32} {p : Program} {e : Env} {s : State} {m : MethodId} {args : Array Value} {below : List Frame} {meth : Method} {c : Code} (C : CX p s m args meth c cX11_speaks RX11 6 (some .boolean) Z) {out : Int32} : ∀ (n : Nat) (x4 : Int32) (ls : Array Slot) (H : Heap) (locs : List Loc), XW Z h g s.heap H locs → lv_has ls 6 [(0, .ref (Z.1 125)), (1, .int p1), (2, .int p2), (3, .int p3), (4, .int x4)] → Lp (F_X11_speaks_3 g p1 p2 p3) n x4 = some out → W p l e (rmD 0) s m args below meth c H locs 0 0 (MQ below (va_Qi (fun r (_ : Unit) => r = out) (fun _ => Wd Z h g) (FR Z)) args s 0 0 (FR Z)) (F0 m 3 ls []) := by
  intro n
  induction n with
  | zero => intro x4 ls H locs hW hl hf; cases hf
  | succ n ih =>
    intro x4 ls H locs hW hl hf
    rw [Lp_s] at hf
    refine lv_iload C.1 C.2.1 dX11_speaks_3 (lv_at hl 4 rfl) ?_
    refine lv_aload_n C.1 C.2.1 dX11_speaks_5 rfl (lv_at hl 0 rfl) ?_
    refine xg_X11_17 C hW (k_125) dX11_speaks_6 ?_
    refine lv_iconst (v := 3) C.1 C.2.1 dX11_speaks_9 (by decide) ?_
    refine x_ialdM C hW a_127 hf dX11_speaks_10 (fun hf => ?_)
    refine x_cmpge (tgt := 70) C hf dX11_speaks_11 (by decide) (fun hf => ?_) (fun hf => ?_)
    · refine lv_iconst (v := 0) C.1 C.2.1 dX11_speaks_70 (by decide) ?_
      exact x_zret C hW (by decide) dX11_speaks_71 (Option.some.inj hf)
    · refine lv_bipush (v := 9) C.1 C.2.1 dX11_speaks_14 (by decide) ?_
      refine lv_iconst (v := 4) C.1 C.2.1 dX11_speaks_16 (by decide) ?_
      refine lv_iload C.1 C.2.1 dX11_speaks_17 (lv_at hl 4 rfl) ?_
      refine lv_imul C.1 C.2.1 dX11_speaks_19 ?_
      refine lv_iadd C.1 C.2.1 dX11_speaks_20 ?_
      refine x_ist C hf dX11_speaks_21 hl (by decide) (fun v2 => [(5, .int v2), (0, .ref (Z.1 125)), (1, .int p1), (2, .int p2), (3, .int p3), (4, .int x4)]) (fun _ => rfl) (fun v2 ls hf hl => ?_)
      refine lv_aload_n C.1 C.2.1 dX11_speaks_23 rfl (lv_at hl 1 rfl) ?_
      refine xg_X11_17 C hW (k_125) dX11_speaks_24 ?_
      refine lv_iload C.1 C.2.1 dX11_speaks_27 (lv_at hl 0 rfl) ?_
      refine lv_iconst (v := 0) C.1 C.2.1 dX11_speaks_29 (by decide) ?_
      refine lv_iadd C.1 C.2.1 dX11_speaks_30 ?_
      refine x_ialdM C hW a_127 hf dX11_speaks_31 (fun hf => ?_)
      refine lv_iload_n C.1 C.2.1 dX11_speaks_32 rfl (lv_at hl 2 rfl) ?_
      refine x_cmpne (tgt := 64) C hf dX11_speaks_33 (by decide) (fun hf => ?_) (fun hf => ?_)
      · exact j_X11_speaks_64 C (fun z0 => ih z0) hW (lv_sub hl [1, 2, 3, 4, 5] rfl) hf
      · refine lv_aload_n C.1 C.2.1 dX11_speaks_36 rfl (lv_at hl 1 rfl) ?_
        refine xg_X11_17 C hW (k_125) dX11_speaks_37 ?_
        refine lv_iload C.1 C.2.1 dX11_speaks_40 (lv_at hl 0 rfl) ?_
        refine lv_iconst (v := 2) C.1 C.2.1 dX11_speaks_42 (by decide) ?_
        refine lv_iadd C.1 C.2.1 dX11_speaks_43 ?_
        refine x_ialdM C hW a_127 hf dX11_speaks_44 (fun hf => ?_)
        refine lv_iload_n C.1 C.2.1 dX11_speaks_45 rfl (lv_at hl 4 rfl) ?_
        refine x_cmpge (tgt := 64) C hf dX11_speaks_46 (by decide) (fun hf => ?_) (fun hf => ?_)
        · exact j_X11_speaks_64 C (fun z0 => ih z0) hW (lv_sub hl [1, 2, 3, 4, 5] rfl) hf
        · refine lv_aload_n C.1 C.2.1 dX11_speaks_49 rfl (lv_at hl 1 rfl) ?_
          refine xg_X11_17 C hW (k_125) dX11_speaks_50 ?_
          refine lv_iload C.1 C.2.1 dX11_speaks_53 (lv_at hl 0 rfl) ?_
          refine lv_iconst (v := 3) C.1 C.2.1 dX11_speaks_55 (by decide) ?_
          refine lv_iadd C.1 C.2.1 dX11_speaks_56 ?_
          refine x_ialdM C hW a_127 hf dX11_speaks_57 (fun hf => ?_)
          refine lv_iload_n C.1 C.2.1 dX11_speaks_58 rfl (lv_at hl 3 rfl) ?_
          refine x_cmple (tgt := 64) C hf dX11_speaks_59 (by decide) (fun hf => ?_) (fun hf => ?_)
          · exact j_X11_speaks_64 C (fun z0 => ih z0) hW (lv_sub hl [1, 2, 3, 4, 5] rfl) hf
          · refine lv_iconst (v := 1) C.1 C.2.1 dX11_speaks_62 (by decide) ?_
            exact x_zret C hW (by decide) dX11_speaks_63 (Option.some.inj hf)
set_option maxRecDepth 20000 in
set_option maxHeartbeats 1000000 in
theorem c_X11_speaks {l : Launch} {Z : ZT} {h : Hp} {g : Hp} {p1 : Int32} {p2 : Int32} {p3 : Int32} {out : Int32} (hf : f_X11_speaks g p1 p2 p3 = some out) : Met l yX11_speaks (wY yX11_speaks cX11_speaks 6 (some .boolean)) (rmD 0) (va_Pc [.ref (Z.1 125), .int p1, .int p2, .int p3] (Wd Z h g)) (va_Qi (fun r (_ : Unit) => r = out) (fun _ => Wd Z h g) (FR Z)) 0 0 (FR Z) := by
  refine metX RX11 rfl (by decide +kernel) (Nat.le_of_ble_eq_true rfl) ?_
  intro p e s m args below meth c C hW ls hl
  have hl : lv_has ls 6 [(0, .ref (Z.1 125)), (1, .int p1), (2, .int p2), (3, .int p3)] := hl
  unfold f_X11_speaks at hf
  refine lv_iconst (v := 0) C.1 C.2.1 dX11_speaks_0 (by decide) ?_
  refine lv_istore (lv' := [(4, .int (0 : Int32)), (0, .ref (Z.1 125)), (1, .int p1), (2, .int p2), (3, .int p3)]) C.1 C.2.1 dX11_speaks_1 hl (by decide) rfl (fun ls hl => ?_)
  exact l_X11_speaks_3 C FU (0 : Int32) ls _ _ hW (lv_sub hl [1, 2, 3, 4, 0] rfl) hf
set_option maxRecDepth 20000 in
set_option maxHeartbeats 1000000 in
theorem c_X11_isBehind {l : Launch} {Z : ZT} {h : Hp} {g : Hp} {p1 : Int32} {p2 : Int32} {p3 : Int32} {out : Int32} (hf : f_X11_isBehind g p1 p2 p3 = some out) : Met l yX11_isBehind (wY yX11_isBehind cX11_isBehind 5 (some .boolean)) (rmD 0) (va_Pc [.ref (Z.1 125), .int p1, .int p2, .int p3] (Wd Z h g)) (va_Qi (fun r (_ : Unit) => r = out) (fun _ => Wd Z h g) (FR Z)) 0 0 (FR Z) := by
  refine metX RX11 rfl (by decide +kernel) (Nat.le_of_ble_eq_true rfl) ?_
  intro p e s m args below meth c C hW ls hl
  have hl : lv_has ls 5 [(0, .ref (Z.1 125)), (1, .int p1), (2, .int p2), (3, .int p3)] := hl
  unfold f_X11_isBehind at hf
  refine lv_bipush (v := 9) C.1 C.2.1 dX11_isBehind_0 (by decide) ?_
  refine lv_iconst (v := 4) C.1 C.2.1 dX11_isBehind_2 (by decide) ?_
  refine lv_iload_n C.1 C.2.1 dX11_isBehind_3 rfl (lv_at hl 1 rfl) ?_
  refine lv_imul C.1 C.2.1 dX11_isBehind_4 ?_
  refine lv_iadd C.1 C.2.1 dX11_isBehind_5 ?_
  refine x_ist C hf dX11_isBehind_6 hl (by decide) (fun v1 => [(4, .int v1), (0, .ref (Z.1 125)), (1, .int p1), (2, .int p2), (3, .int p3)]) (fun _ => rfl) (fun v1 ls hf hl => ?_)
  refine lv_aload_n C.1 C.2.1 dX11_isBehind_8 rfl (lv_at hl 1 rfl) ?_
  refine xg_X11_17 C hW (k_125) dX11_isBehind_9 ?_
  refine lv_iload C.1 C.2.1 dX11_isBehind_12 (lv_at hl 0 rfl) ?_
  refine lv_iconst (v := 2) C.1 C.2.1 dX11_isBehind_14 (by decide) ?_
  refine lv_iadd C.1 C.2.1 dX11_isBehind_15 ?_
  refine x_ialdM C hW a_127 hf dX11_isBehind_16 (fun hf => ?_)
  refine lv_iload_n C.1 C.2.1 dX11_isBehind_17 rfl (lv_at hl 3 rfl) ?_
  refine x_cmpgt (tgt := 47) C hf dX11_isBehind_18 (by decide) (fun hf => ?_) (fun hf => ?_)
  · refine lv_iconst (v := 1) C.1 C.2.1 dX11_isBehind_47 (by decide) ?_
    refine lv_goto (tgt := 52) C.1 C.2.1 dX11_isBehind_48 (by decide) ?_
    exact x_zret C hW (by decide) dX11_isBehind_52 (Option.some.inj hf)
  · refine lv_aload_n C.1 C.2.1 dX11_isBehind_21 rfl (lv_at hl 1 rfl) ?_
    refine xg_X11_17 C hW (k_125) dX11_isBehind_22 ?_
    refine lv_iload C.1 C.2.1 dX11_isBehind_25 (lv_at hl 0 rfl) ?_
    refine lv_iconst (v := 2) C.1 C.2.1 dX11_isBehind_27 (by decide) ?_
    refine lv_iadd C.1 C.2.1 dX11_isBehind_28 ?_
    refine x_ialdM C hW a_127 hf dX11_isBehind_29 (fun hf => ?_)
    refine lv_iload_n C.1 C.2.1 dX11_isBehind_30 rfl (lv_at hl 3 rfl) ?_
    refine x_cmpne (tgt := 51) C hf dX11_isBehind_31 (by decide) (fun hf => ?_) (fun hf => ?_)
    · refine lv_iconst (v := 0) C.1 C.2.1 dX11_isBehind_51 (by decide) ?_
      exact x_zret C hW (by decide) dX11_isBehind_52 (Option.some.inj hf)
    · refine lv_aload_n C.1 C.2.1 dX11_isBehind_34 rfl (lv_at hl 1 rfl) ?_
      refine xg_X11_17 C hW (k_125) dX11_isBehind_35 ?_
      refine lv_iload C.1 C.2.1 dX11_isBehind_38 (lv_at hl 0 rfl) ?_
      refine lv_iconst (v := 0) C.1 C.2.1 dX11_isBehind_40 (by decide) ?_
      refine lv_iadd C.1 C.2.1 dX11_isBehind_41 ?_
      refine x_ialdM C hW a_127 hf dX11_isBehind_42 (fun hf => ?_)
      refine lv_iload_n C.1 C.2.1 dX11_isBehind_43 rfl (lv_at hl 4 rfl) ?_
      refine x_cmple (tgt := 51) C hf dX11_isBehind_44 (by decide) (fun hf => ?_) (fun hf => ?_)
      · refine lv_iconst (v := 0) C.1 C.2.1 dX11_isBehind_51 (by decide) ?_
        exact x_zret C hW (by decide) dX11_isBehind_52 (Option.some.inj hf)
      · refine lv_iconst (v := 1) C.1 C.2.1 dX11_isBehind_47 (by decide) ?_
        refine lv_goto (tgt := 52) C.1 C.2.1 dX11_isBehind_48 (by decide) ?_
        exact x_zret C hW (by decide) dX11_isBehind_52 (Option.some.inj hf)
set_option maxRecDepth 20000 in
set_option maxHeartbeats 1000000 in
theorem j_X11_putsWord_79 {l : Launch} {Z : ZT} {h : Hp} {p1 : Int32} {p2 : Int32} {p3 : Int32} {p4 : Int32} {g : Hp} {x5 : Int32} {p : Program} {e : Env} {s : State} {m : MethodId} {args : Array Value} {below : List Frame} {meth : Method} {c : Code} (C : CX p s m args meth c cX11_putsWord RX11 7 none Z) {out : Hp} {ls : Array Slot} {H : Heap} {locs : List Loc} (hW : XW Z h g s.heap H locs) (hl : lv_has ls 7 [(0, .ref (Z.1 125)), (1, .int p1), (2, .int p2), (3, .int p3), (4, .int p4), (5, .int x5)]) (hf : J_X11_putsWord_79 p1 p2 p3 p4 g x5 = some out) : W p l e (rmD 1) s m args below meth c H locs 0 0 (MQ below (va_Qv (fun (_ : Unit) => True) (fun _ => Wd Z h out) (FR Z)) args s 0 0 (FR Z)) (F0 m 79 ls []) := by
  rw [J_X11_putsWord_79] at hf
  refine lv_bipush (v := 9) C.1 C.2.1 dX11_putsWord_79 (by decide) ?_
  refine lv_iconst (v := 4) C.1 C.2.1 dX11_putsWord_81 (by decide) ?_
  refine lv_iload C.1 C.2.1 dX11_putsWord_82 (lv_at hl 5 rfl) ?_
  refine lv_imul C.1 C.2.1 dX11_putsWord_84 ?_
  refine lv_iadd C.1 C.2.1 dX11_putsWord_85 ?_
  refine x_ist C hf dX11_putsWord_86 hl (by decide) (fun v1 => [(6, .int v1), (0, .ref (Z.1 125)), (1, .int p1), (2, .int p2), (3, .int p3), (4, .int p4), (5, .int x5)]) (fun _ => rfl) (fun v1 ls hf hl => ?_)
  refine lv_aload_n C.1 C.2.1 dX11_putsWord_88 rfl (lv_at hl 1 rfl) ?_
  refine xg_X11_17 C hW (k_125) dX11_putsWord_89 ?_
  refine lv_iload C.1 C.2.1 dX11_putsWord_92 (lv_at hl 0 rfl) ?_
  refine lv_iconst (v := 0) C.1 C.2.1 dX11_putsWord_94 (by decide) ?_
  refine lv_iadd C.1 C.2.1 dX11_putsWord_95 ?_
  refine lv_iload_n C.1 C.2.1 dX11_putsWord_96 rfl (lv_at hl 2 rfl) ?_
  refine x_iastM C hW a_127 hf dX11_putsWord_97 (fun g2 H locs hf hW => ?_)
  refine lv_aload_n C.1 C.2.1 dX11_putsWord_98 rfl (lv_at hl 1 rfl) ?_
  refine xg_X11_17 C hW (k_125) dX11_putsWord_99 ?_
  refine lv_iload C.1 C.2.1 dX11_putsWord_102 (lv_at hl 0 rfl) ?_
  refine lv_iconst (v := 1) C.1 C.2.1 dX11_putsWord_104 (by decide) ?_
  refine lv_iadd C.1 C.2.1 dX11_putsWord_105 ?_
  refine lv_iload_n C.1 C.2.1 dX11_putsWord_106 rfl (lv_at hl 3 rfl) ?_
  refine x_iastM C hW a_127 hf dX11_putsWord_107 (fun g3 H locs hf hW => ?_)
  refine lv_aload_n C.1 C.2.1 dX11_putsWord_108 rfl (lv_at hl 1 rfl) ?_
  refine xg_X11_17 C hW (k_125) dX11_putsWord_109 ?_
  refine lv_iload C.1 C.2.1 dX11_putsWord_112 (lv_at hl 0 rfl) ?_
  refine lv_iconst (v := 2) C.1 C.2.1 dX11_putsWord_114 (by decide) ?_
  refine lv_iadd C.1 C.2.1 dX11_putsWord_115 ?_
  refine lv_iload_n C.1 C.2.1 dX11_putsWord_116 rfl (lv_at hl 4 rfl) ?_
  refine x_iastM C hW a_127 hf dX11_putsWord_117 (fun g4 H locs hf hW => ?_)
  refine lv_aload_n C.1 C.2.1 dX11_putsWord_118 rfl (lv_at hl 1 rfl) ?_
  refine xg_X11_17 C hW (k_125) dX11_putsWord_119 ?_
  refine lv_iload C.1 C.2.1 dX11_putsWord_122 (lv_at hl 0 rfl) ?_
  refine lv_iconst (v := 3) C.1 C.2.1 dX11_putsWord_124 (by decide) ?_
  refine lv_iadd C.1 C.2.1 dX11_putsWord_125 ?_
  refine lv_iload C.1 C.2.1 dX11_putsWord_126 (lv_at hl 5 rfl) ?_
  refine x_iastM C hW a_127 hf dX11_putsWord_128 (fun g5 H locs hf hW => ?_)
  refine lv_aload_n C.1 C.2.1 dX11_putsWord_129 rfl (lv_at hl 1 rfl) ?_
  refine xg_X11_17 C hW (k_125) dX11_putsWord_130 ?_
  refine lv_iconst (v := 3) C.1 C.2.1 dX11_putsWord_133 (by decide) ?_
  refine lv_dup2_11 C.1 C.2.1 dX11_putsWord_134 rfl rfl ?_
  refine x_ialdM C hW a_127 hf dX11_putsWord_135 (fun hf => ?_)
  refine lv_iconst (v := 1) C.1 C.2.1 dX11_putsWord_136 (by decide) ?_
  refine lv_iadd C.1 C.2.1 dX11_putsWord_137 ?_
  refine x_iastM C hW a_127 hf dX11_putsWord_138 (fun g6 H locs hf hW => ?_)
  obtain rfl := Option.some.inj hf
  exact x_vret C hW dX11_putsWord_139 trivial
set_option maxRecDepth 20000 in
set_option maxHeartbeats 1000000 in
theorem j_X11_putsWord_73 {l : Launch} {Z : ZT} {h : Hp} {p1 : Int32} {p2 : Int32} {p3 : Int32} {p4 : Int32} {g : Hp} {r8 : Int32 × Hp → Option (Hp)} {x5 : Int32} {p : Program} {e : Env} {s : State} {m : MethodId} {args : Array Value} {below : List Frame} {meth : Method} {c : Code} (C : CX p s m args meth c cX11_putsWord RX11 7 none Z) {out : Hp} (hr8 : ∀ (x5 : Int32) (g : Hp) (ls : Array Slot) (H : Heap) (locs : List Loc), XW Z h g s.heap H locs → lv_has ls 7 [(0, .ref (Z.1 125)), (1, .int p1), (2, .int p2), (3, .int p3), (4, .int p4), (5, .int x5)] → r8 (x5, g) = some out → W p l e (rmD 1) s m args below meth c H locs 0 0 (MQ below (va_Qv (fun (_ : Unit) => True) (fun _ => Wd Z h out) (FR Z)) args s 0 0 (FR Z)) (F0 m 8 ls [])) {ls : Array Slot} {H : Heap} {locs : List Loc} (hW : XW Z h g s.heap H locs) (hl : lv_has ls 7 [(0, .ref (Z.1 125)), (1, .int p1), (2, .int p2), (3, .int p3), (4, .int p4), (5, .int x5)]) (hf : J_X11_putsWord_73 p1 p2 p3 p4 g r8 x5 = some out) : W p l e (rmD 1) s m args below meth c H locs 0 0 (MQ below (va_Qv (fun (_ : Unit) => True) (fun _ => Wd Z h out) (FR Z)) args s 0 0 (FR Z)) (F0 m 73 ls []) := by
  rw [J_X11_putsWord_73] at hf
  refine x_iinc (w := -1) C hf dX11_putsWord_73 hl (k := 5) rfl (by decide) (by decide) (fun v7 => [(5, .int v7), (0, .ref (Z.1 125)), (1, .int p1), (2, .int p2), (3, .int p3), (4, .int p4)]) (fun _ => rfl) (fun v7 ls hf hl => ?_)
  refine lv_goto (tgt := 8) C.1 C.2.1 dX11_putsWord_76 (by decide) ?_
  exact hr8 v7 g ls _ _ hW (lv_sub hl [1, 2, 3, 4, 5, 0] rfl) hf
set_option maxRecDepth 20000 in
set_option maxHeartbeats 1000000 in
theorem l_X11_putsWord_29 {l : Launch} {Z : ZT} {h : Hp} {p1 : Int32} {p2 : Int32} {p3 : Int32} {p4 : Int32} {r8 : Int32 × Hp → Option (Hp)} {x5 : Int32} {p : Program} {e : Env} {s : State} {m : MethodId} {args : Array Value} {below : List Frame} {meth : Method} {c : Code} (C : CX p s m args meth c cX11_putsWord RX11 7 none Z) {out : Hp} (hr8 : ∀ (x5 : Int32) (g : Hp) (ls : Array Slot) (H : Heap) (locs : List Loc), XW Z h g s.heap H locs → lv_has ls 7 [(0, .ref (Z.1 125)), (1, .int p1), (2, .int p2), (3, .int p3), (4, .int p4), (5, .int x5)] → r8 (x5, g) = some out → W p l e (rmD 1) s m args below meth c H locs 0 0 (MQ below (va_Qv (fun (_ : Unit) => True) (fun _ => Wd Z h out) (FR Z)) args s 0 0 (FR Z)) (F0 m 8 ls [])) : ∀ (n : Nat) (x6 : Int32) (g : Hp) (ls : Array Slot) (H : Heap) (locs : List Loc), XW Z h g s.heap H locs → lv_has ls 7 [(0, .ref (Z.1 125)), (1, .int p1), (2, .int p2), (3, .int p3), (4, .int p4), (5, .int x5), (6, .int x6)] → Lp (F_X11_putsWord_29 p1 p2 p3 p4 r8 x5) n (x6, g) = some out → W p l e (rmD 1) s m args below meth c H locs 0 0 (MQ below (va_Qv (fun (_ : Unit) => True) (fun _ => Wd Z h out) (FR Z)) args s 0 0 (FR Z)) (F0 m 29 ls []) := by
  intro n
  induction n with
  | zero => intro x6 g ls H locs hW hl hf; cases hf
  | succ n ih =>
    intro x6 g ls H locs hW hl hf
    rw [Lp_s] at hf
    refine lv_iload C.1 C.2.1 dX11_putsWord_29 (lv_at hl 6 rfl) ?_
    refine lv_iconst (v := 4) C.1 C.2.1 dX11_putsWord_31 (by decide) ?_
    refine x_cmpge (tgt := 73) C hf dX11_putsWord_32 (by decide) (fun hf => ?_) (fun hf => ?_)
    · exact j_X11_putsWord_73 C hr8 hW (lv_sub hl [0, 1, 2, 3, 4, 5] rfl) hf
    · refine lv_aload_n C.1 C.2.1 dX11_putsWord_35 rfl (lv_at hl 0 rfl) ?_
      refine xg_X11_17 C hW (k_125) dX11_putsWord_36 ?_
      refine lv_bipush (v := 9) C.1 C.2.1 dX11_putsWord_39 (by decide) ?_
      refine lv_iconst (v := 4) C.1 C.2.1 dX11_putsWord_41 (by decide) ?_
      refine lv_iload C.1 C.2.1 dX11_putsWord_42 (lv_at hl 5 rfl) ?_
      refine lv_imul C.1 C.2.1 dX11_putsWord_44 ?_
      refine lv_iadd C.1 C.2.1 dX11_putsWord_45 ?_
      refine lv_iload C.1 C.2.1 dX11_putsWord_46 (lv_at hl 6 rfl) ?_
      refine lv_iadd C.1 C.2.1 dX11_putsWord_48 ?_
      refine lv_aload_n C.1 C.2.1 dX11_putsWord_49 rfl (lv_at hl 0 rfl) ?_
      refine xg_X11_17 C hW (k_125) dX11_putsWord_50 ?_
      refine lv_bipush (v := 9) C.1 C.2.1 dX11_putsWord_53 (by decide) ?_
      refine lv_iconst (v := 4) C.1 C.2.1 dX11_putsWord_55 (by decide) ?_
      refine lv_iload C.1 C.2.1 dX11_putsWord_56 (lv_at hl 5 rfl) ?_
      refine lv_iconst (v := 1) C.1 C.2.1 dX11_putsWord_58 (by decide) ?_
      refine lv_isub C.1 C.2.1 dX11_putsWord_59 ?_
      refine lv_imul C.1 C.2.1 dX11_putsWord_60 ?_
      refine lv_iadd C.1 C.2.1 dX11_putsWord_61 ?_
      refine lv_iload C.1 C.2.1 dX11_putsWord_62 (lv_at hl 6 rfl) ?_
      refine lv_iadd C.1 C.2.1 dX11_putsWord_64 ?_
      refine x_ialdM C hW a_127 hf dX11_putsWord_65 (fun hf => ?_)
      refine x_iastM C hW a_127 hf dX11_putsWord_66 (fun g8 H locs hf hW => ?_)
      refine x_iinc (w := 1) C hf dX11_putsWord_67 hl (k := 6) rfl (by decide) (by decide) (fun v9 => [(6, .int v9), (0, .ref (Z.1 125)), (1, .int p1), (2, .int p2), (3, .int p3), (4, .int p4), (5, .int x5)]) (fun _ => rfl) (fun v9 ls hf hl => ?_)
      refine lv_goto (tgt := 29) C.1 C.2.1 dX11_putsWord_70 (by decide) ?_
      exact ih v9 g8 ls _ _ hW (lv_sub hl [1, 2, 3, 4, 5, 6, 0] rfl) hf
set_option maxRecDepth 20000 in
set_option maxHeartbeats 1000000 in
theorem l_X11_putsWord_8 {l : Launch} {Z : ZT} {h : Hp} {p1 : Int32} {p2 : Int32} {p3 : Int32} {p4 : Int32} {p : Program} {e : Env} {s : State} {m : MethodId} {args : Array Value} {below : List Frame} {meth : Method} {c : Code} (C : CX p s m args meth c cX11_putsWord RX11 7 none Z) {out : Hp} : ∀ (n : Nat) (x5 : Int32) (g : Hp) (ls : Array Slot) (H : Heap) (locs : List Loc), XW Z h g s.heap H locs → lv_has ls 7 [(0, .ref (Z.1 125)), (1, .int p1), (2, .int p2), (3, .int p3), (4, .int p4), (5, .int x5)] → Lp (F_X11_putsWord_8 p1 p2 p3 p4) n (x5, g) = some out → W p l e (rmD 1) s m args below meth c H locs 0 0 (MQ below (va_Qv (fun (_ : Unit) => True) (fun _ => Wd Z h out) (FR Z)) args s 0 0 (FR Z)) (F0 m 8 ls []) := by
  intro n
  induction n with
  | zero => intro x5 g ls H locs hW hl hf; cases hf
  | succ n ih =>
    intro x5 g ls H locs hW hl hf
    rw [Lp_s] at hf
    refine lv_iload C.1 C.2.1 dX11_putsWord_8 (lv_at hl 5 rfl) ?_
    refine x_ifle (tgt := 79) C hf dX11_putsWord_10 (by decide) (fun hf => ?_) (fun hf => ?_)
    · exact j_X11_putsWord_79 C hW (lv_sub hl [0, 1, 2, 3, 4, 5] rfl) hf
    · refine lv_aload_n C.1 C.2.1 dX11_putsWord_13 rfl (lv_at hl 0 rfl) ?_
      refine lv_iload C.1 C.2.1 dX11_putsWord_14 (lv_at hl 5 rfl) ?_
      refine lv_iconst (v := 1) C.1 C.2.1 dX11_putsWord_16 (by decide) ?_
      refine lv_isub C.1 C.2.1 dX11_putsWord_17 ?_
      refine lv_iload_n C.1 C.2.1 dX11_putsWord_18 rfl (lv_at hl 3 rfl) ?_
      refine lv_iload_n C.1 C.2.1 dX11_putsWord_19 rfl (lv_at hl 1 rfl) ?_
      obtain ⟨u10, hcu10, hf⟩ := bnd_t hf
      refine x_calli hW (x_runV C hW hl (wk9 (k_125)) rfl rfl (c_X11_isBehind hcu10) (cw_X11_192) ci_X11_isBehind cs_X11_isBehind (rm_ok (by decide) (by decide)) ⟨Nat.le_refl _, Nat.le_refl _⟩ (As := [.int (x5 - (1 : Int32)), .int p3, .int p1]) rfl rfl (Nat.le_of_ble_eq_true rfl) dX11_putsWord_20) (fun H locs hW => ?_)
      refine x_ifeq (tgt := 79) C hf dX11_putsWord_23 (by decide) (fun hf => ?_) (fun hf => ?_)
      · exact j_X11_putsWord_79 C hW (lv_sub hl [0, 1, 2, 3, 4, 5] rfl) hf
      · refine lv_iconst (v := 0) C.1 C.2.1 dX11_putsWord_26 (by decide) ?_
        refine lv_istore (lv' := [(6, .int (0 : Int32)), (0, .ref (Z.1 125)), (1, .int p1), (2, .int p2), (3, .int p3), (4, .int p4), (5, .int x5)]) C.1 C.2.1 dX11_putsWord_27 hl (by decide) rfl (fun ls hl => ?_)
        exact l_X11_putsWord_29 C (fun z0 z1 => ih z0 z1) FU (0 : Int32) g ls _ _ hW (lv_sub hl [1, 2, 3, 4, 5, 6, 0] rfl) hf
set_option maxRecDepth 20000 in
set_option maxHeartbeats 1000000 in
theorem c_X11_putsWord {l : Launch} {Z : ZT} {h : Hp} {g : Hp} {p1 : Int32} {p2 : Int32} {p3 : Int32} {p4 : Int32} {out : Hp} (hf : f_X11_putsWord g p1 p2 p3 p4 = some out) : Met l yX11_putsWord (wY yX11_putsWord cX11_putsWord 7 none) (rmD 1) (va_Pc [.ref (Z.1 125), .int p1, .int p2, .int p3, .int p4] (Wd Z h g)) (va_Qv (fun (_ : Unit) => True) (fun _ => Wd Z h out) (FR Z)) 0 0 (FR Z) := by
  refine metX RX11 rfl (by decide +kernel) (Nat.le_of_ble_eq_true rfl) ?_
  intro p e s m args below meth c C hW ls hl
  have hl : lv_has ls 7 [(0, .ref (Z.1 125)), (1, .int p1), (2, .int p2), (3, .int p3), (4, .int p4)] := hl
  unfold f_X11_putsWord at hf
  refine lv_aload_n C.1 C.2.1 dX11_putsWord_0 rfl (lv_at hl 0 rfl) ?_
  refine xg_X11_17 C hW (k_125) dX11_putsWord_1 ?_
  refine lv_iconst (v := 3) C.1 C.2.1 dX11_putsWord_4 (by decide) ?_
  refine x_ialdM C hW a_127 hf dX11_putsWord_5 (fun hf => ?_)
  refine x_ist C hf dX11_putsWord_6 hl (by decide) (fun v11 => [(5, .int v11), (0, .ref (Z.1 125)), (1, .int p1), (2, .int p2), (3, .int p3), (4, .int p4)]) (fun _ => rfl) (fun v11 ls hf hl => ?_)
  exact l_X11_putsWord_8 C FU v11 g ls _ _ hW (lv_sub hl [1, 2, 3, 4, 5, 0] rfl) hf
set_option maxRecDepth 20000 in
set_option maxHeartbeats 1000000 in
theorem j_X11_readWord_147 {l : Launch} {Z : ZT} {h : Hp} {p1 : Int32} {g : Hp} {x2 : Int32} {x3 : Int32} {x4 : Int32} {x5 : Int32} {s1 : Int32} {p : Program} {e : Env} {s : State} {m : MethodId} {args : Array Value} {below : List Frame} {meth : Method} {c : Code} (C : CX p s m args meth c cX11_readWord RX11 6 none Z) {out : Hp} {ls : Array Slot} {H : Heap} {locs : List Loc} (hW : XW Z h g s.heap H locs) (hl : lv_has ls 6 [(0, .ref (Z.1 125)), (1, .int p1), (2, .int x2), (3, .int x3), (4, .int x4), (5, .int x5)]) (hf : J_X11_readWord_147 p1 g x2 x3 x4 x5 s1 = some out) : W p l e (rmD 5) s m args below meth c H locs 0 0 (MQ below (va_Qv (fun (_ : Unit) => True) (fun _ => Wd Z h out) (FR Z)) args s 0 0 (FR Z)) (F0 m 147 ls [.int s1, .ref (Z.1 125)]) := by
  rw [J_X11_readWord_147] at hf
  refine lv_iconst (v := 2) C.1 C.2.1 dX11_readWord_147 (by decide) ?_
  obtain ⟨u1, hcu1, hf⟩ := bnd_t hf
  refine x_callv hW (x_runV C hW hl (wk9 (k_125)) rfl rfl (c_X11_must hcu1) (cw_X11_162) ci_X11_must cs_X11_must (rm_ok (by decide) (by decide)) ⟨Nat.le_refl _, Nat.le_refl _⟩ (As := [.int s1, .int (2 : Int32)]) rfl rfl (Nat.le_of_ble_eq_true rfl) dX11_readWord_148) (fun H locs hW => ?_)
  refine lv_aload_n C.1 C.2.1 dX11_readWord_151 rfl (lv_at hl 0 rfl) ?_
  obtain ⟨u2, hcu2, hf⟩ := bnd_t hf
  refine x_calli hW (x_runV C hW hl (wk9 (k_125)) rfl rfl (c_X11_hasFailed hcu2) (cw_X11_125) ci_X11_hasFailed cs_X11_hasFailed (rm_ok (by decide) (by decide)) ⟨Nat.le_refl _, Nat.le_refl _⟩ (As := []) rfl rfl (Nat.le_of_ble_eq_true rfl) dX11_readWord_152) (fun H locs hW => ?_)
  refine x_ifeq (tgt := 159) C hf dX11_readWord_155 (by decide) (fun hf => ?_) (fun hf => ?_)
  · refine lv_aload_n C.1 C.2.1 dX11_readWord_159 rfl (lv_at hl 0 rfl) ?_
    refine lv_iload_n C.1 C.2.1 dX11_readWord_160 rfl (lv_at hl 2 rfl) ?_
    refine lv_iload_n C.1 C.2.1 dX11_readWord_161 rfl (lv_at hl 3 rfl) ?_
    refine lv_iload C.1 C.2.1 dX11_readWord_162 (lv_at hl 4 rfl) ?_
    refine lv_iload C.1 C.2.1 dX11_readWord_164 (lv_at hl 5 rfl) ?_
    obtain ⟨u3, hcu3, hf⟩ := bnd_t hf
    refine x_callv hW (x_runV C hW hl (wk9 (k_125)) rfl rfl (c_X11_putsWord hcu3) (cw_X11_188) ci_X11_putsWord cs_X11_putsWord (rm_ok (by decide) (by decide)) ⟨Nat.le_refl _, Nat.le_refl _⟩ (As := [.int x2, .int x3, .int x4, .int x5]) rfl rfl (Nat.le_of_ble_eq_true rfl) dX11_readWord_166) (fun H locs hW => ?_)
    obtain rfl := Option.some.inj hf
    exact x_vret C hW dX11_readWord_169 trivial
  · obtain rfl := Option.some.inj hf
    exact x_vret C hW dX11_readWord_158 trivial
set_option maxRecDepth 20000 in
set_option maxHeartbeats 1000000 in
theorem j_X11_readWord_113 {l : Launch} {Z : ZT} {h : Hp} {p1 : Int32} {g : Hp} {x2 : Int32} {x3 : Int32} {x4 : Int32} {s1 : Int32} {p : Program} {e : Env} {s : State} {m : MethodId} {args : Array Value} {below : List Frame} {meth : Method} {c : Code} (C : CX p s m args meth c cX11_readWord RX11 6 none Z) {out : Hp} {ls : Array Slot} {H : Heap} {locs : List Loc} (hW : XW Z h g s.heap H locs) (hl : lv_has ls 6 [(0, .ref (Z.1 125)), (1, .int p1), (2, .int x2), (3, .int x3), (4, .int x4)]) (hf : J_X11_readWord_113 p1 g x2 x3 x4 s1 = some out) : W p l e (rmD 5) s m args below meth c H locs 0 0 (MQ below (va_Qv (fun (_ : Unit) => True) (fun _ => Wd Z h out) (FR Z)) args s 0 0 (FR Z)) (F0 m 113 ls [.int s1, .ref (Z.1 125)]) := by
  rw [J_X11_readWord_113] at hf
  refine lv_iconst (v := 2) C.1 C.2.1 dX11_readWord_113 (by decide) ?_
  obtain ⟨u4, hcu4, hf⟩ := bnd_t hf
  refine x_callv hW (x_runV C hW hl (wk9 (k_125)) rfl rfl (c_X11_must hcu4) (cw_X11_162) ci_X11_must cs_X11_must (rm_ok (by decide) (by decide)) ⟨Nat.le_refl _, Nat.le_refl _⟩ (As := [.int s1, .int (2 : Int32)]) rfl rfl (Nat.le_of_ble_eq_true rfl) dX11_readWord_114) (fun H locs hW => ?_)
  refine lv_aload_n C.1 C.2.1 dX11_readWord_117 rfl (lv_at hl 0 rfl) ?_
  refine lv_iload C.1 C.2.1 dX11_readWord_118 (lv_at hl 4 rfl) ?_
  refine lv_iconst (v := 1) C.1 C.2.1 dX11_readWord_120 (by decide) ?_
  refine lv_iadd C.1 C.2.1 dX11_readWord_121 ?_
  refine lv_ldc (v := 99999) C.1 C.2.1 C.2.2.2.1 (C.2.2.1 _ mc_X11_187) dX11_readWord_122 ?_
  obtain ⟨u5, hcu5, hf⟩ := bnd_t hf
  refine x_calli hW (x_runV C hW hl (wk9 (k_125)) rfl rfl (c_X11_number hcu5) (cw_X11_181) ci_X11_number cs_X11_number (rm_ok (by decide) (by decide)) ⟨Nat.le_refl _, Nat.le_refl _⟩ (As := [.int (x4 + (1 : Int32)), .int (99999 : Int32)]) rfl rfl (Nat.le_of_ble_eq_true rfl) dX11_readWord_124) (fun H locs hW => ?_)
  refine lv_istore (lv' := [(5, .int u5.1), (0, .ref (Z.1 125)), (1, .int p1), (2, .int x2), (3, .int x3), (4, .int x4)]) C.1 C.2.1 dX11_readWord_127 hl (by decide) rfl (fun ls hl => ?_)
  refine lv_aload_n C.1 C.2.1 dX11_readWord_129 rfl (lv_at hl 1 rfl) ?_
  refine lv_aload_n C.1 C.2.1 dX11_readWord_130 rfl (lv_at hl 1 rfl) ?_
  refine lv_iload_n C.1 C.2.1 dX11_readWord_131 rfl (lv_at hl 3 rfl) ?_
  refine lv_iload C.1 C.2.1 dX11_readWord_132 (lv_at hl 5 rfl) ?_
  refine lv_iload C.1 C.2.1 dX11_readWord_134 (lv_at hl 0 rfl) ?_
  obtain ⟨u6, hcu6, hf⟩ := bnd_t hf
  refine x_calli hW (x_runV C hW hl (wk9 (k_125)) rfl rfl (c_X11_speaks hcu6) (cw_X11_184) ci_X11_speaks cs_X11_speaks (rm_ok (by decide) (by decide)) ⟨Nat.le_refl _, Nat.le_refl _⟩ (As := [.int x2, .int x4, .int u5.1]) rfl rfl (Nat.le_of_ble_eq_true rfl) dX11_readWord_136) (fun H locs hW => ?_)
  refine x_ifne (tgt := 146) C hf dX11_readWord_139 (by decide) (fun hf => ?_) (fun hf => ?_)
  · refine lv_iconst (v := 0) C.1 C.2.1 dX11_readWord_146 (by decide) ?_
    exact j_X11_readWord_147 C hW (lv_sub hl [1, 2, 3, 4, 5, 0] rfl) hf
  · refine lv_iconst (v := 1) C.1 C.2.1 dX11_readWord_142 (by decide) ?_
    refine lv_goto (tgt := 147) C.1 C.2.1 dX11_readWord_143 (by decide) ?_
    exact j_X11_readWord_147 C hW (lv_sub hl [1, 2, 3, 4, 5, 0] rfl) hf
set_option maxRecDepth 20000 in
set_option maxHeartbeats 1000000 in
theorem j_X11_readWord_54 {l : Launch} {Z : ZT} {h : Hp} {p1 : Int32} {g : Hp} {x2 : Int32} {s1 : Int32} {p : Program} {e : Env} {s : State} {m : MethodId} {args : Array Value} {below : List Frame} {meth : Method} {c : Code} (C : CX p s m args meth c cX11_readWord RX11 6 none Z) {out : Hp} {ls : Array Slot} {H : Heap} {locs : List Loc} (hW : XW Z h g s.heap H locs) (hl : lv_has ls 6 [(0, .ref (Z.1 125)), (1, .int p1), (2, .int x2)]) (hf : J_X11_readWord_54 p1 g x2 s1 = some out) : W p l e (rmD 5) s m args below meth c H locs 0 0 (MQ below (va_Qv (fun (_ : Unit) => True) (fun _ => Wd Z h out) (FR Z)) args s 0 0 (FR Z)) (F0 m 54 ls [.int s1, .ref (Z.1 125)]) := by
  rw [J_X11_readWord_54] at hf
  refine lv_iconst (v := 3) C.1 C.2.1 dX11_readWord_54 (by decide) ?_
  obtain ⟨u7, hcu7, hf⟩ := bnd_t hf
  refine x_callv hW (x_runV C hW hl (wk9 (k_125)) rfl rfl (c_X11_must hcu7) (cw_X11_162) ci_X11_must cs_X11_must (rm_ok (by decide) (by decide)) ⟨Nat.le_refl _, Nat.le_refl _⟩ (As := [.int s1, .int (3 : Int32)]) rfl rfl (Nat.le_of_ble_eq_true rfl) dX11_readWord_55) (fun H locs hW => ?_)
  refine lv_aload_n C.1 C.2.1 dX11_readWord_58 rfl (lv_at hl 0 rfl) ?_
  obtain ⟨u8, hcu8, hf⟩ := bnd_t hf
  refine x_calli hW (x_runV C hW hl (wk9 (k_125)) rfl rfl (c_X11_hasFailed hcu8) (cw_X11_125) ci_X11_hasFailed cs_X11_hasFailed (rm_ok (by decide) (by decide)) ⟨Nat.le_refl _, Nat.le_refl _⟩ (As := []) rfl rfl (Nat.le_of_ble_eq_true rfl) dX11_readWord_59) (fun H locs hW => ?_)
  refine x_ifeq (tgt := 66) C hf dX11_readWord_62 (by decide) (fun hf => ?_) (fun hf => ?_)
  · refine lv_aload_n C.1 C.2.1 dX11_readWord_66 rfl (lv_at hl 0 rfl) ?_
    refine lv_dup C.1 C.2.1 dX11_readWord_67 rfl ?_
    refine xg_X11_119 C hW (k_125) dX11_readWord_68 ?_
    refine lv_aload_n C.1 C.2.1 dX11_readWord_71 rfl (lv_at hl 0 rfl) ?_
    obtain ⟨u9, hcu9, hf⟩ := bnd_t hf
    refine x_calli hW (x_runV C hW hl (wk9 (k_125)) rfl rfl (c_X11_letters hcu9) (cw_X11_142) ci_X11_letters cs_X11_letters (rm_ok (by decide) (by decide)) ⟨Nat.le_refl _, Nat.le_refl _⟩ (As := []) rfl rfl (Nat.le_of_ble_eq_true rfl) dX11_readWord_72) (fun H locs hW => ?_)
    refine lv_iadd C.1 C.2.1 dX11_readWord_75 ?_
    refine xp_X11_119 C hW (k_125) hf dX11_readWord_76 (fun g10 H locs hf hW => ?_)
    refine lv_aload_n C.1 C.2.1 dX11_readWord_79 rfl (lv_at hl 0 rfl) ?_
    obtain ⟨u11, hcu11, hf⟩ := bnd_t hf
    refine x_calli hW (x_runV C hW hl (wk9 (k_125)) rfl rfl (c_X11_takesName hcu11) (cw_X11_177) ci_X11_takesName cs_X11_takesName (rm_ok (by decide) (by decide)) ⟨Nat.le_refl _, Nat.le_refl _⟩ (As := []) rfl rfl (Nat.le_of_ble_eq_true rfl) dX11_readWord_80) (fun H locs hW => ?_)
    refine lv_istore_n (lv' := [(3, .int u11.1), (0, .ref (Z.1 125)), (1, .int p1), (2, .int x2)]) C.1 C.2.1 dX11_readWord_83 rfl hl (by decide) rfl (fun ls hl => ?_)
    refine lv_aload_n C.1 C.2.1 dX11_readWord_84 rfl (lv_at hl 1 rfl) ?_
    refine lv_iconst (v := 0) C.1 C.2.1 dX11_readWord_85 (by decide) ?_
    refine lv_ldc (v := 99998) C.1 C.2.1 C.2.2.2.1 (C.2.2.1 _ mc_X11_180) dX11_readWord_86 ?_
    obtain ⟨u12, hcu12, hf⟩ := bnd_t hf
    refine x_calli hW (x_runV C hW hl (wk9 (k_125)) rfl rfl (c_X11_number hcu12) (cw_X11_181) ci_X11_number cs_X11_number (rm_ok (by decide) (by decide)) ⟨Nat.le_refl _, Nat.le_refl _⟩ (As := [.int (0 : Int32), .int (99998 : Int32)]) rfl rfl (Nat.le_of_ble_eq_true rfl) dX11_readWord_88) (fun H locs hW => ?_)
    refine lv_istore (lv' := [(4, .int u12.1), (3, .int u11.1), (0, .ref (Z.1 125)), (1, .int p1), (2, .int x2)]) C.1 C.2.1 dX11_readWord_91 hl (by decide) rfl (fun ls hl => ?_)
    refine lv_aload_n C.1 C.2.1 dX11_readWord_93 rfl (lv_at hl 2 rfl) ?_
    refine lv_aload_n C.1 C.2.1 dX11_readWord_94 rfl (lv_at hl 2 rfl) ?_
    refine lv_iload_n C.1 C.2.1 dX11_readWord_95 rfl (lv_at hl 4 rfl) ?_
    refine lv_iload C.1 C.2.1 dX11_readWord_96 (lv_at hl 0 rfl) ?_
    refine lv_iload C.1 C.2.1 dX11_readWord_98 (lv_at hl 0 rfl) ?_
    refine lv_iconst (v := 1) C.1 C.2.1 dX11_readWord_100 (by decide) ?_
    refine lv_iadd C.1 C.2.1 dX11_readWord_101 ?_
    obtain ⟨u13, hcu13, hf⟩ := bnd_t hf
    refine x_calli hW (x_runV C hW hl (wk9 (k_125)) rfl rfl (c_X11_speaks hcu13) (cw_X11_184) ci_X11_speaks cs_X11_speaks (rm_ok (by decide) (by decide)) ⟨Nat.le_refl _, Nat.le_refl _⟩ (As := [.int x2, .int u12.1, .int (u12.1 + (1 : Int32))]) rfl rfl (Nat.le_of_ble_eq_true rfl) dX11_readWord_102) (fun H locs hW => ?_)
    refine x_ifne (tgt := 112) C hf dX11_readWord_105 (by decide) (fun hf => ?_) (fun hf => ?_)
    · refine lv_iconst (v := 0) C.1 C.2.1 dX11_readWord_112 (by decide) ?_
      exact j_X11_readWord_113 C hW (lv_sub hl [2, 3, 4, 1, 0] rfl) hf
    · refine lv_iconst (v := 1) C.1 C.2.1 dX11_readWord_108 (by decide) ?_
      refine lv_goto (tgt := 113) C.1 C.2.1 dX11_readWord_109 (by decide) ?_
      exact j_X11_readWord_113 C hW (lv_sub hl [2, 3, 4, 1, 0] rfl) hf
  · obtain rfl := Option.some.inj hf
    exact x_vret C hW dX11_readWord_65 trivial
set_option maxRecDepth 20000 in
set_option maxHeartbeats 1000000 in
theorem j_X11_readWord_22 {l : Launch} {Z : ZT} {h : Hp} {p1 : Int32} {g : Hp} {s1 : Int32} {p : Program} {e : Env} {s : State} {m : MethodId} {args : Array Value} {below : List Frame} {meth : Method} {c : Code} (C : CX p s m args meth c cX11_readWord RX11 6 none Z) {out : Hp} {ls : Array Slot} {H : Heap} {locs : List Loc} (hW : XW Z h g s.heap H locs) (hl : lv_has ls 6 [(0, .ref (Z.1 125)), (1, .int p1)]) (hf : J_X11_readWord_22 p1 g s1 = some out) : W p l e (rmD 5) s m args below meth c H locs 0 0 (MQ below (va_Qv (fun (_ : Unit) => True) (fun _ => Wd Z h out) (FR Z)) args s 0 0 (FR Z)) (F0 m 22 ls [.int s1, .ref (Z.1 125)]) := by
  rw [J_X11_readWord_22] at hf
  refine lv_iconst (v := 4) C.1 C.2.1 dX11_readWord_22 (by decide) ?_
  obtain ⟨u14, hcu14, hf⟩ := bnd_t hf
  refine x_callv hW (x_runV C hW hl (wk9 (k_125)) rfl rfl (c_X11_must hcu14) (cw_X11_162) ci_X11_must cs_X11_must (rm_ok (by decide) (by decide)) ⟨Nat.le_refl _, Nat.le_refl _⟩ (As := [.int s1, .int (4 : Int32)]) rfl rfl (Nat.le_of_ble_eq_true rfl) dX11_readWord_23) (fun H locs hW => ?_)
  refine lv_aload_n C.1 C.2.1 dX11_readWord_26 rfl (lv_at hl 0 rfl) ?_
  obtain ⟨u15, hcu15, hf⟩ := bnd_t hf
  refine x_calli hW (x_runV C hW hl (wk9 (k_125)) rfl rfl (c_X11_hasFailed hcu15) (cw_X11_125) ci_X11_hasFailed cs_X11_hasFailed (rm_ok (by decide) (by decide)) ⟨Nat.le_refl _, Nat.le_refl _⟩ (As := []) rfl rfl (Nat.le_of_ble_eq_true rfl) dX11_readWord_27) (fun H locs hW => ?_)
  refine x_ifeq (tgt := 34) C hf dX11_readWord_30 (by decide) (fun hf => ?_) (fun hf => ?_)
  · refine lv_aload_n C.1 C.2.1 dX11_readWord_34 rfl (lv_at hl 0 rfl) ?_
    refine lv_aload_n C.1 C.2.1 dX11_readWord_35 rfl (lv_at hl 0 rfl) ?_
    obtain ⟨u16, hcu16, hf⟩ := bnd_t hf
    refine x_calli hW (x_runV C hW hl (wk9 (k_125)) rfl rfl (c_X11_seesName hcu16) (cw_X11_170) ci_X11_seesName cs_X11_seesName (rm_ok (by decide) (by decide)) ⟨Nat.le_refl _, Nat.le_refl _⟩ (As := []) rfl rfl (Nat.le_of_ble_eq_true rfl) dX11_readWord_36) (fun H locs hW => ?_)
    obtain ⟨u17, hcu17, hf⟩ := bnd_t hf
    refine x_calli hW (x_runV C hW hl (wk9 (k_125)) rfl rfl (c_X11_speakerNamed hcu17) (cw_X11_173) ci_X11_speakerNamed cs_X11_speakerNamed (rm_ok (by decide) (by decide)) ⟨Nat.le_refl _, Nat.le_refl _⟩ (As := [.int u16.1]) rfl rfl (Nat.le_of_ble_eq_true rfl) dX11_readWord_39) (fun H locs hW => ?_)
    refine lv_istore_n (lv' := [(2, .int u17), (0, .ref (Z.1 125)), (1, .int p1)]) C.1 C.2.1 dX11_readWord_42 rfl hl (by decide) rfl (fun ls hl => ?_)
    refine lv_aload_n C.1 C.2.1 dX11_readWord_43 rfl (lv_at hl 1 rfl) ?_
    refine lv_iload_n C.1 C.2.1 dX11_readWord_44 rfl (lv_at hl 0 rfl) ?_
    refine lv_iconst (v := -1) C.1 C.2.1 dX11_readWord_45 (by decide) ?_
    refine x_cmpeq (tgt := 53) C hf dX11_readWord_46 (by decide) (fun hf => ?_) (fun hf => ?_)
    · refine lv_iconst (v := 0) C.1 C.2.1 dX11_readWord_53 (by decide) ?_
      exact j_X11_readWord_54 C hW (lv_sub hl [1, 2, 0] rfl) hf
    · refine lv_iconst (v := 1) C.1 C.2.1 dX11_readWord_49 (by decide) ?_
      refine lv_goto (tgt := 54) C.1 C.2.1 dX11_readWord_50 (by decide) ?_
      exact j_X11_readWord_54 C hW (lv_sub hl [1, 2, 0] rfl) hf
  · obtain rfl := Option.some.inj hf
    exact x_vret C hW dX11_readWord_33 trivial
set_option maxRecDepth 20000 in
set_option maxHeartbeats 1000000 in
theorem c_X11_readWord {l : Launch} {Z : ZT} {h : Hp} {g : Hp} {p1 : Int32} {out : Hp} (hf : f_X11_readWord g p1 = some out) : Met l yX11_readWord (wY yX11_readWord cX11_readWord 6 none) (rmD 5) (va_Pc [.ref (Z.1 125), .int p1] (Wd Z h g)) (va_Qv (fun (_ : Unit) => True) (fun _ => Wd Z h out) (FR Z)) 0 0 (FR Z) := by
  refine metX RX11 rfl (by decide +kernel) (Nat.le_of_ble_eq_true rfl) ?_
  intro p e s m args below meth c C hW ls hl
  have hl : lv_has ls 6 [(0, .ref (Z.1 125)), (1, .int p1)] := hl
  unfold f_X11_readWord at hf
  refine lv_aload_n C.1 C.2.1 dX11_readWord_0 rfl (lv_at hl 0 rfl) ?_
  refine lv_iload_n C.1 C.2.1 dX11_readWord_1 rfl (lv_at hl 1 rfl) ?_
  refine xp_X11_133 C hW (k_125) hf dX11_readWord_2 (fun g18 H locs hf hW => ?_)
  refine lv_aload_n C.1 C.2.1 dX11_readWord_5 rfl (lv_at hl 0 rfl) ?_
  refine lv_aload_n C.1 C.2.1 dX11_readWord_6 rfl (lv_at hl 0 rfl) ?_
  refine xg_X11_17 C hW (k_125) dX11_readWord_7 ?_
  refine lv_iconst (v := 3) C.1 C.2.1 dX11_readWord_10 (by decide) ?_
  refine x_ialdM C hW a_127 hf dX11_readWord_11 (fun hf => ?_)
  refine lv_bipush (v := 40) C.1 C.2.1 dX11_readWord_12 (by decide) ?_
  refine x_cmpge (tgt := 21) C hf dX11_readWord_14 (by decide) (fun hf => ?_) (fun hf => ?_)
  · refine lv_iconst (v := 0) C.1 C.2.1 dX11_readWord_21 (by decide) ?_
    exact j_X11_readWord_22 C hW (lv_sub hl [0, 1] rfl) hf
  · refine lv_iconst (v := 1) C.1 C.2.1 dX11_readWord_17 (by decide) ?_
    refine lv_goto (tgt := 22) C.1 C.2.1 dX11_readWord_18 (by decide) ?_
    exact j_X11_readWord_22 C hW (lv_sub hl [0, 1] rfl) hf
set_option maxRecDepth 20000 in
set_option maxHeartbeats 1000000 in
theorem j_X11_readBreath_22 {l : Launch} {Z : ZT} {h : Hp} {p1 : Int32} {g : Hp} {s1 : Int32} {p : Program} {e : Env} {s : State} {m : MethodId} {args : Array Value} {below : List Frame} {meth : Method} {c : Code} (C : CX p s m args meth c cX11_readBreath RX11 4 none Z) {out : Hp} {ls : Array Slot} {H : Heap} {locs : List Loc} (hW : XW Z h g s.heap H locs) (hl : lv_has ls 4 [(0, .ref (Z.1 125)), (1, .int p1)]) (hf : J_X11_readBreath_22 p1 g s1 = some out) : W p l e (rmD 3) s m args below meth c H locs 0 0 (MQ below (va_Qv (fun (_ : Unit) => True) (fun _ => Wd Z h out) (FR Z)) args s 0 0 (FR Z)) (F0 m 22 ls [.int s1, .ref (Z.1 125)]) := by
  rw [J_X11_readBreath_22] at hf
  refine lv_iconst (v := 4) C.1 C.2.1 dX11_readBreath_22 (by decide) ?_
  obtain ⟨u1, hcu1, hf⟩ := bnd_t hf
  refine x_callv hW (x_runV C hW hl (wk9 (k_125)) rfl rfl (c_X11_must hcu1) (cw_X11_162) ci_X11_must cs_X11_must (rm_ok (by decide) (by decide)) ⟨Nat.le_refl _, Nat.le_refl _⟩ (As := [.int s1, .int (4 : Int32)]) rfl rfl (Nat.le_of_ble_eq_true rfl) dX11_readBreath_23) (fun H locs hW => ?_)
  refine lv_aload_n C.1 C.2.1 dX11_readBreath_26 rfl (lv_at hl 0 rfl) ?_
  refine lv_iconst (v := 0) C.1 C.2.1 dX11_readBreath_27 (by decide) ?_
  refine lv_ldc (v := 99998) C.1 C.2.1 C.2.2.2.1 (C.2.2.1 _ mc_X11_180) dX11_readBreath_28 ?_
  obtain ⟨u2, hcu2, hf⟩ := bnd_t hf
  refine x_calli hW (x_runV C hW hl (wk9 (k_125)) rfl rfl (c_X11_number hcu2) (cw_X11_181) ci_X11_number cs_X11_number (rm_ok (by decide) (by decide)) ⟨Nat.le_refl _, Nat.le_refl _⟩ (As := [.int (0 : Int32), .int (99998 : Int32)]) rfl rfl (Nat.le_of_ble_eq_true rfl) dX11_readBreath_30) (fun H locs hW => ?_)
  refine lv_istore_n (lv' := [(2, .int u2.1), (0, .ref (Z.1 125)), (1, .int p1)]) C.1 C.2.1 dX11_readBreath_33 rfl hl (by decide) rfl (fun ls hl => ?_)
  refine lv_aload_n C.1 C.2.1 dX11_readBreath_34 rfl (lv_at hl 1 rfl) ?_
  refine lv_iload_n C.1 C.2.1 dX11_readBreath_35 rfl (lv_at hl 0 rfl) ?_
  refine lv_iconst (v := 1) C.1 C.2.1 dX11_readBreath_36 (by decide) ?_
  refine lv_iadd C.1 C.2.1 dX11_readBreath_37 ?_
  refine lv_ldc (v := 99999) C.1 C.2.1 C.2.2.2.1 (C.2.2.1 _ mc_X11_187) dX11_readBreath_38 ?_
  obtain ⟨u3, hcu3, hf⟩ := bnd_t hf
  refine x_calli hW (x_runV C hW hl (wk9 (k_125)) rfl rfl (c_X11_number hcu3) (cw_X11_181) ci_X11_number cs_X11_number (rm_ok (by decide) (by decide)) ⟨Nat.le_refl _, Nat.le_refl _⟩ (As := [.int (u2.1 + (1 : Int32)), .int (99999 : Int32)]) rfl rfl (Nat.le_of_ble_eq_true rfl) dX11_readBreath_40) (fun H locs hW => ?_)
  refine lv_istore_n (lv' := [(3, .int u3.1), (2, .int u2.1), (0, .ref (Z.1 125)), (1, .int p1)]) C.1 C.2.1 dX11_readBreath_43 rfl hl (by decide) rfl (fun ls hl => ?_)
  refine lv_aload_n C.1 C.2.1 dX11_readBreath_44 rfl (lv_at hl 2 rfl) ?_
  obtain ⟨u4, hcu4, hf⟩ := bnd_t hf
  refine x_calli hW (x_runV C hW hl (wk9 (k_125)) rfl rfl (c_X11_hasFailed hcu4) (cw_X11_125) ci_X11_hasFailed cs_X11_hasFailed (rm_ok (by decide) (by decide)) ⟨Nat.le_refl _, Nat.le_refl _⟩ (As := []) rfl rfl (Nat.le_of_ble_eq_true rfl) dX11_readBreath_45) (fun H locs hW => ?_)
  refine x_ifeq (tgt := 52) C hf dX11_readBreath_48 (by decide) (fun hf => ?_) (fun hf => ?_)
  · refine lv_aload_n C.1 C.2.1 dX11_readBreath_52 rfl (lv_at hl 2 rfl) ?_
    refine xg_X11_17 C hW (k_125) dX11_readBreath_53 ?_
    refine lv_sipush (v := 169) C.1 C.2.1 dX11_readBreath_56 (by decide) ?_
    refine lv_iconst (v := 2) C.1 C.2.1 dX11_readBreath_59 (by decide) ?_
    refine lv_aload_n C.1 C.2.1 dX11_readBreath_60 rfl (lv_at hl 2 rfl) ?_
    refine xg_X11_17 C hW (k_125) dX11_readBreath_61 ?_
    refine lv_iconst (v := 4) C.1 C.2.1 dX11_readBreath_64 (by decide) ?_
    refine x_ialdM C hW a_127 hf dX11_readBreath_65 (fun hf => ?_)
    refine lv_imul C.1 C.2.1 dX11_readBreath_66 ?_
    refine lv_iadd C.1 C.2.1 dX11_readBreath_67 ?_
    refine lv_iload_n C.1 C.2.1 dX11_readBreath_68 rfl (lv_at hl 1 rfl) ?_
    refine x_iastM C hW a_127 hf dX11_readBreath_69 (fun g5 H locs hf hW => ?_)
    refine lv_aload_n C.1 C.2.1 dX11_readBreath_70 rfl (lv_at hl 2 rfl) ?_
    refine xg_X11_17 C hW (k_125) dX11_readBreath_71 ?_
    refine lv_sipush (v := 169) C.1 C.2.1 dX11_readBreath_74 (by decide) ?_
    refine lv_iconst (v := 2) C.1 C.2.1 dX11_readBreath_77 (by decide) ?_
    refine lv_aload_n C.1 C.2.1 dX11_readBreath_78 rfl (lv_at hl 2 rfl) ?_
    refine xg_X11_17 C hW (k_125) dX11_readBreath_79 ?_
    refine lv_iconst (v := 4) C.1 C.2.1 dX11_readBreath_82 (by decide) ?_
    refine x_ialdM C hW a_127 hf dX11_readBreath_83 (fun hf => ?_)
    refine lv_imul C.1 C.2.1 dX11_readBreath_84 ?_
    refine lv_iadd C.1 C.2.1 dX11_readBreath_85 ?_
    refine lv_iconst (v := 1) C.1 C.2.1 dX11_readBreath_86 (by decide) ?_
    refine lv_iadd C.1 C.2.1 dX11_readBreath_87 ?_
    refine lv_iload_n C.1 C.2.1 dX11_readBreath_88 rfl (lv_at hl 0 rfl) ?_
    refine x_iastM C hW a_127 hf dX11_readBreath_89 (fun g6 H locs hf hW => ?_)
    refine lv_aload_n C.1 C.2.1 dX11_readBreath_90 rfl (lv_at hl 2 rfl) ?_
    refine xg_X11_17 C hW (k_125) dX11_readBreath_91 ?_
    refine lv_iconst (v := 4) C.1 C.2.1 dX11_readBreath_94 (by decide) ?_
    refine lv_dup2_11 C.1 C.2.1 dX11_readBreath_95 rfl rfl ?_
    refine x_ialdM C hW a_127 hf dX11_readBreath_96 (fun hf => ?_)
    refine lv_iconst (v := 1) C.1 C.2.1 dX11_readBreath_97 (by decide) ?_
    refine lv_iadd C.1 C.2.1 dX11_readBreath_98 ?_
    refine x_iastM C hW a_127 hf dX11_readBreath_99 (fun g7 H locs hf hW => ?_)
    obtain rfl := Option.some.inj hf
    exact x_vret C hW dX11_readBreath_100 trivial
  · obtain rfl := Option.some.inj hf
    exact x_vret C hW dX11_readBreath_51 trivial
set_option maxRecDepth 20000 in
set_option maxHeartbeats 1000000 in
theorem c_X11_readBreath {l : Launch} {Z : ZT} {h : Hp} {g : Hp} {p1 : Int32} {out : Hp} (hf : f_X11_readBreath g p1 = some out) : Met l yX11_readBreath (wY yX11_readBreath cX11_readBreath 4 none) (rmD 3) (va_Pc [.ref (Z.1 125), .int p1] (Wd Z h g)) (va_Qv (fun (_ : Unit) => True) (fun _ => Wd Z h out) (FR Z)) 0 0 (FR Z) := by
  refine metX RX11 rfl (by decide +kernel) (Nat.le_of_ble_eq_true rfl) ?_
  intro p e s m args below meth c C hW ls hl
  have hl : lv_has ls 4 [(0, .ref (Z.1 125)), (1, .int p1)] := hl
  unfold f_X11_readBreath at hf
  refine lv_aload_n C.1 C.2.1 dX11_readBreath_0 rfl (lv_at hl 0 rfl) ?_
  refine lv_iload_n C.1 C.2.1 dX11_readBreath_1 rfl (lv_at hl 1 rfl) ?_
  refine xp_X11_133 C hW (k_125) hf dX11_readBreath_2 (fun g8 H locs hf hW => ?_)
  refine lv_aload_n C.1 C.2.1 dX11_readBreath_5 rfl (lv_at hl 0 rfl) ?_
  refine lv_aload_n C.1 C.2.1 dX11_readBreath_6 rfl (lv_at hl 0 rfl) ?_
  refine xg_X11_17 C hW (k_125) dX11_readBreath_7 ?_
  refine lv_iconst (v := 4) C.1 C.2.1 dX11_readBreath_10 (by decide) ?_
  refine x_ialdM C hW a_127 hf dX11_readBreath_11 (fun hf => ?_)
  refine lv_bipush (v := 12) C.1 C.2.1 dX11_readBreath_12 (by decide) ?_
  refine x_cmpge (tgt := 21) C hf dX11_readBreath_14 (by decide) (fun hf => ?_) (fun hf => ?_)
  · refine lv_iconst (v := 0) C.1 C.2.1 dX11_readBreath_21 (by decide) ?_
    exact j_X11_readBreath_22 C hW (lv_sub hl [0, 1] rfl) hf
  · refine lv_iconst (v := 1) C.1 C.2.1 dX11_readBreath_17 (by decide) ?_
    refine lv_goto (tgt := 22) C.1 C.2.1 dX11_readBreath_18 (by decide) ?_
    exact j_X11_readBreath_22 C hW (lv_sub hl [0, 1] rfl) hf
set_option maxRecDepth 20000 in
set_option maxHeartbeats 1000000 in
theorem c_X11_readLine {l : Launch} {Z : ZT} {h : Hp} {g : Hp} {out : Hp} (hf : f_X11_readLine g = some out) : Met l yX11_readLine (wY yX11_readLine cX11_readLine 2 none) (rmD 10) (va_Pc [.ref (Z.1 125)] (Wd Z h g)) (va_Qv (fun (_ : Unit) => True) (fun _ => Wd Z h out) (FR Z)) 0 0 (FR Z) := by
  refine metX RX11 rfl (by decide +kernel) (Nat.le_of_ble_eq_true rfl) ?_
  intro p e s m args below meth c C hW ls hl
  have hl : lv_has ls 2 [(0, .ref (Z.1 125))] := hl
  unfold f_X11_readLine at hf
  refine lv_aload_n C.1 C.2.1 dX11_readLine_0 rfl (lv_at hl 0 rfl) ?_
  refine xg_X11_133 C hW (k_125) dX11_readLine_1 ?_
  refine x_istn C hf dX11_readLine_4 rfl hl (by decide) (fun v1 => [(1, .int v1), (0, .ref (Z.1 125))]) (fun _ => rfl) (fun v1 ls hf hl => ?_)
  refine lv_aload_n C.1 C.2.1 dX11_readLine_5 rfl (lv_at hl 1 rfl) ?_
  refine x_ldcS C ms_X11_195 dX11_readLine_6 ?_
  obtain ⟨u2, hcu2, hf⟩ := bnd_t hf
  refine x_calli hW (x_runV C hW hl (wk9 (k_125)) rfl rfl (c_X11_takes (by decide) hcu2) (cw_X11_196) ci_X11_takes cs_X11_takes (rm_ok (by decide) (by decide)) ⟨Nat.le_refl _, Nat.le_refl _⟩ (As := [.ref (Z.2.2.2.2 (2 * 34))]) rfl rfl (Nat.le_of_ble_eq_true rfl) dX11_readLine_8) (fun H locs hW => ?_)
  refine x_ifeq (tgt := 30) C hf dX11_readLine_11 (by decide) (fun hf => ?_) (fun hf => ?_)
  · refine lv_aload_n C.1 C.2.1 dX11_readLine_30 rfl (lv_at hl 1 rfl) ?_
    refine x_ldcS C ms_X11_199 dX11_readLine_31 ?_
    obtain ⟨u3, hcu3, hf⟩ := bnd_t hf
    refine x_calli hW (x_runV C hW hl (wk9 (k_125)) rfl rfl (c_X11_takes (by decide) hcu3) (cw_X11_196) ci_X11_takes cs_X11_takes (rm_ok (by decide) (by decide)) ⟨Nat.le_refl _, Nat.le_refl _⟩ (As := [.ref (Z.2.2.2.2 (2 * 35))]) rfl rfl (Nat.le_of_ble_eq_true rfl) dX11_readLine_33) (fun H locs hW => ?_)
    refine x_ifeq (tgt := 47) C hf dX11_readLine_36 (by decide) (fun hf => ?_) (fun hf => ?_)
    · refine lv_aload_n C.1 C.2.1 dX11_readLine_47 rfl (lv_at hl 1 rfl) ?_
      refine x_ldcS C ms_X11_204 dX11_readLine_48 ?_
      obtain ⟨u4, hcu4, hf⟩ := bnd_t hf
      refine x_calli hW (x_runV C hW hl (wk9 (k_125)) rfl rfl (c_X11_takes (by decide) hcu4) (cw_X11_196) ci_X11_takes cs_X11_takes (rm_ok (by decide) (by decide)) ⟨Nat.le_refl _, Nat.le_refl _⟩ (As := [.ref (Z.2.2.2.2 (2 * 36))]) rfl rfl (Nat.le_of_ble_eq_true rfl) dX11_readLine_50) (fun H locs hW => ?_)
      refine x_ifeq (tgt := 64) C hf dX11_readLine_53 (by decide) (fun hf => ?_) (fun hf => ?_)
      · refine lv_aload_n C.1 C.2.1 dX11_readLine_64 rfl (lv_at hl 1 rfl) ?_
        refine x_ldcS C ms_X11_209 dX11_readLine_65 ?_
        obtain ⟨u5, hcu5, hf⟩ := bnd_t hf
        refine x_calli hW (x_runV C hW hl (wk9 (k_125)) rfl rfl (c_X11_takes (by decide) hcu5) (cw_X11_196) ci_X11_takes cs_X11_takes (rm_ok (by decide) (by decide)) ⟨Nat.le_refl _, Nat.le_refl _⟩ (As := [.ref (Z.2.2.2.2 (2 * 37))]) rfl rfl (Nat.le_of_ble_eq_true rfl) dX11_readLine_67) (fun H locs hW => ?_)
        refine x_ifeq (tgt := 81) C hf dX11_readLine_70 (by decide) (fun hf => ?_) (fun hf => ?_)
        · refine lv_aload_n C.1 C.2.1 dX11_readLine_81 rfl (lv_at hl 1 rfl) ?_
          refine x_ldcS C ms_X11_214 dX11_readLine_82 ?_
          obtain ⟨u6, hcu6, hf⟩ := bnd_t hf
          refine x_calli hW (x_runV C hW hl (wk9 (k_125)) rfl rfl (c_X11_takes (by decide) hcu6) (cw_X11_196) ci_X11_takes cs_X11_takes (rm_ok (by decide) (by decide)) ⟨Nat.le_refl _, Nat.le_refl _⟩ (As := [.ref (Z.2.2.2.2 (2 * 38))]) rfl rfl (Nat.le_of_ble_eq_true rfl) dX11_readLine_84) (fun H locs hW => ?_)
          refine x_ifeq (tgt := 107) C hf dX11_readLine_87 (by decide) (fun hf => ?_) (fun hf => ?_)
          · refine lv_aload_n C.1 C.2.1 dX11_readLine_107 rfl (lv_at hl 1 rfl) ?_
            refine lv_iconst (v := 0) C.1 C.2.1 dX11_readLine_108 (by decide) ?_
            refine lv_iconst (v := 1) C.1 C.2.1 dX11_readLine_109 (by decide) ?_
            obtain ⟨u7, hcu7, hf⟩ := bnd_t hf
            refine x_callv hW (x_runV C hW hl (wk9 (k_125)) rfl rfl (c_X11_must hcu7) (cw_X11_162) ci_X11_must cs_X11_must (rm_ok (by decide) (by decide)) ⟨Nat.le_refl _, Nat.le_refl _⟩ (As := [.int (0 : Int32), .int (1 : Int32)]) rfl rfl (Nat.le_of_ble_eq_true rfl) dX11_readLine_110) (fun H locs hW => ?_)
            obtain rfl := Option.some.inj hf
            exact x_vret C hW dX11_readLine_113 trivial
          · refine lv_aload_n C.1 C.2.1 dX11_readLine_90 rfl (lv_at hl 1 rfl) ?_
            refine xg_X11_17 C hW (k_125) dX11_readLine_91 ?_
            refine lv_iconst (v := 1) C.1 C.2.1 dX11_readLine_94 (by decide) ?_
            refine lv_aload_n C.1 C.2.1 dX11_readLine_95 rfl (lv_at hl 1 rfl) ?_
            refine lv_iconst (v := 0) C.1 C.2.1 dX11_readLine_96 (by decide) ?_
            refine lv_sipush (v := 999) C.1 C.2.1 dX11_readLine_97 (by decide) ?_
            obtain ⟨u8, hcu8, hf⟩ := bnd_t hf
            refine x_calli hW (x_runV C hW hl (wk9 (k_125)) rfl rfl (c_X11_number hcu8) (cw_X11_181) ci_X11_number cs_X11_number (rm_ok (by decide) (by decide)) ⟨Nat.le_refl _, Nat.le_refl _⟩ (As := [.int (0 : Int32), .int (999 : Int32)]) rfl rfl (Nat.le_of_ble_eq_true rfl) dX11_readLine_100) (fun H locs hW => ?_)
            refine x_iastM C hW a_127 hf dX11_readLine_103 (fun g9 H locs hf hW => ?_)
            refine lv_goto (tgt := 113) C.1 C.2.1 dX11_readLine_104 (by decide) ?_
            obtain rfl := Option.some.inj hf
            exact x_vret C hW dX11_readLine_113 trivial
        · refine lv_aload_n C.1 C.2.1 dX11_readLine_73 rfl (lv_at hl 1 rfl) ?_
          refine lv_iload_n C.1 C.2.1 dX11_readLine_74 rfl (lv_at hl 0 rfl) ?_
          obtain ⟨u10, hcu10, hf⟩ := bnd_t hf
          refine x_callv hW (x_runV C hW hl (wk9 (k_125)) rfl rfl (c_X11_readBreath hcu10) (cw_X11_211) ci_X11_readBreath cs_X11_readBreath (rm_ok (by decide) (by decide)) ⟨Nat.le_refl _, Nat.le_refl _⟩ (As := [.int v1]) rfl rfl (Nat.le_of_ble_eq_true rfl) dX11_readLine_75) (fun H locs hW => ?_)
          refine lv_goto (tgt := 113) C.1 C.2.1 dX11_readLine_78 (by decide) ?_
          obtain rfl := Option.some.inj hf
          exact x_vret C hW dX11_readLine_113 trivial
      · refine lv_aload_n C.1 C.2.1 dX11_readLine_56 rfl (lv_at hl 1 rfl) ?_
        refine lv_iload_n C.1 C.2.1 dX11_readLine_57 rfl (lv_at hl 0 rfl) ?_
        obtain ⟨u11, hcu11, hf⟩ := bnd_t hf
        refine x_callv hW (x_runV C hW hl (wk9 (k_125)) rfl rfl (c_X11_readWord hcu11) (cw_X11_206) ci_X11_readWord cs_X11_readWord (rm_ok (by decide) (by decide)) ⟨Nat.le_refl _, Nat.le_refl _⟩ (As := [.int v1]) rfl rfl (Nat.le_of_ble_eq_true rfl) dX11_readLine_58) (fun H locs hW => ?_)
        refine lv_goto (tgt := 113) C.1 C.2.1 dX11_readLine_61 (by decide) ?_
        obtain rfl := Option.some.inj hf
        exact x_vret C hW dX11_readLine_113 trivial
    · refine lv_aload_n C.1 C.2.1 dX11_readLine_39 rfl (lv_at hl 1 rfl) ?_
      refine lv_iload_n C.1 C.2.1 dX11_readLine_40 rfl (lv_at hl 0 rfl) ?_
      obtain ⟨u12, hcu12, hf⟩ := bnd_t hf
      refine x_callv hW (x_runV C hW hl (wk9 (k_125)) rfl rfl (c_X11_readSpeaker hcu12) (cw_X11_201) ci_X11_readSpeaker cs_X11_readSpeaker (rm_ok (by decide) (by decide)) ⟨Nat.le_refl _, Nat.le_refl _⟩ (As := [.int v1]) rfl rfl (Nat.le_of_ble_eq_true rfl) dX11_readLine_41) (fun H locs hW => ?_)
      refine lv_goto (tgt := 113) C.1 C.2.1 dX11_readLine_44 (by decide) ?_
      obtain rfl := Option.some.inj hf
      exact x_vret C hW dX11_readLine_113 trivial
  · refine lv_aload_n C.1 C.2.1 dX11_readLine_14 rfl (lv_at hl 1 rfl) ?_
    refine xg_X11_17 C hW (k_125) dX11_readLine_15 ?_
    refine lv_iconst (v := 0) C.1 C.2.1 dX11_readLine_18 (by decide) ?_
    refine lv_aload_n C.1 C.2.1 dX11_readLine_19 rfl (lv_at hl 1 rfl) ?_
    refine lv_iconst (v := 1) C.1 C.2.1 dX11_readLine_20 (by decide) ?_
    refine lv_ldc (v := 99999) C.1 C.2.1 C.2.2.2.1 (C.2.2.1 _ mc_X11_187) dX11_readLine_21 ?_
    obtain ⟨u13, hcu13, hf⟩ := bnd_t hf
    refine x_calli hW (x_runV C hW hl (wk9 (k_125)) rfl rfl (c_X11_number hcu13) (cw_X11_181) ci_X11_number cs_X11_number (rm_ok (by decide) (by decide)) ⟨Nat.le_refl _, Nat.le_refl _⟩ (As := [.int (1 : Int32), .int (99999 : Int32)]) rfl rfl (Nat.le_of_ble_eq_true rfl) dX11_readLine_23) (fun H locs hW => ?_)
    refine x_iastM C hW a_127 hf dX11_readLine_26 (fun g14 H locs hf hW => ?_)
    refine lv_goto (tgt := 113) C.1 C.2.1 dX11_readLine_27 (by decide) ?_
    obtain rfl := Option.some.inj hf
    exact x_vret C hW dX11_readLine_113 trivial
set_option maxRecDepth 20000 in
set_option maxHeartbeats 1000000 in
theorem c_X11_beginsText {l : Launch} {Z : ZT} {h : Hp} {g : Hp} {out : Hp} (hf : f_X11_beginsText g = some out) : Met l yX11_beginsText (wY yX11_beginsText cX11_beginsText 1 none) (rmD 2) (va_Pc [.ref (Z.1 125)] (Wd Z h g)) (va_Qv (fun (_ : Unit) => True) (fun _ => Wd Z h out) (FR Z)) 0 0 (FR Z) := by
  refine metX RX11 rfl (by decide +kernel) (Nat.le_of_ble_eq_true rfl) ?_
  intro p e s m args below meth c C hW ls hl
  have hl : lv_has ls 1 [(0, .ref (Z.1 125))] := hl
  unfold f_X11_beginsText at hf
  refine lv_aload_n C.1 C.2.1 dX11_beginsText_0 rfl (lv_at hl 0 rfl) ?_
  refine lv_aload_n C.1 C.2.1 dX11_beginsText_1 rfl (lv_at hl 0 rfl) ?_
  refine xg_X11_110 C hW (k_125) dX11_beginsText_2 ?_
  refine xp_X11_122 C hW (k_125) hf dX11_beginsText_5 (fun g1 H locs hf hW => ?_)
  refine lv_aload_n C.1 C.2.1 dX11_beginsText_8 rfl (lv_at hl 0 rfl) ?_
  refine lv_iconst (v := 0) C.1 C.2.1 dX11_beginsText_9 (by decide) ?_
  refine xp_X11_110 C hW (k_125) hf dX11_beginsText_10 (fun g2 H locs hf hW => ?_)
  refine lv_aload_n C.1 C.2.1 dX11_beginsText_13 rfl (lv_at hl 0 rfl) ?_
  refine lv_iconst (v := 0) C.1 C.2.1 dX11_beginsText_14 (by decide) ?_
  refine xp_X11_119 C hW (k_125) hf dX11_beginsText_15 (fun g3 H locs hf hW => ?_)
  refine lv_aload_n C.1 C.2.1 dX11_beginsText_18 rfl (lv_at hl 0 rfl) ?_
  refine lv_iconst (v := -1) C.1 C.2.1 dX11_beginsText_19 (by decide) ?_
  refine xp_X11_116 C hW (k_125) hf dX11_beginsText_20 (fun g4 H locs hf hW => ?_)
  refine lv_aload_n C.1 C.2.1 dX11_beginsText_23 rfl (lv_at hl 0 rfl) ?_
  refine lv_iconst (v := 0) C.1 C.2.1 dX11_beginsText_24 (by decide) ?_
  refine xp_X11_136 C hW (k_125) hf dX11_beginsText_25 (fun g5 H locs hf hW => ?_)
  refine lv_aload_n C.1 C.2.1 dX11_beginsText_28 rfl (lv_at hl 0 rfl) ?_
  obtain ⟨u6, hcu6, hf⟩ := bnd_t hf
  refine x_callv hW (x_runV C hW hl (wk9 (k_125)) rfl rfl (c_X11_blanks hcu6) (cw_X11_139) ci_X11_blanks cs_X11_blanks (rm_ok (by decide) (by decide)) ⟨Nat.le_refl _, Nat.le_refl _⟩ (As := []) rfl rfl (Nat.le_of_ble_eq_true rfl) dX11_beginsText_29) (fun H locs hW => ?_)
  obtain rfl := Option.some.inj hf
  exact x_vret C hW dX11_beginsText_32 trivial
set_option maxRecDepth 20000 in
set_option maxHeartbeats 1000000 in
theorem c_X11_endsText {l : Launch} {Z : ZT} {h : Hp} {g : Hp} {out : Int32 × Hp} (hf : f_X11_endsText g = some out) : Met l yX11_endsText (wY yX11_endsText cX11_endsText 1 (some .boolean)) (rmD 1) (va_Pc [.ref (Z.1 125)] (Wd Z h g)) (va_Qi (fun r (_ : Unit) => r = out.1) (fun _ => Wd Z h out.2) (FR Z)) 0 0 (FR Z) := by
  refine metX RX11 rfl (by decide +kernel) (Nat.le_of_ble_eq_true rfl) ?_
  intro p e s m args below meth c C hW ls hl
  have hl : lv_has ls 1 [(0, .ref (Z.1 125))] := hl
  unfold f_X11_endsText at hf
  refine lv_aload_n C.1 C.2.1 dX11_endsText_0 rfl (lv_at hl 0 rfl) ?_
  refine lv_aload_n C.1 C.2.1 dX11_endsText_1 rfl (lv_at hl 0 rfl) ?_
  refine xg_X11_116 C hW (k_125) dX11_endsText_2 ?_
  refine xp_X11_54 C hW (k_125) hf dX11_endsText_5 (fun g1 H locs hf hW => ?_)
  refine lv_aload_n C.1 C.2.1 dX11_endsText_8 rfl (lv_at hl 0 rfl) ?_
  refine lv_aload_n C.1 C.2.1 dX11_endsText_9 rfl (lv_at hl 0 rfl) ?_
  refine xg_X11_136 C hW (k_125) dX11_endsText_10 ?_
  refine xp_X11_113 C hW (k_125) hf dX11_endsText_13 (fun g2 H locs hf hW => ?_)
  refine lv_aload_n C.1 C.2.1 dX11_endsText_16 rfl (lv_at hl 0 rfl) ?_
  refine lv_aload_n C.1 C.2.1 dX11_endsText_17 rfl (lv_at hl 0 rfl) ?_
  obtain ⟨u3, hcu3, hf⟩ := bnd_t hf
  refine x_calli hW (x_runV C hW hl (wk9 (k_125)) rfl rfl (c_X11_hasFailed hcu3) (cw_X11_125) ci_X11_hasFailed cs_X11_hasFailed (rm_ok (by decide) (by decide)) ⟨Nat.le_refl _, Nat.le_refl _⟩ (As := []) rfl rfl (Nat.le_of_ble_eq_true rfl) dX11_endsText_18) (fun H locs hW => ?_)
  refine lv_iconst (v := 1) C.1 C.2.1 dX11_endsText_21 (by decide) ?_
  obtain ⟨u4, hcu4, hf⟩ := bnd_t hf
  refine x_calli hW (x_runV C hW hl (wk9 (k_125)) rfl rfl (c_X11_throwsIf hcu4) (cw_X11_216) ci_X11_throwsIf cs_X11_throwsIf (rm_ok (by decide) (by decide)) ⟨Nat.le_refl _, Nat.le_refl _⟩ (As := [.int u3, .int (1 : Int32)]) rfl rfl (Nat.le_of_ble_eq_true rfl) dX11_endsText_22) (fun H locs hW => ?_)
  refine x_ifne (tgt := 32) C hf dX11_endsText_25 (by decide) (fun hf => ?_) (fun hf => ?_)
  · refine lv_iconst (v := 0) C.1 C.2.1 dX11_endsText_32 (by decide) ?_
    obtain rfl := Option.some.inj hf
    exact x_zret C hW (by decide) dX11_endsText_33 rfl
  · refine lv_iconst (v := 1) C.1 C.2.1 dX11_endsText_28 (by decide) ?_
    refine lv_goto (tgt := 33) C.1 C.2.1 dX11_endsText_29 (by decide) ?_
    obtain rfl := Option.some.inj hf
    exact x_zret C hW (by decide) dX11_endsText_33 rfl
set_option maxRecDepth 20000 in
set_option maxHeartbeats 1000000 in
theorem j_X11_load_98 {l : Launch} {Z : ZT} {h : Hp} {g : Hp} {p : Program} {e : Env} {s : State} {m : MethodId} {args : Array Value} {below : List Frame} {meth : Method} {c : Code} (C : CX p s m args meth c cX11_load RX11 2 (some .int) Z) {out : Int32 × Hp} {ls : Array Slot} {H : Heap} {locs : List Loc} (hW : XW Z h g s.heap H locs) (hl : lv_has ls 2 [(0, .ref (Z.1 125))]) (hf : J_X11_load_98 g = some out) : W p l e (rmD 11) s m args below meth c H locs 0 0 (MQ below (va_Qi (fun r (_ : Unit) => r = out.1) (fun _ => Wd Z h out.2) (FR Z)) args s 0 0 (FR Z)) (F0 m 98 ls []) := by
  rw [J_X11_load_98] at hf
  refine lv_aload_n C.1 C.2.1 dX11_load_98 rfl (lv_at hl 0 rfl) ?_
  obtain ⟨u1, hcu1, hf⟩ := bnd_t hf
  refine x_calli hW (x_runV C hW hl (wk9 (k_125)) rfl rfl (c_X11_endsText hcu1) (cw_X11_229) ci_X11_endsText cs_X11_endsText (rm_ok (by decide) (by decide)) ⟨Nat.le_refl _, Nat.le_refl _⟩ (As := []) rfl rfl (Nat.le_of_ble_eq_true rfl) dX11_load_99) (fun H locs hW => ?_)
  refine x_ifne (tgt := 107) C hf dX11_load_102 (by decide) (fun hf => ?_) (fun hf => ?_)
  · refine lv_aload_n C.1 C.2.1 dX11_load_107 rfl (lv_at hl 0 rfl) ?_
    obtain ⟨u2, hcu2, hf⟩ := bnd_t hf
    refine x_callv hW (x_runV C hW hl (wk9 (k_125)) rfl rfl (c_X11_takesOver hcu2) (cw_X11_78) ci_X11_takesOver cs_X11_takesOver (rm_ok (by decide) (by decide)) ⟨Nat.le_refl _, Nat.le_refl _⟩ (As := []) rfl rfl (Nat.le_of_ble_eq_true rfl) dX11_load_108) (fun H locs hW => ?_)
    refine lv_aload_n C.1 C.2.1 dX11_load_111 rfl (lv_at hl 0 rfl) ?_
    obtain ⟨u3, hcu3, hf⟩ := bnd_t hf
    refine x_calli hW (x_runV C hW hl (wk9 (k_125)) rfl rfl (c_X11_words hcu3) (cw_X11_90) ci_X11_words cs_X11_words (rm_ok (by decide) (by decide)) ⟨Nat.le_refl _, Nat.le_refl _⟩ (As := []) rfl rfl (Nat.le_of_ble_eq_true rfl) dX11_load_112) (fun H locs hW => ?_)
    obtain rfl := Option.some.inj hf
    exact x_iret C hW dX11_load_115 rfl
  · refine lv_iconst (v := 0) C.1 C.2.1 dX11_load_105 (by decide) ?_
    obtain rfl := Option.some.inj hf
    exact x_iret C hW dX11_load_106 rfl
set_option maxRecDepth 20000 in
set_option maxHeartbeats 1000000 in
theorem j_X11_load_88 {l : Launch} {Z : ZT} {h : Hp} {g : Hp} {r50 : Int32 × Hp → Option (Int32 × Hp)} {x1 : Int32} {s1 : Int32} {p : Program} {e : Env} {s : State} {m : MethodId} {args : Array Value} {below : List Frame} {meth : Method} {c : Code} (C : CX p s m args meth c cX11_load RX11 2 (some .int) Z) {out : Int32 × Hp} (hr50 : ∀ (x1 : Int32) (g : Hp) (ls : Array Slot) (H : Heap) (locs : List Loc), XW Z h g s.heap H locs → lv_has ls 2 [(0, .ref (Z.1 125)), (1, .int x1)] → r50 (x1, g) = some out → W p l e (rmD 11) s m args below meth c H locs 0 0 (MQ below (va_Qi (fun r (_ : Unit) => r = out.1) (fun _ => Wd Z h out.2) (FR Z)) args s 0 0 (FR Z)) (F0 m 50 ls [])) {ls : Array Slot} {H : Heap} {locs : List Loc} (hW : XW Z h g s.heap H locs) (hl : lv_has ls 2 [(0, .ref (Z.1 125)), (1, .int x1)]) (hf : J_X11_load_88 g r50 x1 s1 = some out) : W p l e (rmD 11) s m args below meth c H locs 0 0 (MQ below (va_Qi (fun r (_ : Unit) => r = out.1) (fun _ => Wd Z h out.2) (FR Z)) args s 0 0 (FR Z)) (F0 m 88 ls [.int s1, .ref (Z.1 125)]) := by
  rw [J_X11_load_88] at hf
  refine lv_iconst (v := 2) C.1 C.2.1 dX11_load_88 (by decide) ?_
  obtain ⟨u4, hcu4, hf⟩ := bnd_t hf
  refine x_callv hW (x_runV C hW hl (wk9 (k_125)) rfl rfl (c_X11_must hcu4) (cw_X11_162) ci_X11_must cs_X11_must (rm_ok (by decide) (by decide)) ⟨Nat.le_refl _, Nat.le_refl _⟩ (As := [.int s1, .int (2 : Int32)]) rfl rfl (Nat.le_of_ble_eq_true rfl) dX11_load_89) (fun H locs hW => ?_)
  refine x_iinc (w := 1) C hf dX11_load_92 hl (k := 1) rfl (by decide) (by decide) (fun v5 => [(1, .int v5), (0, .ref (Z.1 125))]) (fun _ => rfl) (fun v5 ls hf hl => ?_)
  refine lv_goto (tgt := 50) C.1 C.2.1 dX11_load_95 (by decide) ?_
  exact hr50 v5 u4 ls _ _ hW (lv_sub hl [1, 0] rfl) hf
set_option maxRecDepth 20000 in
set_option maxHeartbeats 1000000 in
theorem l_X11_load_50 {l : Launch} {Z : ZT} {h : Hp} {p : Program} {e : Env} {s : State} {m : MethodId} {args : Array Value} {below : List Frame} {meth : Method} {c : Code} (C : CX p s m args meth c cX11_load RX11 2 (some .int) Z) {out : Int32 × Hp} : ∀ (n : Nat) (x1 : Int32) (g : Hp) (ls : Array Slot) (H : Heap) (locs : List Loc), XW Z h g s.heap H locs → lv_has ls 2 [(0, .ref (Z.1 125)), (1, .int x1)] → Lp (F_X11_load_50) n (x1, g) = some out → W p l e (rmD 11) s m args below meth c H locs 0 0 (MQ below (va_Qi (fun r (_ : Unit) => r = out.1) (fun _ => Wd Z h out.2) (FR Z)) args s 0 0 (FR Z)) (F0 m 50 ls []) := by
  intro n
  induction n with
  | zero => intro x1 g ls H locs hW hl hf; cases hf
  | succ n ih =>
    intro x1 g ls H locs hW hl hf
    rw [Lp_s] at hf
    refine lv_iload_n C.1 C.2.1 dX11_load_50 rfl (lv_at hl 1 rfl) ?_
    refine lv_aload_n C.1 C.2.1 dX11_load_51 rfl (lv_at hl 0 rfl) ?_
    refine xg_X11_17 C hW (k_125) dX11_load_52 ?_
    refine lv_iconst (v := 3) C.1 C.2.1 dX11_load_55 (by decide) ?_
    refine x_ialdM C hW a_127 hf dX11_load_56 (fun hf => ?_)
    refine x_cmpge (tgt := 98) C hf dX11_load_57 (by decide) (fun hf => ?_) (fun hf => ?_)
    · exact j_X11_load_98 C hW (lv_sub hl [0] rfl) hf
    · refine lv_aload_n C.1 C.2.1 dX11_load_60 rfl (lv_at hl 0 rfl) ?_
      refine lv_aload_n C.1 C.2.1 dX11_load_61 rfl (lv_at hl 0 rfl) ?_
      refine xg_X11_17 C hW (k_125) dX11_load_62 ?_
      refine lv_bipush (v := 9) C.1 C.2.1 dX11_load_65 (by decide) ?_
      refine lv_iconst (v := 4) C.1 C.2.1 dX11_load_67 (by decide) ?_
      refine lv_iload_n C.1 C.2.1 dX11_load_68 rfl (lv_at hl 1 rfl) ?_
      refine lv_imul C.1 C.2.1 dX11_load_69 ?_
      refine lv_iadd C.1 C.2.1 dX11_load_70 ?_
      refine lv_iconst (v := 3) C.1 C.2.1 dX11_load_71 (by decide) ?_
      refine lv_iadd C.1 C.2.1 dX11_load_72 ?_
      refine x_ialdM C hW a_127 hf dX11_load_73 (fun hf => ?_)
      refine lv_aload_n C.1 C.2.1 dX11_load_74 rfl (lv_at hl 0 rfl) ?_
      refine xg_X11_17 C hW (k_125) dX11_load_75 ?_
      refine lv_iconst (v := 0) C.1 C.2.1 dX11_load_78 (by decide) ?_
      refine x_ialdM C hW a_127 hf dX11_load_79 (fun hf => ?_)
      refine x_cmpgt (tgt := 87) C hf dX11_load_80 (by decide) (fun hf => ?_) (fun hf => ?_)
      · refine lv_iconst (v := 0) C.1 C.2.1 dX11_load_87 (by decide) ?_
        exact j_X11_load_88 C (fun z0 z1 => ih z0 z1) hW (lv_sub hl [0, 1] rfl) hf
      · refine lv_iconst (v := 1) C.1 C.2.1 dX11_load_83 (by decide) ?_
        refine lv_goto (tgt := 88) C.1 C.2.1 dX11_load_84 (by decide) ?_
        exact j_X11_load_88 C (fun z0 z1 => ih z0 z1) hW (lv_sub hl [0, 1] rfl) hf
set_option maxRecDepth 20000 in
set_option maxHeartbeats 1000000 in
theorem j_X11_load_48 {l : Launch} {Z : ZT} {h : Hp} {g : Hp} {p : Program} {e : Env} {s : State} {m : MethodId} {args : Array Value} {below : List Frame} {meth : Method} {c : Code} (C : CX p s m args meth c cX11_load RX11 2 (some .int) Z) {out : Int32 × Hp} {ls : Array Slot} {H : Heap} {locs : List Loc} (hW : XW Z h g s.heap H locs) (hl : lv_has ls 2 [(0, .ref (Z.1 125))]) (hf : J_X11_load_48 g = some out) : W p l e (rmD 11) s m args below meth c H locs 0 0 (MQ below (va_Qi (fun r (_ : Unit) => r = out.1) (fun _ => Wd Z h out.2) (FR Z)) args s 0 0 (FR Z)) (F0 m 48 ls []) := by
  refine lv_iconst (v := 0) C.1 C.2.1 dX11_load_48 (by decide) ?_
  refine lv_istore_n (lv' := [(1, .int (0 : Int32)), (0, .ref (Z.1 125))]) C.1 C.2.1 dX11_load_49 rfl hl (by decide) rfl (fun ls hl => ?_)
  exact l_X11_load_50 C FU (0 : Int32) g ls _ _ hW (lv_sub hl [1, 0] rfl) hf
set_option maxRecDepth 20000 in
set_option maxHeartbeats 1000000 in
theorem l_X11_load_13 {l : Launch} {Z : ZT} {h : Hp} {p : Program} {e : Env} {s : State} {m : MethodId} {args : Array Value} {below : List Frame} {meth : Method} {c : Code} (C : CX p s m args meth c cX11_load RX11 2 (some .int) Z) {out : Int32 × Hp} : ∀ (n : Nat) (g : Hp) (ls : Array Slot) (H : Heap) (locs : List Loc), XW Z h g s.heap H locs → lv_has ls 2 [(0, .ref (Z.1 125))] → Lp (F_X11_load_13) n g = some out → W p l e (rmD 11) s m args below meth c H locs 0 0 (MQ below (va_Qi (fun r (_ : Unit) => r = out.1) (fun _ => Wd Z h out.2) (FR Z)) args s 0 0 (FR Z)) (F0 m 13 ls []) := by
  intro n
  induction n with
  | zero => intro g ls H locs hW hl hf; cases hf
  | succ n ih =>
    intro g ls H locs hW hl hf
    rw [Lp_s] at hf
    rw [F_X11_load_13] at hf
    try dsimp only at hf
    refine lv_aload_n C.1 C.2.1 dX11_load_13 rfl (lv_at hl 0 rfl) ?_
    obtain ⟨u6, hcu6, hf⟩ := bnd_t hf
    refine x_calli hW (x_runV C hW hl (wk9 (k_125)) rfl rfl (c_X11_hasFailed hcu6) (cw_X11_125) ci_X11_hasFailed cs_X11_hasFailed (rm_ok (by decide) (by decide)) ⟨Nat.le_refl _, Nat.le_refl _⟩ (As := []) rfl rfl (Nat.le_of_ble_eq_true rfl) dX11_load_14) (fun H locs hW => ?_)
    refine x_ifne (tgt := 48) C hf dX11_load_17 (by decide) (fun hf => ?_) (fun hf => ?_)
    · exact j_X11_load_48 C hW (lv_sub hl [0] rfl) hf
    · refine lv_aload_n C.1 C.2.1 dX11_load_20 rfl (lv_at hl 0 rfl) ?_
      refine xg_X11_119 C hW (k_125) dX11_load_21 ?_
      refine lv_aload_n C.1 C.2.1 dX11_load_24 rfl (lv_at hl 0 rfl) ?_
      refine xg_X11_122 C hW (k_125) dX11_load_25 ?_
      refine x_cmpge (tgt := 48) C hf dX11_load_28 (by decide) (fun hf => ?_) (fun hf => ?_)
      · exact j_X11_load_48 C hW (lv_sub hl [0] rfl) hf
      · refine lv_aload_n C.1 C.2.1 dX11_load_31 rfl (lv_at hl 0 rfl) ?_
        obtain ⟨u7, hcu7, hf⟩ := bnd_t hf
        refine x_callv hW (x_runV C hW hl (wk9 (k_125)) rfl rfl (c_X11_readLine hcu7) (cw_X11_223) ci_X11_readLine cs_X11_readLine (rm_ok (by decide) (by decide)) ⟨Nat.le_refl _, Nat.le_refl _⟩ (As := []) rfl rfl (Nat.le_of_ble_eq_true rfl) dX11_load_32) (fun H locs hW => ?_)
        refine lv_aload_n C.1 C.2.1 dX11_load_35 rfl (lv_at hl 0 rfl) ?_
        refine lv_bipush (v := 59) C.1 C.2.1 dX11_load_36 (by decide) ?_
        obtain ⟨u8, hcu8, hf⟩ := bnd_t hf
        refine x_callv hW (x_runV C hW hl (wk9 (k_125)) rfl rfl (c_X11_needs hcu8) (cw_X11_226) ci_X11_needs cs_X11_needs (rm_ok (by decide) (by decide)) ⟨Nat.le_refl _, Nat.le_refl _⟩ (As := [.int (59 : Int32)]) rfl rfl (Nat.le_of_ble_eq_true rfl) dX11_load_38) (fun H locs hW => ?_)
        refine lv_aload_n C.1 C.2.1 dX11_load_41 rfl (lv_at hl 0 rfl) ?_
        obtain ⟨u9, hcu9, hf⟩ := bnd_t hf
        refine x_callv hW (x_runV C hW hl (wk9 (k_125)) rfl rfl (c_X11_blanks hcu9) (cw_X11_139) ci_X11_blanks cs_X11_blanks (rm_ok (by decide) (by decide)) ⟨Nat.le_refl _, Nat.le_refl _⟩ (As := []) rfl rfl (Nat.le_of_ble_eq_true rfl) dX11_load_42) (fun H locs hW => ?_)
        refine lv_goto (tgt := 13) C.1 C.2.1 dX11_load_45 (by decide) ?_
        exact ih u9 ls _ _ hW (lv_sub hl [0] rfl) hf
set_option maxRecDepth 20000 in
set_option maxHeartbeats 1000000 in
theorem c_X11_load {l : Launch} {Z : ZT} {h : Hp} {g : Hp} {out : Int32 × Hp} (hf : f_X11_load g = some out) : Met l yX11_load (wY yX11_load cX11_load 2 (some .int)) (rmD 11) (va_Pc [.ref (Z.1 125)] (Wd Z h g)) (va_Qi (fun r (_ : Unit) => r = out.1) (fun _ => Wd Z h out.2) (FR Z)) 0 0 (FR Z) := by
  refine metX RX11 rfl (by decide +kernel) (Nat.le_of_ble_eq_true rfl) ?_
  intro p e s m args below meth c C hW ls hl
  have hl : lv_has ls 2 [(0, .ref (Z.1 125))] := hl
  unfold f_X11_load at hf
  refine lv_aload_n C.1 C.2.1 dX11_load_0 rfl (lv_at hl 0 rfl) ?_
  refine lv_iconst (v := 0) C.1 C.2.1 dX11_load_1 (by decide) ?_
  refine xp_X11_3 C hW (k_125) hf dX11_load_2 (fun g10 H locs hf hW => ?_)
  refine lv_aload_n C.1 C.2.1 dX11_load_5 rfl (lv_at hl 0 rfl) ?_
  obtain ⟨u11, hcu11, hf⟩ := bnd_t hf
  refine x_callv hW (x_runV C hW hl (wk9 (k_125)) rfl rfl (c_X11_begins hcu11) (cw_X11_75) ci_X11_begins cs_X11_begins (rm_ok (by decide) (by decide)) ⟨Nat.le_refl _, Nat.le_refl _⟩ (As := []) rfl rfl (Nat.le_of_ble_eq_true rfl) dX11_load_6) (fun H locs hW => ?_)
  refine lv_aload_n C.1 C.2.1 dX11_load_9 rfl (lv_at hl 0 rfl) ?_
  obtain ⟨u12, hcu12, hf⟩ := bnd_t hf
  refine x_callv hW (x_runV C hW hl (wk9 (k_125)) rfl rfl (c_X11_beginsText hcu12) (cw_X11_220) ci_X11_beginsText cs_X11_beginsText (rm_ok (by decide) (by decide)) ⟨Nat.le_refl _, Nat.le_refl _⟩ (As := []) rfl rfl (Nat.le_of_ble_eq_true rfl) dX11_load_10) (fun H locs hW => ?_)
  exact l_X11_load_13 C FU u12 ls _ _ hW (lv_sub hl [0] rfl) hf
set_option maxRecDepth 20000 in
set_option maxHeartbeats 1000000 in
theorem c_X11_drafts {l : Launch} {Z : ZT} {h : Hp} {g : Hp} {p1 : Int32} {out : Hp} (hf : f_X11_drafts g p1 = some out) : Met l yX11_drafts (wY yX11_drafts cX11_drafts 2 none) (rmD 0) (va_Pc [.ref (Z.1 125), .int p1] (Wd Z h g)) (va_Qv (fun (_ : Unit) => True) (fun _ => Wd Z h out) (FR Z)) 0 0 (FR Z) := by
  refine metX RX11 rfl (by decide +kernel) (Nat.le_of_ble_eq_true rfl) ?_
  intro p e s m args below meth c C hW ls hl
  have hl : lv_has ls 2 [(0, .ref (Z.1 125)), (1, .int p1)] := hl
  unfold f_X11_drafts at hf
  refine lv_aload_n C.1 C.2.1 dX11_drafts_0 rfl (lv_at hl 0 rfl) ?_
  refine xg_X11_60 C hW (k_125) dX11_drafts_1 ?_
  refine lv_aload_n C.1 C.2.1 dX11_drafts_4 rfl (lv_at hl 0 rfl) ?_
  refine xg_X11_232 C hW (k_125) dX11_drafts_5 ?_
  refine lv_iload_n C.1 C.2.1 dX11_drafts_8 rfl (lv_at hl 1 rfl) ?_
  refine x_iastM C hW a_140 hf dX11_drafts_9 (fun g1 H locs hf hW => ?_)
  refine lv_aload_n C.1 C.2.1 dX11_drafts_10 rfl (lv_at hl 0 rfl) ?_
  refine lv_dup C.1 C.2.1 dX11_drafts_11 rfl ?_
  refine xg_X11_232 C hW (k_125) dX11_drafts_12 ?_
  refine lv_iconst (v := 1) C.1 C.2.1 dX11_drafts_15 (by decide) ?_
  refine lv_iadd C.1 C.2.1 dX11_drafts_16 ?_
  refine xp_X11_232 C hW (k_125) hf dX11_drafts_17 (fun g2 H locs hf hW => ?_)
  obtain rfl := Option.some.inj hf
  exact x_vret C hW dX11_drafts_20 trivial
set_option maxRecDepth 20000 in
set_option maxHeartbeats 1000000 in
theorem j_X11_readPhrase_107 {l : Launch} {Z : ZT} {h : Hp} {g : Hp} {p : Program} {e : Env} {s : State} {m : MethodId} {args : Array Value} {below : List Frame} {meth : Method} {c : Code} (C : CX p s m args meth c cX11_readPhrase RX11 4 none Z) {out : Hp} {ls : Array Slot} {H : Heap} {locs : List Loc} (hW : XW Z h g s.heap H locs) (hl : lv_has ls 4 [(0, .ref (Z.1 125))]) (hf : J_X11_readPhrase_107 g = some out) : W p l e (rmD 4) s m args below meth c H locs 0 0 (MQ below (va_Qv (fun (_ : Unit) => True) (fun _ => Wd Z h out) (FR Z)) args s 0 0 (FR Z)) (F0 m 107 ls []) := by
  rw [J_X11_readPhrase_107] at hf
  refine lv_aload_n C.1 C.2.1 dX11_readPhrase_107 rfl (lv_at hl 0 rfl) ?_
  refine lv_bipush (v := 41) C.1 C.2.1 dX11_readPhrase_108 (by decide) ?_
  obtain ⟨u1, hcu1, hf⟩ := bnd_t hf
  refine x_callv hW (x_runV C hW hl (wk9 (k_125)) rfl rfl (c_X11_needs hcu1) (cw_X11_226) ci_X11_needs cs_X11_needs (rm_ok (by decide) (by decide)) ⟨Nat.le_refl _, Nat.le_refl _⟩ (As := [.int (41 : Int32)]) rfl rfl (Nat.le_of_ble_eq_true rfl) dX11_readPhrase_110) (fun H locs hW => ?_)
  obtain rfl := Option.some.inj hf
  exact x_vret C hW dX11_readPhrase_113 trivial
set_option maxRecDepth 20000 in
set_option maxHeartbeats 1000000 in
theorem j_X11_readPhrase_103 {l : Launch} {Z : ZT} {h : Hp} {g : Hp} {r18 : Int32 × Hp → Option (Hp)} {x1 : Int32} {s0 : Int32} {p : Program} {e : Env} {s : State} {m : MethodId} {args : Array Value} {below : List Frame} {meth : Method} {c : Code} (C : CX p s m args meth c cX11_readPhrase RX11 4 none Z) {out : Hp} (hr18 : ∀ (x2 : Int32) (g : Hp) (ls : Array Slot) (H : Heap) (locs : List Loc), XW Z h g s.heap H locs → lv_has ls 4 [(0, .ref (Z.1 125)), (1, .int x1), (2, .int x2)] → r18 (x2, g) = some out → W p l e (rmD 4) s m args below meth c H locs 0 0 (MQ below (va_Qv (fun (_ : Unit) => True) (fun _ => Wd Z h out) (FR Z)) args s 0 0 (FR Z)) (F0 m 18 ls [])) {ls : Array Slot} {H : Heap} {locs : List Loc} (hW : XW Z h g s.heap H locs) (hl : lv_has ls 4 [(0, .ref (Z.1 125)), (1, .int x1)]) (hf : J_X11_readPhrase_103 g r18 x1 s0 = some out) : W p l e (rmD 4) s m args below meth c H locs 0 0 (MQ below (va_Qv (fun (_ : Unit) => True) (fun _ => Wd Z h out) (FR Z)) args s 0 0 (FR Z)) (F0 m 103 ls [.int s0]) := by
  refine lv_istore_n (lv' := [(2, .int s0), (0, .ref (Z.1 125)), (1, .int x1)]) C.1 C.2.1 dX11_readPhrase_103 rfl hl (by decide) rfl (fun ls hl => ?_)
  refine lv_goto (tgt := 18) C.1 C.2.1 dX11_readPhrase_104 (by decide) ?_
  exact hr18 s0 g ls _ _ hW (lv_sub hl [1, 2, 0] rfl) hf
set_option maxRecDepth 20000 in
set_option maxHeartbeats 1000000 in
theorem j_X11_readPhrase_51 {l : Launch} {Z : ZT} {h : Hp} {g : Hp} {r18 : Int32 × Hp → Option (Hp)} {x1 : Int32} {x3 : Int32} {s1 : Int32} {p : Program} {e : Env} {s : State} {m : MethodId} {args : Array Value} {below : List Frame} {meth : Method} {c : Code} (C : CX p s m args meth c cX11_readPhrase RX11 4 none Z) {out : Hp} (hr18 : ∀ (x2 : Int32) (g : Hp) (ls : Array Slot) (H : Heap) (locs : List Loc), XW Z h g s.heap H locs → lv_has ls 4 [(0, .ref (Z.1 125)), (1, .int x1), (2, .int x2)] → r18 (x2, g) = some out → W p l e (rmD 4) s m args below meth c H locs 0 0 (MQ below (va_Qv (fun (_ : Unit) => True) (fun _ => Wd Z h out) (FR Z)) args s 0 0 (FR Z)) (F0 m 18 ls [])) {ls : Array Slot} {H : Heap} {locs : List Loc} (hW : XW Z h g s.heap H locs) (hl : lv_has ls 4 [(0, .ref (Z.1 125)), (1, .int x1), (3, .int x3)]) (hf : J_X11_readPhrase_51 g r18 x1 x3 s1 = some out) : W p l e (rmD 4) s m args below meth c H locs 0 0 (MQ below (va_Qv (fun (_ : Unit) => True) (fun _ => Wd Z h out) (FR Z)) args s 0 0 (FR Z)) (F0 m 51 ls [.int s1, .ref (Z.1 125)]) := by
  rw [J_X11_readPhrase_51] at hf
  refine lv_iconst (v := 4) C.1 C.2.1 dX11_readPhrase_51 (by decide) ?_
  obtain ⟨u2, hcu2, hf⟩ := bnd_t hf
  refine x_callv hW (x_runV C hW hl (wk9 (k_125)) rfl rfl (c_X11_must hcu2) (cw_X11_162) ci_X11_must cs_X11_must (rm_ok (by decide) (by decide)) ⟨Nat.le_refl _, Nat.le_refl _⟩ (As := [.int s1, .int (4 : Int32)]) rfl rfl (Nat.le_of_ble_eq_true rfl) dX11_readPhrase_52) (fun H locs hW => ?_)
  refine lv_aload_n C.1 C.2.1 dX11_readPhrase_55 rfl (lv_at hl 0 rfl) ?_
  obtain ⟨u3, hcu3, hf⟩ := bnd_t hf
  refine x_calli hW (x_runV C hW hl (wk9 (k_125)) rfl rfl (c_X11_hasFailed hcu3) (cw_X11_125) ci_X11_hasFailed cs_X11_hasFailed (rm_ok (by decide) (by decide)) ⟨Nat.le_refl _, Nat.le_refl _⟩ (As := []) rfl rfl (Nat.le_of_ble_eq_true rfl) dX11_readPhrase_56) (fun H locs hW => ?_)
  refine x_ifeq (tgt := 63) C hf dX11_readPhrase_59 (by decide) (fun hf => ?_) (fun hf => ?_)
  · refine lv_aload_n C.1 C.2.1 dX11_readPhrase_63 rfl (lv_at hl 0 rfl) ?_
    refine lv_dup C.1 C.2.1 dX11_readPhrase_64 rfl ?_
    refine xg_X11_119 C hW (k_125) dX11_readPhrase_65 ?_
    refine lv_aload_n C.1 C.2.1 dX11_readPhrase_68 rfl (lv_at hl 0 rfl) ?_
    obtain ⟨u4, hcu4, hf⟩ := bnd_t hf
    refine x_calli hW (x_runV C hW hl (wk9 (k_125)) rfl rfl (c_X11_letters hcu4) (cw_X11_142) ci_X11_letters cs_X11_letters (rm_ok (by decide) (by decide)) ⟨Nat.le_refl _, Nat.le_refl _⟩ (As := []) rfl rfl (Nat.le_of_ble_eq_true rfl) dX11_readPhrase_69) (fun H locs hW => ?_)
    refine lv_iadd C.1 C.2.1 dX11_readPhrase_72 ?_
    refine xp_X11_119 C hW (k_125) hf dX11_readPhrase_73 (fun g5 H locs hf hW => ?_)
    refine lv_aload_n C.1 C.2.1 dX11_readPhrase_76 rfl (lv_at hl 0 rfl) ?_
    refine lv_iload_n C.1 C.2.1 dX11_readPhrase_77 rfl (lv_at hl 2 rfl) ?_
    obtain ⟨u6, hcu6, hf⟩ := bnd_t hf
    refine x_callv hW (x_runV C hW hl (wk9 (k_125)) rfl rfl (c_X11_drafts hcu6) (cw_X11_235) ci_X11_drafts cs_X11_drafts (rm_ok (by decide) (by decide)) ⟨Nat.le_refl _, Nat.le_refl _⟩ (As := [.int x3]) rfl rfl (Nat.le_of_ble_eq_true rfl) dX11_readPhrase_78) (fun H locs hW => ?_)
    refine lv_aload_n C.1 C.2.1 dX11_readPhrase_81 rfl (lv_at hl 0 rfl) ?_
    refine xg_X11_60 C hW (k_125) dX11_readPhrase_82 ?_
    refine lv_iload_n C.1 C.2.1 dX11_readPhrase_85 rfl (lv_at hl 1 rfl) ?_
    refine lv_dup2_11 C.1 C.2.1 dX11_readPhrase_86 rfl rfl ?_
    refine x_ialdM C hW a_140 hf dX11_readPhrase_87 (fun hf => ?_)
    refine lv_iconst (v := 1) C.1 C.2.1 dX11_readPhrase_88 (by decide) ?_
    refine lv_iadd C.1 C.2.1 dX11_readPhrase_89 ?_
    refine x_iastM C hW a_140 hf dX11_readPhrase_90 (fun g7 H locs hf hW => ?_)
    refine lv_aload_n C.1 C.2.1 dX11_readPhrase_91 rfl (lv_at hl 0 rfl) ?_
    obtain ⟨u8, hcu8, hf⟩ := bnd_t hf
    refine x_calli hW (x_runV C hW hl (wk9 (k_125)) rfl rfl (c_X11_letters hcu8) (cw_X11_142) ci_X11_letters cs_X11_letters (rm_ok (by decide) (by decide)) ⟨Nat.le_refl _, Nat.le_refl _⟩ (As := []) rfl rfl (Nat.le_of_ble_eq_true rfl) dX11_readPhrase_92) (fun H locs hW => ?_)
    refine x_ifle (tgt := 102) C hf dX11_readPhrase_95 (by decide) (fun hf => ?_) (fun hf => ?_)
    · refine lv_iconst (v := 0) C.1 C.2.1 dX11_readPhrase_102 (by decide) ?_
      exact j_X11_readPhrase_103 C hr18 hW (lv_sub hl [0, 1] rfl) hf
    · refine lv_iconst (v := 1) C.1 C.2.1 dX11_readPhrase_98 (by decide) ?_
      refine lv_goto (tgt := 103) C.1 C.2.1 dX11_readPhrase_99 (by decide) ?_
      exact j_X11_readPhrase_103 C hr18 hW (lv_sub hl [0, 1] rfl) hf
  · obtain rfl := Option.some.inj hf
    exact x_vret C hW dX11_readPhrase_62 trivial
set_option maxRecDepth 20000 in
set_option maxHeartbeats 1000000 in
theorem l_X11_readPhrase_18 {l : Launch} {Z : ZT} {h : Hp} {x1 : Int32} {p : Program} {e : Env} {s : State} {m : MethodId} {args : Array Value} {below : List Frame} {meth : Method} {c : Code} (C : CX p s m args meth c cX11_readPhrase RX11 4 none Z) {out : Hp} : ∀ (n : Nat) (x2 : Int32) (g : Hp) (ls : Array Slot) (H : Heap) (locs : List Loc), XW Z h g s.heap H locs → lv_has ls 4 [(0, .ref (Z.1 125)), (1, .int x1), (2, .int x2)] → Lp (F_X11_readPhrase_18 x1) n (x2, g) = some out → W p l e (rmD 4) s m args below meth c H locs 0 0 (MQ below (va_Qv (fun (_ : Unit) => True) (fun _ => Wd Z h out) (FR Z)) args s 0 0 (FR Z)) (F0 m 18 ls []) := by
  intro n
  induction n with
  | zero => intro x2 g ls H locs hW hl hf; cases hf
  | succ n ih =>
    intro x2 g ls H locs hW hl hf
    rw [Lp_s] at hf
    refine lv_iload_n C.1 C.2.1 dX11_readPhrase_18 rfl (lv_at hl 2 rfl) ?_
    refine x_ifeq (tgt := 107) C hf dX11_readPhrase_19 (by decide) (fun hf => ?_) (fun hf => ?_)
    · exact j_X11_readPhrase_107 C hW (lv_sub hl [0] rfl) hf
    · refine lv_aload_n C.1 C.2.1 dX11_readPhrase_22 rfl (lv_at hl 0 rfl) ?_
      obtain ⟨u9, hcu9, hf⟩ := bnd_t hf
      refine x_calli hW (x_runV C hW hl (wk9 (k_125)) rfl rfl (c_X11_hasFailed hcu9) (cw_X11_125) ci_X11_hasFailed cs_X11_hasFailed (rm_ok (by decide) (by decide)) ⟨Nat.le_refl _, Nat.le_refl _⟩ (As := []) rfl rfl (Nat.le_of_ble_eq_true rfl) dX11_readPhrase_23) (fun H locs hW => ?_)
      refine x_ifne (tgt := 107) C hf dX11_readPhrase_26 (by decide) (fun hf => ?_) (fun hf => ?_)
      · exact j_X11_readPhrase_107 C hW (lv_sub hl [0] rfl) hf
      · refine lv_aload_n C.1 C.2.1 dX11_readPhrase_29 rfl (lv_at hl 0 rfl) ?_
        obtain ⟨u10, hcu10, hf⟩ := bnd_t hf
        refine x_calli hW (x_runV C hW hl (wk9 (k_125)) rfl rfl (c_X11_seesName hcu10) (cw_X11_170) ci_X11_seesName cs_X11_seesName (rm_ok (by decide) (by decide)) ⟨Nat.le_refl _, Nat.le_refl _⟩ (As := []) rfl rfl (Nat.le_of_ble_eq_true rfl) dX11_readPhrase_30) (fun H locs hW => ?_)
        refine lv_istore_n (lv' := [(3, .int u10.1), (0, .ref (Z.1 125)), (1, .int x1), (2, .int x2)]) C.1 C.2.1 dX11_readPhrase_33 rfl hl (by decide) rfl (fun ls hl => ?_)
        refine lv_aload_n C.1 C.2.1 dX11_readPhrase_34 rfl (lv_at hl 1 rfl) ?_
        refine lv_aload_n C.1 C.2.1 dX11_readPhrase_35 rfl (lv_at hl 1 rfl) ?_
        refine xg_X11_60 C hW (k_125) dX11_readPhrase_36 ?_
        refine lv_iload_n C.1 C.2.1 dX11_readPhrase_39 rfl (lv_at hl 2 rfl) ?_
        refine x_ialdM C hW a_140 hf dX11_readPhrase_40 (fun hf => ?_)
        refine lv_bipush (v := 6) C.1 C.2.1 dX11_readPhrase_41 (by decide) ?_
        refine x_cmpge (tgt := 50) C hf dX11_readPhrase_43 (by decide) (fun hf => ?_) (fun hf => ?_)
        · refine lv_iconst (v := 0) C.1 C.2.1 dX11_readPhrase_50 (by decide) ?_
          exact j_X11_readPhrase_51 C (fun z0 z1 => ih z0 z1) hW (lv_sub hl [1, 2, 0] rfl) hf
        · refine lv_iconst (v := 1) C.1 C.2.1 dX11_readPhrase_46 (by decide) ?_
          refine lv_goto (tgt := 51) C.1 C.2.1 dX11_readPhrase_47 (by decide) ?_
          exact j_X11_readPhrase_51 C (fun z0 z1 => ih z0 z1) hW (lv_sub hl [1, 2, 0] rfl) hf
set_option maxRecDepth 20000 in
set_option maxHeartbeats 1000000 in
theorem c_X11_readPhrase {l : Launch} {Z : ZT} {h : Hp} {g : Hp} {out : Hp} (hf : f_X11_readPhrase g = some out) : Met l yX11_readPhrase (wY yX11_readPhrase cX11_readPhrase 4 none) (rmD 4) (va_Pc [.ref (Z.1 125)] (Wd Z h g)) (va_Qv (fun (_ : Unit) => True) (fun _ => Wd Z h out) (FR Z)) 0 0 (FR Z) := by
  refine metX RX11 rfl (by decide +kernel) (Nat.le_of_ble_eq_true rfl) ?_
  intro p e s m args below meth c C hW ls hl
  have hl : lv_has ls 4 [(0, .ref (Z.1 125))] := hl
  unfold f_X11_readPhrase at hf
  refine lv_aload_n C.1 C.2.1 dX11_readPhrase_0 rfl (lv_at hl 0 rfl) ?_
  refine lv_bipush (v := 40) C.1 C.2.1 dX11_readPhrase_1 (by decide) ?_
  obtain ⟨u11, hcu11, hf⟩ := bnd_t hf
  refine x_callv hW (x_runV C hW hl (wk9 (k_125)) rfl rfl (c_X11_needs hcu11) (cw_X11_226) ci_X11_needs cs_X11_needs (rm_ok (by decide) (by decide)) ⟨Nat.le_refl _, Nat.le_refl _⟩ (As := [.int (40 : Int32)]) rfl rfl (Nat.le_of_ble_eq_true rfl) dX11_readPhrase_3) (fun H locs hW => ?_)
  refine lv_aload_n C.1 C.2.1 dX11_readPhrase_6 rfl (lv_at hl 0 rfl) ?_
  refine xg_X11_232 C hW (k_125) dX11_readPhrase_7 ?_
  refine x_istn C hf dX11_readPhrase_10 rfl hl (by decide) (fun v12 => [(1, .int v12), (0, .ref (Z.1 125))]) (fun _ => rfl) (fun v12 ls hf hl => ?_)
  refine lv_aload_n C.1 C.2.1 dX11_readPhrase_11 rfl (lv_at hl 1 rfl) ?_
  refine lv_iconst (v := 0) C.1 C.2.1 dX11_readPhrase_12 (by decide) ?_
  obtain ⟨u13, hcu13, hf⟩ := bnd_t hf
  refine x_callv hW (x_runV C hW hl (wk9 (k_125)) rfl rfl (c_X11_drafts hcu13) (cw_X11_235) ci_X11_drafts cs_X11_drafts (rm_ok (by decide) (by decide)) ⟨Nat.le_refl _, Nat.le_refl _⟩ (As := [.int (0 : Int32)]) rfl rfl (Nat.le_of_ble_eq_true rfl) dX11_readPhrase_13) (fun H locs hW => ?_)
  refine lv_iconst (v := 1) C.1 C.2.1 dX11_readPhrase_16 (by decide) ?_
  refine lv_istore_n (lv' := [(2, .int (1 : Int32)), (1, .int v12), (0, .ref (Z.1 125))]) C.1 C.2.1 dX11_readPhrase_17 rfl hl (by decide) rfl (fun ls hl => ?_)
  exact l_X11_readPhrase_18 C FU (1 : Int32) u13 ls _ _ hW (lv_sub hl [2, 1, 0] rfl) hf
set_option maxRecDepth 20000 in
set_option maxHeartbeats 1000000 in
theorem c_X11_commandHere {l : Launch} {Z : ZT} {h : Hp} {g : Hp} {out : Int32 × Hp} (hf : f_X11_commandHere g = some out) : Met l yX11_commandHere (wY yX11_commandHere cX11_commandHere 1 (some .int)) (rmD 9) (va_Pc [.ref (Z.1 125)] (Wd Z h g)) (va_Qi (fun r (_ : Unit) => r = out.1) (fun _ => Wd Z h out.2) (FR Z)) 0 0 (FR Z) := by
  refine metX RX11 rfl (by decide +kernel) (Nat.le_of_ble_eq_true rfl) ?_
  intro p e s m args below meth c C hW ls hl
  have hl : lv_has ls 1 [(0, .ref (Z.1 125))] := hl
  unfold f_X11_commandHere at hf
  refine lv_aload_n C.1 C.2.1 dX11_commandHere_0 rfl (lv_at hl 0 rfl) ?_
  refine x_ldcS C ms_X11_238 dX11_commandHere_1 ?_
  obtain ⟨u1, hcu1, hf⟩ := bnd_t hf
  refine x_calli hW (x_runV C hW hl (wk9 (k_125)) rfl rfl (c_X11_isWord (by decide) hcu1) (cw_X11_154) ci_X11_isWord cs_X11_isWord (rm_ok (by decide) (by decide)) ⟨Nat.le_refl _, Nat.le_refl _⟩ (As := [.ref (Z.2.2.2.2 (2 * 39))]) rfl rfl (Nat.le_of_ble_eq_true rfl) dX11_commandHere_3) (fun H locs hW => ?_)
  refine x_ifeq (tgt := 13) C hf dX11_commandHere_6 (by decide) (fun hf => ?_) (fun hf => ?_)
  · refine lv_aload_n C.1 C.2.1 dX11_commandHere_13 rfl (lv_at hl 0 rfl) ?_
    refine x_ldcS C ms_X11_240 dX11_commandHere_14 ?_
    obtain ⟨u2, hcu2, hf⟩ := bnd_t hf
    refine x_calli hW (x_runV C hW hl (wk9 (k_125)) rfl rfl (c_X11_isWord (by decide) hcu2) (cw_X11_154) ci_X11_isWord cs_X11_isWord (rm_ok (by decide) (by decide)) ⟨Nat.le_refl _, Nat.le_refl _⟩ (As := [.ref (Z.2.2.2.2 (2 * 40))]) rfl rfl (Nat.le_of_ble_eq_true rfl) dX11_commandHere_16) (fun H locs hW => ?_)
    refine x_ifeq (tgt := 26) C hf dX11_commandHere_19 (by decide) (fun hf => ?_) (fun hf => ?_)
    · refine lv_aload_n C.1 C.2.1 dX11_commandHere_26 rfl (lv_at hl 0 rfl) ?_
      refine x_ldcS C ms_X11_242 dX11_commandHere_27 ?_
      obtain ⟨u3, hcu3, hf⟩ := bnd_t hf
      refine x_calli hW (x_runV C hW hl (wk9 (k_125)) rfl rfl (c_X11_isWord (by decide) hcu3) (cw_X11_154) ci_X11_isWord cs_X11_isWord (rm_ok (by decide) (by decide)) ⟨Nat.le_refl _, Nat.le_refl _⟩ (As := [.ref (Z.2.2.2.2 (2 * 41))]) rfl rfl (Nat.le_of_ble_eq_true rfl) dX11_commandHere_29) (fun H locs hW => ?_)
      refine x_ifeq (tgt := 39) C hf dX11_commandHere_32 (by decide) (fun hf => ?_) (fun hf => ?_)
      · refine lv_aload_n C.1 C.2.1 dX11_commandHere_39 rfl (lv_at hl 0 rfl) ?_
        refine x_ldcS C ms_X11_244 dX11_commandHere_40 ?_
        obtain ⟨u4, hcu4, hf⟩ := bnd_t hf
        refine x_calli hW (x_runV C hW hl (wk9 (k_125)) rfl rfl (c_X11_isWord (by decide) hcu4) (cw_X11_154) ci_X11_isWord cs_X11_isWord (rm_ok (by decide) (by decide)) ⟨Nat.le_refl _, Nat.le_refl _⟩ (As := [.ref (Z.2.2.2.2 (2 * 42))]) rfl rfl (Nat.le_of_ble_eq_true rfl) dX11_commandHere_42) (fun H locs hW => ?_)
        refine x_ifeq (tgt := 52) C hf dX11_commandHere_45 (by decide) (fun hf => ?_) (fun hf => ?_)
        · refine lv_aload_n C.1 C.2.1 dX11_commandHere_52 rfl (lv_at hl 0 rfl) ?_
          refine x_ldcS C ms_X11_246 dX11_commandHere_53 ?_
          obtain ⟨u5, hcu5, hf⟩ := bnd_t hf
          refine x_calli hW (x_runV C hW hl (wk9 (k_125)) rfl rfl (c_X11_isWord (by decide) hcu5) (cw_X11_154) ci_X11_isWord cs_X11_isWord (rm_ok (by decide) (by decide)) ⟨Nat.le_refl _, Nat.le_refl _⟩ (As := [.ref (Z.2.2.2.2 (2 * 43))]) rfl rfl (Nat.le_of_ble_eq_true rfl) dX11_commandHere_55) (fun H locs hW => ?_)
          refine x_ifeq (tgt := 65) C hf dX11_commandHere_58 (by decide) (fun hf => ?_) (fun hf => ?_)
          · refine lv_aload_n C.1 C.2.1 dX11_commandHere_65 rfl (lv_at hl 0 rfl) ?_
            refine x_ldcS C ms_X11_248 dX11_commandHere_66 ?_
            obtain ⟨u6, hcu6, hf⟩ := bnd_t hf
            refine x_calli hW (x_runV C hW hl (wk9 (k_125)) rfl rfl (c_X11_isWord (by decide) hcu6) (cw_X11_154) ci_X11_isWord cs_X11_isWord (rm_ok (by decide) (by decide)) ⟨Nat.le_refl _, Nat.le_refl _⟩ (As := [.ref (Z.2.2.2.2 (2 * 44))]) rfl rfl (Nat.le_of_ble_eq_true rfl) dX11_commandHere_68) (fun H locs hW => ?_)
            refine x_ifeq (tgt := 78) C hf dX11_commandHere_71 (by decide) (fun hf => ?_) (fun hf => ?_)
            · refine lv_iconst (v := -1) C.1 C.2.1 dX11_commandHere_78 (by decide) ?_
              obtain rfl := Option.some.inj hf
              exact x_iret C hW dX11_commandHere_79 rfl
            · refine lv_iconst (v := 5) C.1 C.2.1 dX11_commandHere_74 (by decide) ?_
              refine lv_goto (tgt := 79) C.1 C.2.1 dX11_commandHere_75 (by decide) ?_
              obtain rfl := Option.some.inj hf
              exact x_iret C hW dX11_commandHere_79 rfl
          · refine lv_iconst (v := 4) C.1 C.2.1 dX11_commandHere_61 (by decide) ?_
            refine lv_goto (tgt := 79) C.1 C.2.1 dX11_commandHere_62 (by decide) ?_
            obtain rfl := Option.some.inj hf
            exact x_iret C hW dX11_commandHere_79 rfl
        · refine lv_iconst (v := 3) C.1 C.2.1 dX11_commandHere_48 (by decide) ?_
          refine lv_goto (tgt := 79) C.1 C.2.1 dX11_commandHere_49 (by decide) ?_
          obtain rfl := Option.some.inj hf
          exact x_iret C hW dX11_commandHere_79 rfl
      · refine lv_iconst (v := 2) C.1 C.2.1 dX11_commandHere_35 (by decide) ?_
        refine lv_goto (tgt := 79) C.1 C.2.1 dX11_commandHere_36 (by decide) ?_
        obtain rfl := Option.some.inj hf
        exact x_iret C hW dX11_commandHere_79 rfl
    · refine lv_iconst (v := 1) C.1 C.2.1 dX11_commandHere_22 (by decide) ?_
      refine lv_goto (tgt := 79) C.1 C.2.1 dX11_commandHere_23 (by decide) ?_
      obtain rfl := Option.some.inj hf
      exact x_iret C hW dX11_commandHere_79 rfl
  · refine lv_iconst (v := 0) C.1 C.2.1 dX11_commandHere_9 (by decide) ?_
    refine lv_goto (tgt := 79) C.1 C.2.1 dX11_commandHere_10 (by decide) ?_
    obtain rfl := Option.some.inj hf
    exact x_iret C hW dX11_commandHere_79 rfl
set_option maxRecDepth 20000 in
set_option maxHeartbeats 1000000 in
theorem j_X11_readBlock_106 {l : Launch} {Z : ZT} {h : Hp} {n0 : Nat} {cf_X11_readBlock : Hp → Option (Hp)} {cf_X11_readCommand : Hp → Option (Hp)} {g : Hp} {x1 : Int32} {p : Program} {e : Env} {s : State} {m : MethodId} {args : Array Value} {below : List Frame} {meth : Method} {c : Code} (C : CX p s m args meth c cX11_readBlock RX11 2 none Z) {out : Hp} (hcf_X11_readBlock : ∀ {h g : Hp} {out : Hp}, cf_X11_readBlock g = some out → Met l yX11_readBlock (wY yX11_readBlock cX11_readBlock 2 none) (rmD (10 + n0)) (va_Pc [.ref (Z.1 125)] (Wd Z h g)) (va_Qv (fun (_ : Unit) => True) (fun _ => Wd Z h out) (FR Z)) 0 0 (FR Z)) (hcf_X11_readCommand : ∀ {h g : Hp} {out : Hp}, cf_X11_readCommand g = some out → Met l yX11_readCommand (wY yX11_readCommand cX11_readCommand 3 none) (rmD (10 + n0)) (va_Pc [.ref (Z.1 125)] (Wd Z h g)) (va_Qv (fun (_ : Unit) => True) (fun _ => Wd Z h out) (FR Z)) 0 0 (FR Z)) {ls : Array Slot} {H : Heap} {locs : List Loc} (hW : XW Z h g s.heap H locs) (hl : lv_has ls 2 [(0, .ref (Z.1 125)), (1, .int x1)]) (hf : J_X11_readBlock_106 cf_X11_readBlock cf_X11_readCommand g x1 = some out) : W p l e (rmD (10 + n0 + 1)) s m args below meth c H locs 0 0 (MQ below (va_Qv (fun (_ : Unit) => True) (fun _ => Wd Z h out) (FR Z)) args s 0 0 (FR Z)) (F0 m 106 ls []) := by
  refine lv_aload_n C.1 C.2.1 dX11_readBlock_106 rfl (lv_at hl 0 rfl) ?_
  refine xg_X11_60 C hW (k_125) dX11_readBlock_107 ?_
  refine lv_iload_n C.1 C.2.1 dX11_readBlock_110 rfl (lv_at hl 1 rfl) ?_
  refine lv_aload_n C.1 C.2.1 dX11_readBlock_111 rfl (lv_at hl 0 rfl) ?_
  refine xg_X11_232 C hW (k_125) dX11_readBlock_112 ?_
  refine lv_iload_n C.1 C.2.1 dX11_readBlock_115 rfl (lv_at hl 1 rfl) ?_
  refine lv_isub C.1 C.2.1 dX11_readBlock_116 ?_
  refine lv_iconst (v := 1) C.1 C.2.1 dX11_readBlock_117 (by decide) ?_
  refine lv_isub C.1 C.2.1 dX11_readBlock_118 ?_
  refine x_iastM C hW a_140 hf dX11_readBlock_119 (fun g1 H locs hf hW => ?_)
  refine lv_aload_n C.1 C.2.1 dX11_readBlock_120 rfl (lv_at hl 0 rfl) ?_
  refine lv_dup C.1 C.2.1 dX11_readBlock_121 rfl ?_
  refine xg_X11_266 C hW (k_125) dX11_readBlock_122 ?_
  refine lv_iconst (v := 1) C.1 C.2.1 dX11_readBlock_125 (by decide) ?_
  refine lv_isub C.1 C.2.1 dX11_readBlock_126 ?_
  refine xp_X11_266 C hW (k_125) hf dX11_readBlock_127 (fun g2 H locs hf hW => ?_)
  refine lv_aload_n C.1 C.2.1 dX11_readBlock_130 rfl (lv_at hl 0 rfl) ?_
  refine lv_bipush (v := 125) C.1 C.2.1 dX11_readBlock_131 (by decide) ?_
  obtain ⟨u3, hcu3, hf⟩ := bnd_t hf
  refine x_callv hW (x_runV C hW hl (wk9 (k_125)) rfl rfl (c_X11_needs hcu3) (cw_X11_226) ci_X11_needs cs_X11_needs (rm_ok (by omega) (by decide)) ⟨Nat.le_refl _, Nat.le_refl _⟩ (As := [.int (125 : Int32)]) rfl rfl (Nat.le_of_ble_eq_true rfl) dX11_readBlock_133) (fun H locs hW => ?_)
  obtain rfl := Option.some.inj hf
  exact x_vret C hW dX11_readBlock_136 trivial
set_option maxRecDepth 20000 in
set_option maxHeartbeats 1000000 in
theorem l_X11_readBlock_77 {l : Launch} {Z : ZT} {h : Hp} {n0 : Nat} {cf_X11_readBlock : Hp → Option (Hp)} {cf_X11_readCommand : Hp → Option (Hp)} {x1 : Int32} {p : Program} {e : Env} {s : State} {m : MethodId} {args : Array Value} {below : List Frame} {meth : Method} {c : Code} (C : CX p s m args meth c cX11_readBlock RX11 2 none Z) {out : Hp} (hcf_X11_readBlock : ∀ {h g : Hp} {out : Hp}, cf_X11_readBlock g = some out → Met l yX11_readBlock (wY yX11_readBlock cX11_readBlock 2 none) (rmD (10 + n0)) (va_Pc [.ref (Z.1 125)] (Wd Z h g)) (va_Qv (fun (_ : Unit) => True) (fun _ => Wd Z h out) (FR Z)) 0 0 (FR Z)) (hcf_X11_readCommand : ∀ {h g : Hp} {out : Hp}, cf_X11_readCommand g = some out → Met l yX11_readCommand (wY yX11_readCommand cX11_readCommand 3 none) (rmD (10 + n0)) (va_Pc [.ref (Z.1 125)] (Wd Z h g)) (va_Qv (fun (_ : Unit) => True) (fun _ => Wd Z h out) (FR Z)) 0 0 (FR Z)) : ∀ (n : Nat) (g : Hp) (ls : Array Slot) (H : Heap) (locs : List Loc), XW Z h g s.heap H locs → lv_has ls 2 [(0, .ref (Z.1 125)), (1, .int x1)] → Lp (F_X11_readBlock_77 cf_X11_readBlock cf_X11_readCommand x1) n g = some out → W p l e (rmD (10 + n0 + 1)) s m args below meth c H locs 0 0 (MQ below (va_Qv (fun (_ : Unit) => True) (fun _ => Wd Z h out) (FR Z)) args s 0 0 (FR Z)) (F0 m 77 ls []) := by
  intro n
  induction n with
  | zero => intro g ls H locs hW hl hf; cases hf
  | succ n ih =>
    intro g ls H locs hW hl hf
    rw [Lp_s] at hf
    rw [F_X11_readBlock_77] at hf
    try dsimp only at hf
    refine lv_aload_n C.1 C.2.1 dX11_readBlock_77 rfl (lv_at hl 0 rfl) ?_
    obtain ⟨u4, hcu4, hf⟩ := bnd_t hf
    refine x_calli hW (x_runV C hW hl (wk9 (k_125)) rfl rfl (c_X11_hasFailed hcu4) (cw_X11_125) ci_X11_hasFailed cs_X11_hasFailed (rm_ok (by omega) (by decide)) ⟨Nat.le_refl _, Nat.le_refl _⟩ (As := []) rfl rfl (Nat.le_of_ble_eq_true rfl) dX11_readBlock_78) (fun H locs hW => ?_)
    refine x_ifne (tgt := 106) C hf dX11_readBlock_81 (by decide) (fun hf => ?_) (fun hf => ?_)
    · exact j_X11_readBlock_106 C hcf_X11_readBlock hcf_X11_readCommand hW (lv_sub hl [0, 1] rfl) hf
    · refine lv_aload_n C.1 C.2.1 dX11_readBlock_84 rfl (lv_at hl 0 rfl) ?_
      refine lv_bipush (v := 125) C.1 C.2.1 dX11_readBlock_85 (by decide) ?_
      refine lv_bipush (v := 125) C.1 C.2.1 dX11_readBlock_87 (by decide) ?_
      obtain ⟨u5, hcu5, hf⟩ := bnd_t hf
      refine x_calli hW (x_runV C hW hl (wk9 (k_125)) rfl rfl (c_X11_isAt hcu5) (cw_X11_129) ci_X11_isAt cs_X11_isAt (rm_ok (by omega) (by decide)) ⟨Nat.le_refl _, Nat.le_refl _⟩ (As := [.int (125 : Int32), .int (125 : Int32)]) rfl rfl (Nat.le_of_ble_eq_true rfl) dX11_readBlock_89) (fun H locs hW => ?_)
      refine x_ifne (tgt := 106) C hf dX11_readBlock_92 (by decide) (fun hf => ?_) (fun hf => ?_)
      · exact j_X11_readBlock_106 C hcf_X11_readBlock hcf_X11_readCommand hW (lv_sub hl [0, 1] rfl) hf
      · refine lv_aload_n C.1 C.2.1 dX11_readBlock_95 rfl (lv_at hl 0 rfl) ?_
        obtain ⟨u6, hcu6, hf⟩ := bnd_t hf
        refine x_callv hW (x_runV C hW hl (wk9 (k_125)) rfl rfl (hcf_X11_readCommand hcu6) (cw_X11_269) ci_X11_readCommand cs_X11_readCommand (rm_ok (by omega) (by decide)) ⟨Nat.le_refl _, Nat.le_refl _⟩ (As := []) rfl rfl (Nat.le_of_ble_eq_true rfl) dX11_readBlock_96) (fun H locs hW => ?_)
        refine lv_aload_n C.1 C.2.1 dX11_readBlock_99 rfl (lv_at hl 0 rfl) ?_
        obtain ⟨u7, hcu7, hf⟩ := bnd_t hf
        refine x_callv hW (x_runV C hW hl (wk9 (k_125)) rfl rfl (c_X11_blanks hcu7) (cw_X11_139) ci_X11_blanks cs_X11_blanks (rm_ok (by omega) (by decide)) ⟨Nat.le_refl _, Nat.le_refl _⟩ (As := []) rfl rfl (Nat.le_of_ble_eq_true rfl) dX11_readBlock_100) (fun H locs hW => ?_)
        refine lv_goto (tgt := 77) C.1 C.2.1 dX11_readBlock_103 (by decide) ?_
        exact ih u7 ls _ _ hW (lv_sub hl [0, 1] rfl) hf
set_option maxRecDepth 20000 in
set_option maxHeartbeats 1000000 in
theorem j_X11_readBlock_31 {l : Launch} {Z : ZT} {h : Hp} {n0 : Nat} {cf_X11_readBlock : Hp → Option (Hp)} {cf_X11_readCommand : Hp → Option (Hp)} {g : Hp} {s1 : Int32} {p : Program} {e : Env} {s : State} {m : MethodId} {args : Array Value} {below : List Frame} {meth : Method} {c : Code} (C : CX p s m args meth c cX11_readBlock RX11 2 none Z) {out : Hp} (hcf_X11_readBlock : ∀ {h g : Hp} {out : Hp}, cf_X11_readBlock g = some out → Met l yX11_readBlock (wY yX11_readBlock cX11_readBlock 2 none) (rmD (10 + n0)) (va_Pc [.ref (Z.1 125)] (Wd Z h g)) (va_Qv (fun (_ : Unit) => True) (fun _ => Wd Z h out) (FR Z)) 0 0 (FR Z)) (hcf_X11_readCommand : ∀ {h g : Hp} {out : Hp}, cf_X11_readCommand g = some out → Met l yX11_readCommand (wY yX11_readCommand cX11_readCommand 3 none) (rmD (10 + n0)) (va_Pc [.ref (Z.1 125)] (Wd Z h g)) (va_Qv (fun (_ : Unit) => True) (fun _ => Wd Z h out) (FR Z)) 0 0 (FR Z)) {ls : Array Slot} {H : Heap} {locs : List Loc} (hW : XW Z h g s.heap H locs) (hl : lv_has ls 2 [(0, .ref (Z.1 125))]) (hf : J_X11_readBlock_31 cf_X11_readBlock cf_X11_readCommand g s1 = some out) : W p l e (rmD (10 + n0 + 1)) s m args below meth c H locs 0 0 (MQ below (va_Qv (fun (_ : Unit) => True) (fun _ => Wd Z h out) (FR Z)) args s 0 0 (FR Z)) (F0 m 31 ls [.int s1, .ref (Z.1 125)]) := by
  rw [J_X11_readBlock_31] at hf
  refine lv_iconst (v := 4) C.1 C.2.1 dX11_readBlock_31 (by decide) ?_
  obtain ⟨u8, hcu8, hf⟩ := bnd_t hf
  refine x_callv hW (x_runV C hW hl (wk9 (k_125)) rfl rfl (c_X11_must hcu8) (cw_X11_162) ci_X11_must cs_X11_must (rm_ok (by omega) (by decide)) ⟨Nat.le_refl _, Nat.le_refl _⟩ (As := [.int s1, .int (4 : Int32)]) rfl rfl (Nat.le_of_ble_eq_true rfl) dX11_readBlock_32) (fun H locs hW => ?_)
  refine lv_aload_n C.1 C.2.1 dX11_readBlock_35 rfl (lv_at hl 0 rfl) ?_
  obtain ⟨u9, hcu9, hf⟩ := bnd_t hf
  refine x_calli hW (x_runV C hW hl (wk9 (k_125)) rfl rfl (c_X11_hasFailed hcu9) (cw_X11_125) ci_X11_hasFailed cs_X11_hasFailed (rm_ok (by omega) (by decide)) ⟨Nat.le_refl _, Nat.le_refl _⟩ (As := []) rfl rfl (Nat.le_of_ble_eq_true rfl) dX11_readBlock_36) (fun H locs hW => ?_)
  refine x_ifeq (tgt := 43) C hf dX11_readBlock_39 (by decide) (fun hf => ?_) (fun hf => ?_)
  · refine lv_aload_n C.1 C.2.1 dX11_readBlock_43 rfl (lv_at hl 0 rfl) ?_
    refine lv_dup C.1 C.2.1 dX11_readBlock_44 rfl ?_
    refine xg_X11_119 C hW (k_125) dX11_readBlock_45 ?_
    refine lv_iconst (v := 1) C.1 C.2.1 dX11_readBlock_48 (by decide) ?_
    refine lv_iadd C.1 C.2.1 dX11_readBlock_49 ?_
    refine xp_X11_119 C hW (k_125) hf dX11_readBlock_50 (fun g10 H locs hf hW => ?_)
    refine lv_aload_n C.1 C.2.1 dX11_readBlock_53 rfl (lv_at hl 0 rfl) ?_
    refine lv_dup C.1 C.2.1 dX11_readBlock_54 rfl ?_
    refine xg_X11_266 C hW (k_125) dX11_readBlock_55 ?_
    refine lv_iconst (v := 1) C.1 C.2.1 dX11_readBlock_58 (by decide) ?_
    refine lv_iadd C.1 C.2.1 dX11_readBlock_59 ?_
    refine xp_X11_266 C hW (k_125) hf dX11_readBlock_60 (fun g11 H locs hf hW => ?_)
    refine lv_aload_n C.1 C.2.1 dX11_readBlock_63 rfl (lv_at hl 0 rfl) ?_
    refine xg_X11_232 C hW (k_125) dX11_readBlock_64 ?_
    refine x_istn C hf dX11_readBlock_67 rfl hl (by decide) (fun v12 => [(1, .int v12), (0, .ref (Z.1 125))]) (fun _ => rfl) (fun v12 ls hf hl => ?_)
    refine lv_aload_n C.1 C.2.1 dX11_readBlock_68 rfl (lv_at hl 1 rfl) ?_
    refine lv_iconst (v := 0) C.1 C.2.1 dX11_readBlock_69 (by decide) ?_
    obtain ⟨u13, hcu13, hf⟩ := bnd_t hf
    refine x_callv hW (x_runV C hW hl (wk9 (k_125)) rfl rfl (c_X11_drafts hcu13) (cw_X11_235) ci_X11_drafts cs_X11_drafts (rm_ok (by omega) (by decide)) ⟨Nat.le_refl _, Nat.le_refl _⟩ (As := [.int (0 : Int32)]) rfl rfl (Nat.le_of_ble_eq_true rfl) dX11_readBlock_70) (fun H locs hW => ?_)
    refine lv_aload_n C.1 C.2.1 dX11_readBlock_73 rfl (lv_at hl 1 rfl) ?_
    obtain ⟨u14, hcu14, hf⟩ := bnd_t hf
    refine x_callv hW (x_runV C hW hl (wk9 (k_125)) rfl rfl (c_X11_blanks hcu14) (cw_X11_139) ci_X11_blanks cs_X11_blanks (rm_ok (by omega) (by decide)) ⟨Nat.le_refl _, Nat.le_refl _⟩ (As := []) rfl rfl (Nat.le_of_ble_eq_true rfl) dX11_readBlock_74) (fun H locs hW => ?_)
    exact l_X11_readBlock_77 C hcf_X11_readBlock hcf_X11_readCommand FU u14 ls _ _ hW (lv_sub hl [1, 0] rfl) hf
  · obtain rfl := Option.some.inj hf
    exact x_vret C hW dX11_readBlock_42 trivial
set_option maxRecDepth 20000 in
set_option maxHeartbeats 1000000 in
theorem b_X11_readBlock {l : Launch} {Z : ZT} {h : Hp} {n0 : Nat} {cf_X11_readBlock : Hp → Option (Hp)} {cf_X11_readCommand : Hp → Option (Hp)} {g : Hp} (hcf_X11_readBlock : ∀ {h g : Hp} {out : Hp}, cf_X11_readBlock g = some out → Met l yX11_readBlock (wY yX11_readBlock cX11_readBlock 2 none) (rmD (10 + n0)) (va_Pc [.ref (Z.1 125)] (Wd Z h g)) (va_Qv (fun (_ : Unit) => True) (fun _ => Wd Z h out) (FR Z)) 0 0 (FR Z)) (hcf_X11_readCommand : ∀ {h g : Hp} {out : Hp}, cf_X11_readCommand g = some out → Met l yX11_readCommand (wY yX11_readCommand cX11_readCommand 3 none) (rmD (10 + n0)) (va_Pc [.ref (Z.1 125)] (Wd Z h g)) (va_Qv (fun (_ : Unit) => True) (fun _ => Wd Z h out) (FR Z)) 0 0 (FR Z)) {out : Hp} (hf : B_X11_readBlock cf_X11_readBlock cf_X11_readCommand g = some out) : Met l yX11_readBlock (wY yX11_readBlock cX11_readBlock 2 none) (rmD (10 + n0 + 1)) (va_Pc [.ref (Z.1 125)] (Wd Z h g)) (va_Qv (fun (_ : Unit) => True) (fun _ => Wd Z h out) (FR Z)) 0 0 (FR Z) := by
  refine metX RX11 rfl (by decide +kernel) (Nat.le_of_ble_eq_true rfl) ?_
  intro p e s m args below meth c C hW ls hl
  have hl : lv_has ls 2 [(0, .ref (Z.1 125))] := hl
  unfold B_X11_readBlock at hf
  refine lv_aload_n C.1 C.2.1 dX11_readBlock_0 rfl (lv_at hl 0 rfl) ?_
  obtain ⟨u15, hcu15, hf⟩ := bnd_t hf
  refine x_callv hW (x_runV C hW hl (wk9 (k_125)) rfl rfl (c_X11_blanks hcu15) (cw_X11_139) ci_X11_blanks cs_X11_blanks (rm_ok (by omega) (by decide)) ⟨Nat.le_refl _, Nat.le_refl _⟩ (As := []) rfl rfl (Nat.le_of_ble_eq_true rfl) dX11_readBlock_1) (fun H locs hW => ?_)
  refine lv_aload_n C.1 C.2.1 dX11_readBlock_4 rfl (lv_at hl 0 rfl) ?_
  refine lv_aload_n C.1 C.2.1 dX11_readBlock_5 rfl (lv_at hl 0 rfl) ?_
  refine lv_bipush (v := 123) C.1 C.2.1 dX11_readBlock_6 (by decide) ?_
  refine lv_bipush (v := 123) C.1 C.2.1 dX11_readBlock_8 (by decide) ?_
  obtain ⟨u16, hcu16, hf⟩ := bnd_t hf
  refine x_calli hW (x_runV C hW hl (wk9 (k_125)) rfl rfl (c_X11_isAt hcu16) (cw_X11_129) ci_X11_isAt cs_X11_isAt (rm_ok (by omega) (by decide)) ⟨Nat.le_refl _, Nat.le_refl _⟩ (As := [.int (123 : Int32), .int (123 : Int32)]) rfl rfl (Nat.le_of_ble_eq_true rfl) dX11_readBlock_10) (fun H locs hW => ?_)
  refine lv_iconst (v := 1) C.1 C.2.1 dX11_readBlock_13 (by decide) ?_
  obtain ⟨u17, hcu17, hf⟩ := bnd_t hf
  refine x_callv hW (x_runV C hW hl (wk9 (k_125)) rfl rfl (c_X11_must hcu17) (cw_X11_162) ci_X11_must cs_X11_must (rm_ok (by omega) (by decide)) ⟨Nat.le_refl _, Nat.le_refl _⟩ (As := [.int u16, .int (1 : Int32)]) rfl rfl (Nat.le_of_ble_eq_true rfl) dX11_readBlock_14) (fun H locs hW => ?_)
  refine lv_aload_n C.1 C.2.1 dX11_readBlock_17 rfl (lv_at hl 0 rfl) ?_
  refine lv_aload_n C.1 C.2.1 dX11_readBlock_18 rfl (lv_at hl 0 rfl) ?_
  refine xg_X11_266 C hW (k_125) dX11_readBlock_19 ?_
  refine lv_iconst (v := 5) C.1 C.2.1 dX11_readBlock_22 (by decide) ?_
  refine x_cmpge (tgt := 30) C hf dX11_readBlock_23 (by decide) (fun hf => ?_) (fun hf => ?_)
  · refine lv_iconst (v := 0) C.1 C.2.1 dX11_readBlock_30 (by decide) ?_
    exact j_X11_readBlock_31 C hcf_X11_readBlock hcf_X11_readCommand hW (lv_sub hl [0] rfl) hf
  · refine lv_iconst (v := 1) C.1 C.2.1 dX11_readBlock_26 (by decide) ?_
    refine lv_goto (tgt := 31) C.1 C.2.1 dX11_readBlock_27 (by decide) ?_
    exact j_X11_readBlock_31 C hcf_X11_readBlock hcf_X11_readCommand hW (lv_sub hl [0] rfl) hf
set_option maxRecDepth 20000 in
set_option maxHeartbeats 1000000 in
theorem j_X11_readCommand_155 {l : Launch} {Z : ZT} {h : Hp} {n0 : Nat} {cf_X11_readBlock : Hp → Option (Hp)} {cf_X11_readCommand : Hp → Option (Hp)} {g : Hp} {p : Program} {e : Env} {s : State} {m : MethodId} {args : Array Value} {below : List Frame} {meth : Method} {c : Code} (C : CX p s m args meth c cX11_readCommand RX11 3 none Z) {out : Hp} (hcf_X11_readBlock : ∀ {h g : Hp} {out : Hp}, cf_X11_readBlock g = some out → Met l yX11_readBlock (wY yX11_readBlock cX11_readBlock 2 none) (rmD (10 + n0)) (va_Pc [.ref (Z.1 125)] (Wd Z h g)) (va_Qv (fun (_ : Unit) => True) (fun _ => Wd Z h out) (FR Z)) 0 0 (FR Z)) (hcf_X11_readCommand : ∀ {h g : Hp} {out : Hp}, cf_X11_readCommand g = some out → Met l yX11_readCommand (wY yX11_readCommand cX11_readCommand 3 none) (rmD (10 + n0)) (va_Pc [.ref (Z.1 125)] (Wd Z h g)) (va_Qv (fun (_ : Unit) => True) (fun _ => Wd Z h out) (FR Z)) 0 0 (FR Z)) {ls : Array Slot} {H : Heap} {locs : List Loc} (hW : XW Z h g s.heap H locs) (hl : lv_has ls 3 [(0, .ref (Z.1 125))]) (hf : J_X11_readCommand_155 cf_X11_readBlock cf_X11_readCommand g = some out) : W p l e (rmD (10 + n0 + 1)) s m args below meth c H locs 0 0 (MQ below (va_Qv (fun (_ : Unit) => True) (fun _ => Wd Z h out) (FR Z)) args s 0 0 (FR Z)) (F0 m 155 ls []) := by
  rw [J_X11_readCommand_155] at hf
  refine lv_aload_n C.1 C.2.1 dX11_readCommand_155 rfl (lv_at hl 0 rfl) ?_
  refine lv_bipush (v := 59) C.1 C.2.1 dX11_readCommand_156 (by decide) ?_
  obtain ⟨u1, hcu1, hf⟩ := bnd_t hf
  refine x_callv hW (x_runV C hW hl (wk9 (k_125)) rfl rfl (c_X11_needs hcu1) (cw_X11_226) ci_X11_needs cs_X11_needs (rm_ok (by omega) (by decide)) ⟨Nat.le_refl _, Nat.le_refl _⟩ (As := [.int (59 : Int32)]) rfl rfl (Nat.le_of_ble_eq_true rfl) dX11_readCommand_158) (fun H locs hW => ?_)
  obtain rfl := Option.some.inj hf
  exact x_vret C hW dX11_readCommand_161 trivial
set_option maxRecDepth 20000 in
set_option maxHeartbeats 1000000 in
theorem j_X11_readCommand_35 {l : Launch} {Z : ZT} {h : Hp} {n0 : Nat} {cf_X11_readBlock : Hp → Option (Hp)} {cf_X11_readCommand : Hp → Option (Hp)} {g : Hp} {x1 : Int32} {s1 : Int32} {p : Program} {e : Env} {s : State} {m : MethodId} {args : Array Value} {below : List Frame} {meth : Method} {c : Code} (C : CX p s m args meth c cX11_readCommand RX11 3 none Z) {out : Hp} (hcf_X11_readBlock : ∀ {h g : Hp} {out : Hp}, cf_X11_readBlock g = some out → Met l yX11_readBlock (wY yX11_readBlock cX11_readBlock 2 none) (rmD (10 + n0)) (va_Pc [.ref (Z.1 125)] (Wd Z h g)) (va_Qv (fun (_ : Unit) => True) (fun _ => Wd Z h out) (FR Z)) 0 0 (FR Z)) (hcf_X11_readCommand : ∀ {h g : Hp} {out : Hp}, cf_X11_readCommand g = some out → Met l yX11_readCommand (wY yX11_readCommand cX11_readCommand 3 none) (rmD (10 + n0)) (va_Pc [.ref (Z.1 125)] (Wd Z h g)) (va_Qv (fun (_ : Unit) => True) (fun _ => Wd Z h out) (FR Z)) 0 0 (FR Z)) {ls : Array Slot} {H : Heap} {locs : List Loc} (hW : XW Z h g s.heap H locs) (hl : lv_has ls 3 [(0, .ref (Z.1 125)), (1, .int x1)]) (hf : J_X11_readCommand_35 cf_X11_readBlock cf_X11_readCommand g x1 s1 = some out) : W p l e (rmD (10 + n0 + 1)) s m args below meth c H locs 0 0 (MQ below (va_Qv (fun (_ : Unit) => True) (fun _ => Wd Z h out) (FR Z)) args s 0 0 (FR Z)) (F0 m 35 ls [.int s1, .ref (Z.1 125)]) := by
  rw [J_X11_readCommand_35] at hf
  refine lv_iconst (v := 4) C.1 C.2.1 dX11_readCommand_35 (by decide) ?_
  obtain ⟨u2, hcu2, hf⟩ := bnd_t hf
  refine x_callv hW (x_runV C hW hl (wk9 (k_125)) rfl rfl (c_X11_must hcu2) (cw_X11_162) ci_X11_must cs_X11_must (rm_ok (by omega) (by decide)) ⟨Nat.le_refl _, Nat.le_refl _⟩ (As := [.int s1, .int (4 : Int32)]) rfl rfl (Nat.le_of_ble_eq_true rfl) dX11_readCommand_36) (fun H locs hW => ?_)
  refine lv_aload_n C.1 C.2.1 dX11_readCommand_39 rfl (lv_at hl 0 rfl) ?_
  obtain ⟨u3, hcu3, hf⟩ := bnd_t hf
  refine x_calli hW (x_runV C hW hl (wk9 (k_125)) rfl rfl (c_X11_hasFailed hcu3) (cw_X11_125) ci_X11_hasFailed cs_X11_hasFailed (rm_ok (by omega) (by decide)) ⟨Nat.le_refl _, Nat.le_refl _⟩ (As := []) rfl rfl (Nat.le_of_ble_eq_true rfl) dX11_readCommand_40) (fun H locs hW => ?_)
  refine x_ifeq (tgt := 47) C hf dX11_readCommand_43 (by decide) (fun hf => ?_) (fun hf => ?_)
  · refine lv_aload_n C.1 C.2.1 dX11_readCommand_47 rfl (lv_at hl 0 rfl) ?_
    refine lv_dup C.1 C.2.1 dX11_readCommand_48 rfl ?_
    refine xg_X11_119 C hW (k_125) dX11_readCommand_49 ?_
    refine lv_aload_n C.1 C.2.1 dX11_readCommand_52 rfl (lv_at hl 0 rfl) ?_
    obtain ⟨u4, hcu4, hf⟩ := bnd_t hf
    refine x_calli hW (x_runV C hW hl (wk9 (k_125)) rfl rfl (c_X11_letters hcu4) (cw_X11_142) ci_X11_letters cs_X11_letters (rm_ok (by omega) (by decide)) ⟨Nat.le_refl _, Nat.le_refl _⟩ (As := []) rfl rfl (Nat.le_of_ble_eq_true rfl) dX11_readCommand_53) (fun H locs hW => ?_)
    refine lv_iadd C.1 C.2.1 dX11_readCommand_56 ?_
    refine xp_X11_119 C hW (k_125) hf dX11_readCommand_57 (fun g5 H locs hf hW => ?_)
    refine lv_aload_n C.1 C.2.1 dX11_readCommand_60 rfl (lv_at hl 0 rfl) ?_
    refine lv_dup C.1 C.2.1 dX11_readCommand_61 rfl ?_
    refine xg_X11_253 C hW (k_125) dX11_readCommand_62 ?_
    refine lv_iconst (v := 1) C.1 C.2.1 dX11_readCommand_65 (by decide) ?_
    refine lv_iadd C.1 C.2.1 dX11_readCommand_66 ?_
    refine xp_X11_253 C hW (k_125) hf dX11_readCommand_67 (fun g6 H locs hf hW => ?_)
    refine lv_aload_n C.1 C.2.1 dX11_readCommand_70 rfl (lv_at hl 0 rfl) ?_
    refine lv_iload_n C.1 C.2.1 dX11_readCommand_71 rfl (lv_at hl 1 rfl) ?_
    obtain ⟨u7, hcu7, hf⟩ := bnd_t hf
    refine x_callv hW (x_runV C hW hl (wk9 (k_125)) rfl rfl (c_X11_drafts hcu7) (cw_X11_235) ci_X11_drafts cs_X11_drafts (rm_ok (by omega) (by decide)) ⟨Nat.le_refl _, Nat.le_refl _⟩ (As := [.int x1]) rfl rfl (Nat.le_of_ble_eq_true rfl) dX11_readCommand_72) (fun H locs hW => ?_)
    refine lv_iload_n C.1 C.2.1 dX11_readCommand_75 rfl (lv_at hl 1 rfl) ?_
    refine lv_iconst (v := 5) C.1 C.2.1 dX11_readCommand_76 (by decide) ?_
    refine x_cmpne (tgt := 96) C hf dX11_readCommand_77 (by decide) (fun hf => ?_) (fun hf => ?_)
    · refine lv_aload_n C.1 C.2.1 dX11_readCommand_96 rfl (lv_at hl 0 rfl) ?_
      obtain ⟨u8, hcu8, hf⟩ := bnd_t hf
      refine x_callv hW (x_runV C hW hl (wk9 (k_125)) rfl rfl (c_X11_readPhrase hcu8) (cw_X11_259) ci_X11_readPhrase cs_X11_readPhrase (rm_ok (by omega) (by decide)) ⟨Nat.le_refl _, Nat.le_refl _⟩ (As := []) rfl rfl (Nat.le_of_ble_eq_true rfl) dX11_readCommand_97) (fun H locs hW => ?_)
      refine lv_iload_n C.1 C.2.1 dX11_readCommand_100 rfl (lv_at hl 1 rfl) ?_
      refine lv_iconst (v := 4) C.1 C.2.1 dX11_readCommand_101 (by decide) ?_
      refine x_cmpne (tgt := 132) C hf dX11_readCommand_102 (by decide) (fun hf => ?_) (fun hf => ?_)
      · refine lv_iload_n C.1 C.2.1 dX11_readCommand_132 rfl (lv_at hl 1 rfl) ?_
        refine lv_iconst (v := 3) C.1 C.2.1 dX11_readCommand_133 (by decide) ?_
        refine x_cmpne (tgt := 155) C hf dX11_readCommand_134 (by decide) (fun hf => ?_) (fun hf => ?_)
        · exact j_X11_readCommand_155 C hcf_X11_readBlock hcf_X11_readCommand hW (lv_sub hl [0] rfl) hf
        · refine lv_aload_n C.1 C.2.1 dX11_readCommand_137 rfl (lv_at hl 0 rfl) ?_
          refine x_ldcSW C ms_X11_264 dX11_readCommand_138 ?_
          obtain ⟨u9, hcu9, hf⟩ := bnd_t hf
          refine x_calli hW (x_runV C hW hl (wk9 (k_125)) rfl rfl (c_X11_takes (by decide) hcu9) (cw_X11_196) ci_X11_takes cs_X11_takes (rm_ok (by omega) (by decide)) ⟨Nat.le_refl _, Nat.le_refl _⟩ (As := [.ref (Z.2.2.2.2 (2 * 46))]) rfl rfl (Nat.le_of_ble_eq_true rfl) dX11_readCommand_141) (fun H locs hW => ?_)
          refine lv_istore_n (lv' := [(2, .int u9.1), (0, .ref (Z.1 125)), (1, .int x1)]) C.1 C.2.1 dX11_readCommand_144 rfl hl (by decide) rfl (fun ls hl => ?_)
          refine lv_aload_n C.1 C.2.1 dX11_readCommand_145 rfl (lv_at hl 1 rfl) ?_
          refine lv_iload_n C.1 C.2.1 dX11_readCommand_146 rfl (lv_at hl 0 rfl) ?_
          refine lv_iconst (v := 1) C.1 C.2.1 dX11_readCommand_147 (by decide) ?_
          obtain ⟨u10, hcu10, hf⟩ := bnd_t hf
          refine x_callv hW (x_runV C hW hl (wk9 (k_125)) rfl rfl (c_X11_must hcu10) (cw_X11_162) ci_X11_must cs_X11_must (rm_ok (by omega) (by decide)) ⟨Nat.le_refl _, Nat.le_refl _⟩ (As := [.int u9.1, .int (1 : Int32)]) rfl rfl (Nat.le_of_ble_eq_true rfl) dX11_readCommand_148) (fun H locs hW => ?_)
          refine lv_aload_n C.1 C.2.1 dX11_readCommand_151 rfl (lv_at hl 1 rfl) ?_
          obtain ⟨u11, hcu11, hf⟩ := bnd_t hf
          refine x_callv hW (x_runV C hW hl (wk9 (k_125)) rfl rfl (c_X11_readPhrase hcu11) (cw_X11_259) ci_X11_readPhrase cs_X11_readPhrase (rm_ok (by omega) (by decide)) ⟨Nat.le_refl _, Nat.le_refl _⟩ (As := []) rfl rfl (Nat.le_of_ble_eq_true rfl) dX11_readCommand_152) (fun H locs hW => ?_)
          exact j_X11_readCommand_155 C hcf_X11_readBlock hcf_X11_readCommand hW (lv_sub hl [1] rfl) hf
      · refine lv_aload_n C.1 C.2.1 dX11_readCommand_105 rfl (lv_at hl 0 rfl) ?_
        obtain ⟨u12, hcu12, hf⟩ := bnd_t hf
        refine x_callv hW (x_runV C hW hl (wk9 (k_125)) rfl rfl (hcf_X11_readBlock hcu12) (cw_X11_256) ci_X11_readBlock cs_X11_readBlock (rm_ok (by omega) (by decide)) ⟨Nat.le_refl _, Nat.le_refl _⟩ (As := []) rfl rfl (Nat.le_of_ble_eq_true rfl) dX11_readCommand_106) (fun H locs hW => ?_)
        refine lv_aload_n C.1 C.2.1 dX11_readCommand_109 rfl (lv_at hl 0 rfl) ?_
        refine x_ldcSW C ms_X11_262 dX11_readCommand_110 ?_
        obtain ⟨u13, hcu13, hf⟩ := bnd_t hf
        refine x_calli hW (x_runV C hW hl (wk9 (k_125)) rfl rfl (c_X11_takes (by decide) hcu13) (cw_X11_196) ci_X11_takes cs_X11_takes (rm_ok (by omega) (by decide)) ⟨Nat.le_refl _, Nat.le_refl _⟩ (As := [.ref (Z.2.2.2.2 (2 * 45))]) rfl rfl (Nat.le_of_ble_eq_true rfl) dX11_readCommand_113) (fun H locs hW => ?_)
        refine x_ifeq (tgt := 126) C hf dX11_readCommand_116 (by decide) (fun hf => ?_) (fun hf => ?_)
        · refine lv_aload_n C.1 C.2.1 dX11_readCommand_126 rfl (lv_at hl 0 rfl) ?_
          refine lv_iconst (v := 0) C.1 C.2.1 dX11_readCommand_127 (by decide) ?_
          obtain ⟨u14, hcu14, hf⟩ := bnd_t hf
          refine x_callv hW (x_runV C hW hl (wk9 (k_125)) rfl rfl (c_X11_drafts hcu14) (cw_X11_235) ci_X11_drafts cs_X11_drafts (rm_ok (by omega) (by decide)) ⟨Nat.le_refl _, Nat.le_refl _⟩ (As := [.int (0 : Int32)]) rfl rfl (Nat.le_of_ble_eq_true rfl) dX11_readCommand_128) (fun H locs hW => ?_)
          obtain rfl := Option.some.inj hf
          exact x_vret C hW dX11_readCommand_131 trivial
        · refine lv_aload_n C.1 C.2.1 dX11_readCommand_119 rfl (lv_at hl 0 rfl) ?_
          obtain ⟨u15, hcu15, hf⟩ := bnd_t hf
          refine x_callv hW (x_runV C hW hl (wk9 (k_125)) rfl rfl (hcf_X11_readBlock hcu15) (cw_X11_256) ci_X11_readBlock cs_X11_readBlock (rm_ok (by omega) (by decide)) ⟨Nat.le_refl _, Nat.le_refl _⟩ (As := []) rfl rfl (Nat.le_of_ble_eq_true rfl) dX11_readCommand_120) (fun H locs hW => ?_)
          refine lv_goto (tgt := 131) C.1 C.2.1 dX11_readCommand_123 (by decide) ?_
          obtain rfl := Option.some.inj hf
          exact x_vret C hW dX11_readCommand_131 trivial
    · refine lv_aload_n C.1 C.2.1 dX11_readCommand_80 rfl (lv_at hl 0 rfl) ?_
      refine lv_aload_n C.1 C.2.1 dX11_readCommand_81 rfl (lv_at hl 0 rfl) ?_
      refine lv_iconst (v := 1) C.1 C.2.1 dX11_readCommand_82 (by decide) ?_
      refine lv_bipush (v := 9) C.1 C.2.1 dX11_readCommand_83 (by decide) ?_
      obtain ⟨u16, hcu16, hf⟩ := bnd_t hf
      refine x_calli hW (x_runV C hW hl (wk9 (k_125)) rfl rfl (c_X11_number hcu16) (cw_X11_181) ci_X11_number cs_X11_number (rm_ok (by omega) (by decide)) ⟨Nat.le_refl _, Nat.le_refl _⟩ (As := [.int (1 : Int32), .int (9 : Int32)]) rfl rfl (Nat.le_of_ble_eq_true rfl) dX11_readCommand_85) (fun H locs hW => ?_)
      obtain ⟨u17, hcu17, hf⟩ := bnd_t hf
      refine x_callv hW (x_runV C hW hl (wk9 (k_125)) rfl rfl (c_X11_drafts hcu17) (cw_X11_235) ci_X11_drafts cs_X11_drafts (rm_ok (by omega) (by decide)) ⟨Nat.le_refl _, Nat.le_refl _⟩ (As := [.int u16.1]) rfl rfl (Nat.le_of_ble_eq_true rfl) dX11_readCommand_88) (fun H locs hW => ?_)
      refine lv_aload_n C.1 C.2.1 dX11_readCommand_91 rfl (lv_at hl 0 rfl) ?_
      obtain ⟨u18, hcu18, hf⟩ := bnd_t hf
      refine x_callv hW (x_runV C hW hl (wk9 (k_125)) rfl rfl (hcf_X11_readBlock hcu18) (cw_X11_256) ci_X11_readBlock cs_X11_readBlock (rm_ok (by omega) (by decide)) ⟨Nat.le_refl _, Nat.le_refl _⟩ (As := []) rfl rfl (Nat.le_of_ble_eq_true rfl) dX11_readCommand_92) (fun H locs hW => ?_)
      obtain rfl := Option.some.inj hf
      exact x_vret C hW dX11_readCommand_95 trivial
  · obtain rfl := Option.some.inj hf
    exact x_vret C hW dX11_readCommand_46 trivial
set_option maxRecDepth 20000 in
set_option maxHeartbeats 1000000 in
theorem j_X11_readCommand_16 {l : Launch} {Z : ZT} {h : Hp} {n0 : Nat} {cf_X11_readBlock : Hp → Option (Hp)} {cf_X11_readCommand : Hp → Option (Hp)} {g : Hp} {x1 : Int32} {s1 : Int32} {p : Program} {e : Env} {s : State} {m : MethodId} {args : Array Value} {below : List Frame} {meth : Method} {c : Code} (C : CX p s m args meth c cX11_readCommand RX11 3 none Z) {out : Hp} (hcf_X11_readBlock : ∀ {h g : Hp} {out : Hp}, cf_X11_readBlock g = some out → Met l yX11_readBlock (wY yX11_readBlock cX11_readBlock 2 none) (rmD (10 + n0)) (va_Pc [.ref (Z.1 125)] (Wd Z h g)) (va_Qv (fun (_ : Unit) => True) (fun _ => Wd Z h out) (FR Z)) 0 0 (FR Z)) (hcf_X11_readCommand : ∀ {h g : Hp} {out : Hp}, cf_X11_readCommand g = some out → Met l yX11_readCommand (wY yX11_readCommand cX11_readCommand 3 none) (rmD (10 + n0)) (va_Pc [.ref (Z.1 125)] (Wd Z h g)) (va_Qv (fun (_ : Unit) => True) (fun _ => Wd Z h out) (FR Z)) 0 0 (FR Z)) {ls : Array Slot} {H : Heap} {locs : List Loc} (hW : XW Z h g s.heap H locs) (hl : lv_has ls 3 [(0, .ref (Z.1 125)), (1, .int x1)]) (hf : J_X11_readCommand_16 cf_X11_readBlock cf_X11_readCommand g x1 s1 = some out) : W p l e (rmD (10 + n0 + 1)) s m args below meth c H locs 0 0 (MQ below (va_Qv (fun (_ : Unit) => True) (fun _ => Wd Z h out) (FR Z)) args s 0 0 (FR Z)) (F0 m 16 ls [.int s1, .ref (Z.1 125)]) := by
  rw [J_X11_readCommand_16] at hf
  refine lv_iconst (v := 1) C.1 C.2.1 dX11_readCommand_16 (by decide) ?_
  obtain ⟨u19, hcu19, hf⟩ := bnd_t hf
  refine x_callv hW (x_runV C hW hl (wk9 (k_125)) rfl rfl (c_X11_must hcu19) (cw_X11_162) ci_X11_must cs_X11_must (rm_ok (by omega) (by decide)) ⟨Nat.le_refl _, Nat.le_refl _⟩ (As := [.int s1, .int (1 : Int32)]) rfl rfl (Nat.le_of_ble_eq_true rfl) dX11_readCommand_17) (fun H locs hW => ?_)
  refine lv_aload_n C.1 C.2.1 dX11_readCommand_20 rfl (lv_at hl 0 rfl) ?_
  refine lv_aload_n C.1 C.2.1 dX11_readCommand_21 rfl (lv_at hl 0 rfl) ?_
  refine xg_X11_253 C hW (k_125) dX11_readCommand_22 ?_
  refine lv_bipush (v := 30) C.1 C.2.1 dX11_readCommand_25 (by decide) ?_
  refine x_cmpge (tgt := 34) C hf dX11_readCommand_27 (by decide) (fun hf => ?_) (fun hf => ?_)
  · refine lv_iconst (v := 0) C.1 C.2.1 dX11_readCommand_34 (by decide) ?_
    exact j_X11_readCommand_35 C hcf_X11_readBlock hcf_X11_readCommand hW (lv_sub hl [0, 1] rfl) hf
  · refine lv_iconst (v := 1) C.1 C.2.1 dX11_readCommand_30 (by decide) ?_
    refine lv_goto (tgt := 35) C.1 C.2.1 dX11_readCommand_31 (by decide) ?_
    exact j_X11_readCommand_35 C hcf_X11_readBlock hcf_X11_readCommand hW (lv_sub hl [0, 1] rfl) hf
set_option maxRecDepth 20000 in
set_option maxHeartbeats 1000000 in
theorem b_X11_readCommand {l : Launch} {Z : ZT} {h : Hp} {n0 : Nat} {cf_X11_readBlock : Hp → Option (Hp)} {cf_X11_readCommand : Hp → Option (Hp)} {g : Hp} (hcf_X11_readBlock : ∀ {h g : Hp} {out : Hp}, cf_X11_readBlock g = some out → Met l yX11_readBlock (wY yX11_readBlock cX11_readBlock 2 none) (rmD (10 + n0)) (va_Pc [.ref (Z.1 125)] (Wd Z h g)) (va_Qv (fun (_ : Unit) => True) (fun _ => Wd Z h out) (FR Z)) 0 0 (FR Z)) (hcf_X11_readCommand : ∀ {h g : Hp} {out : Hp}, cf_X11_readCommand g = some out → Met l yX11_readCommand (wY yX11_readCommand cX11_readCommand 3 none) (rmD (10 + n0)) (va_Pc [.ref (Z.1 125)] (Wd Z h g)) (va_Qv (fun (_ : Unit) => True) (fun _ => Wd Z h out) (FR Z)) 0 0 (FR Z)) {out : Hp} (hf : B_X11_readCommand cf_X11_readBlock cf_X11_readCommand g = some out) : Met l yX11_readCommand (wY yX11_readCommand cX11_readCommand 3 none) (rmD (10 + n0 + 1)) (va_Pc [.ref (Z.1 125)] (Wd Z h g)) (va_Qv (fun (_ : Unit) => True) (fun _ => Wd Z h out) (FR Z)) 0 0 (FR Z) := by
  refine metX RX11 rfl (by decide +kernel) (Nat.le_of_ble_eq_true rfl) ?_
  intro p e s m args below meth c C hW ls hl
  have hl : lv_has ls 3 [(0, .ref (Z.1 125))] := hl
  unfold B_X11_readCommand at hf
  refine lv_aload_n C.1 C.2.1 dX11_readCommand_0 rfl (lv_at hl 0 rfl) ?_
  obtain ⟨u20, hcu20, hf⟩ := bnd_t hf
  refine x_calli hW (x_runV C hW hl (wk9 (k_125)) rfl rfl (c_X11_commandHere hcu20) (cw_X11_250) ci_X11_commandHere cs_X11_commandHere (rm_ok (by omega) (by decide)) ⟨Nat.le_refl _, Nat.le_refl _⟩ (As := []) rfl rfl (Nat.le_of_ble_eq_true rfl) dX11_readCommand_1) (fun H locs hW => ?_)
  refine lv_istore_n (lv' := [(1, .int u20.1), (0, .ref (Z.1 125))]) C.1 C.2.1 dX11_readCommand_4 rfl hl (by decide) rfl (fun ls hl => ?_)
  refine lv_aload_n C.1 C.2.1 dX11_readCommand_5 rfl (lv_at hl 1 rfl) ?_
  refine lv_iload_n C.1 C.2.1 dX11_readCommand_6 rfl (lv_at hl 0 rfl) ?_
  refine lv_iconst (v := -1) C.1 C.2.1 dX11_readCommand_7 (by decide) ?_
  refine x_cmpeq (tgt := 15) C hf dX11_readCommand_8 (by decide) (fun hf => ?_) (fun hf => ?_)
  · refine lv_iconst (v := 0) C.1 C.2.1 dX11_readCommand_15 (by decide) ?_
    exact j_X11_readCommand_16 C hcf_X11_readBlock hcf_X11_readCommand hW (lv_sub hl [1, 0] rfl) hf
  · refine lv_iconst (v := 1) C.1 C.2.1 dX11_readCommand_11 (by decide) ?_
    refine lv_goto (tgt := 16) C.1 C.2.1 dX11_readCommand_12 (by decide) ?_
    exact j_X11_readCommand_16 C hcf_X11_readBlock hcf_X11_readCommand hW (lv_sub hl [1, 0] rfl) hf
set_option maxRecDepth 20000 in
set_option maxHeartbeats 1000000 in
theorem rec_X11_readBlock {l : Launch} {Z : ZT} : ∀ n : Nat, (∀ {h g : Hp} {out : Hp}, (REC_X11_readBlock n).1 g = some out → Met l yX11_readBlock (wY yX11_readBlock cX11_readBlock 2 none) (rmD (10 + n)) (va_Pc [.ref (Z.1 125)] (Wd Z h g)) (va_Qv (fun (_ : Unit) => True) (fun _ => Wd Z h out) (FR Z)) 0 0 (FR Z)) ∧ (∀ {h g : Hp} {out : Hp}, (REC_X11_readBlock n).2 g = some out → Met l yX11_readCommand (wY yX11_readCommand cX11_readCommand 3 none) (rmD (10 + n)) (va_Pc [.ref (Z.1 125)] (Wd Z h g)) (va_Qv (fun (_ : Unit) => True) (fun _ => Wd Z h out) (FR Z)) 0 0 (FR Z)) := by
  intro n
  induction n with
  | zero => exact ⟨(fun hf => no_none hf), (fun hf => no_none hf)⟩
  | succ n ih =>
    exact ⟨(fun hf => b_X11_readBlock (n0 := n) (fun z => ih.1 z) (fun z => ih.2 z) hf), (fun hf => b_X11_readCommand (n0 := n) (fun z => ih.1 z) (fun z => ih.2 z) hf)⟩
set_option maxRecDepth 20000 in
set_option maxHeartbeats 1000000 in
theorem c_X11_readBlock {l : Launch} {Z : ZT} : ∀ {h g : Hp} {out : Hp}, f_X11_readBlock g = some out → Met l yX11_readBlock (wY yX11_readBlock cX11_readBlock 2 none) (rmD (10 + 64)) (va_Pc [.ref (Z.1 125)] (Wd Z h g)) (va_Qv (fun (_ : Unit) => True) (fun _ => Wd Z h out) (FR Z)) 0 0 (FR Z) := (rec_X11_readBlock 64).1
set_option maxRecDepth 20000 in
set_option maxHeartbeats 1000000 in
theorem c_X11_readCommand {l : Launch} {Z : ZT} : ∀ {h g : Hp} {out : Hp}, f_X11_readCommand g = some out → Met l yX11_readCommand (wY yX11_readCommand cX11_readCommand 3 none) (rmD (10 + 64)) (va_Pc [.ref (Z.1 125)] (Wd Z h g)) (va_Qv (fun (_ : Unit) => True) (fun _ => Wd Z h out) (FR Z)) 0 0 (FR Z) := (rec_X11_readBlock 64).2
set_option maxRecDepth 20000 in
set_option maxHeartbeats 1000000 in
theorem l_X11_loadScript_72 {l : Launch} {Z : ZT} {h : Hp} {p : Program} {e : Env} {s : State} {m : MethodId} {args : Array Value} {below : List Frame} {meth : Method} {c : Code} (C : CX p s m args meth c cX11_loadScript RX11 2 (some .int) Z) {out : Int32 × Hp} : ∀ (n : Nat) (x1 : Int32) (g : Hp) (ls : Array Slot) (H : Heap) (locs : List Loc), XW Z h g s.heap H locs → lv_has ls 2 [(0, .ref (Z.1 125)), (1, .int x1)] → Lp (F_X11_loadScript_72) n (x1, g) = some out → W p l e (rmD 76) s m args below meth c H locs 0 0 (MQ below (va_Qi (fun r (_ : Unit) => r = out.1) (fun _ => Wd Z h out.2) (FR Z)) args s 0 0 (FR Z)) (F0 m 72 ls []) := by
  intro n
  induction n with
  | zero => intro x1 g ls H locs hW hl hf; cases hf
  | succ n ih =>
    intro x1 g ls H locs hW hl hf
    rw [Lp_s] at hf
    refine lv_iload_n C.1 C.2.1 dX11_loadScript_72 rfl (lv_at hl 1 rfl) ?_
    refine lv_aload_n C.1 C.2.1 dX11_loadScript_73 rfl (lv_at hl 0 rfl) ?_
    refine xg_X11_272 C hW (k_125) dX11_loadScript_74 ?_
    refine x_cmpge (tgt := 98) C hf dX11_loadScript_77 (by decide) (fun hf => ?_) (fun hf => ?_)
    · refine lv_aload_n C.1 C.2.1 dX11_loadScript_98 rfl (lv_at hl 0 rfl) ?_
      refine xg_X11_253 C hW (k_125) dX11_loadScript_99 ?_
      obtain rfl := Option.some.inj hf
      exact x_iret C hW dX11_loadScript_102 rfl
    · refine lv_aload_n C.1 C.2.1 dX11_loadScript_80 rfl (lv_at hl 0 rfl) ?_
      refine xg_X11_57 C hW (k_125) dX11_loadScript_81 ?_
      refine lv_iload_n C.1 C.2.1 dX11_loadScript_84 rfl (lv_at hl 1 rfl) ?_
      refine lv_aload_n C.1 C.2.1 dX11_loadScript_85 rfl (lv_at hl 0 rfl) ?_
      refine xg_X11_60 C hW (k_125) dX11_loadScript_86 ?_
      refine lv_iload_n C.1 C.2.1 dX11_loadScript_89 rfl (lv_at hl 1 rfl) ?_
      refine x_ialdM C hW a_140 hf dX11_loadScript_90 (fun hf => ?_)
      refine x_iastM C hW a_139 hf dX11_loadScript_91 (fun g1 H locs hf hW => ?_)
      refine x_iinc (w := 1) C hf dX11_loadScript_92 hl (k := 1) rfl (by decide) (by decide) (fun v2 => [(1, .int v2), (0, .ref (Z.1 125))]) (fun _ => rfl) (fun v2 ls hf hl => ?_)
      refine lv_goto (tgt := 72) C.1 C.2.1 dX11_loadScript_95 (by decide) ?_
      exact ih v2 g1 ls _ _ hW (lv_sub hl [1, 0] rfl) hf
set_option maxRecDepth 20000 in
set_option maxHeartbeats 1000000 in
theorem j_X11_loadScript_53 {l : Launch} {Z : ZT} {h : Hp} {g : Hp} {p : Program} {e : Env} {s : State} {m : MethodId} {args : Array Value} {below : List Frame} {meth : Method} {c : Code} (C : CX p s m args meth c cX11_loadScript RX11 2 (some .int) Z) {out : Int32 × Hp} {ls : Array Slot} {H : Heap} {locs : List Loc} (hW : XW Z h g s.heap H locs) (hl : lv_has ls 2 [(0, .ref (Z.1 125))]) (hf : J_X11_loadScript_53 g = some out) : W p l e (rmD 76) s m args below meth c H locs 0 0 (MQ below (va_Qi (fun r (_ : Unit) => r = out.1) (fun _ => Wd Z h out.2) (FR Z)) args s 0 0 (FR Z)) (F0 m 53 ls []) := by
  rw [J_X11_loadScript_53] at hf
  refine lv_aload_n C.1 C.2.1 dX11_loadScript_53 rfl (lv_at hl 0 rfl) ?_
  obtain ⟨u3, hcu3, hf⟩ := bnd_t hf
  refine x_calli hW (x_runV C hW hl (wk9 (k_125)) rfl rfl (c_X11_endsText hcu3) (cw_X11_229) ci_X11_endsText cs_X11_endsText (rm_ok (by decide) (by decide)) ⟨Nat.le_refl _, Nat.le_refl _⟩ (As := []) rfl rfl (Nat.le_of_ble_eq_true rfl) dX11_loadScript_54) (fun H locs hW => ?_)
  refine x_ifne (tgt := 62) C hf dX11_loadScript_57 (by decide) (fun hf => ?_) (fun hf => ?_)
  · refine lv_aload_n C.1 C.2.1 dX11_loadScript_62 rfl (lv_at hl 0 rfl) ?_
    refine lv_aload_n C.1 C.2.1 dX11_loadScript_63 rfl (lv_at hl 0 rfl) ?_
    refine xg_X11_232 C hW (k_125) dX11_loadScript_64 ?_
    refine xp_X11_272 C hW (k_125) hf dX11_loadScript_67 (fun g4 H locs hf hW => ?_)
    refine lv_iconst (v := 0) C.1 C.2.1 dX11_loadScript_70 (by decide) ?_
    refine lv_istore_n (lv' := [(1, .int (0 : Int32)), (0, .ref (Z.1 125))]) C.1 C.2.1 dX11_loadScript_71 rfl hl (by decide) rfl (fun ls hl => ?_)
    exact l_X11_loadScript_72 C FU (0 : Int32) g4 ls _ _ hW (lv_sub hl [1, 0] rfl) hf
  · refine lv_iconst (v := 0) C.1 C.2.1 dX11_loadScript_60 (by decide) ?_
    obtain rfl := Option.some.inj hf
    exact x_iret C hW dX11_loadScript_61 rfl
set_option maxRecDepth 20000 in
set_option maxHeartbeats 1000000 in
theorem l_X11_loadScript_24 {l : Launch} {Z : ZT} {h : Hp} {p : Program} {e : Env} {s : State} {m : MethodId} {args : Array Value} {below : List Frame} {meth : Method} {c : Code} (C : CX p s m args meth c cX11_loadScript RX11 2 (some .int) Z) {out : Int32 × Hp} : ∀ (n : Nat) (g : Hp) (ls : Array Slot) (H : Heap) (locs : List Loc), XW Z h g s.heap H locs → lv_has ls 2 [(0, .ref (Z.1 125))] → Lp (F_X11_loadScript_24) n g = some out → W p l e (rmD 76) s m args below meth c H locs 0 0 (MQ below (va_Qi (fun r (_ : Unit) => r = out.1) (fun _ => Wd Z h out.2) (FR Z)) args s 0 0 (FR Z)) (F0 m 24 ls []) := by
  intro n
  induction n with
  | zero => intro g ls H locs hW hl hf; cases hf
  | succ n ih =>
    intro g ls H locs hW hl hf
    rw [Lp_s] at hf
    rw [F_X11_loadScript_24] at hf
    try dsimp only at hf
    refine lv_aload_n C.1 C.2.1 dX11_loadScript_24 rfl (lv_at hl 0 rfl) ?_
    obtain ⟨u5, hcu5, hf⟩ := bnd_t hf
    refine x_calli hW (x_runV C hW hl (wk9 (k_125)) rfl rfl (c_X11_hasFailed hcu5) (cw_X11_125) ci_X11_hasFailed cs_X11_hasFailed (rm_ok (by decide) (by decide)) ⟨Nat.le_refl _, Nat.le_refl _⟩ (As := []) rfl rfl (Nat.le_of_ble_eq_true rfl) dX11_loadScript_25) (fun H locs hW => ?_)
    refine x_ifne (tgt := 53) C hf dX11_loadScript_28 (by decide) (fun hf => ?_) (fun hf => ?_)
    · exact j_X11_loadScript_53 C hW (lv_sub hl [0] rfl) hf
    · refine lv_aload_n C.1 C.2.1 dX11_loadScript_31 rfl (lv_at hl 0 rfl) ?_
      refine xg_X11_119 C hW (k_125) dX11_loadScript_32 ?_
      refine lv_aload_n C.1 C.2.1 dX11_loadScript_35 rfl (lv_at hl 0 rfl) ?_
      refine xg_X11_122 C hW (k_125) dX11_loadScript_36 ?_
      refine x_cmpge (tgt := 53) C hf dX11_loadScript_39 (by decide) (fun hf => ?_) (fun hf => ?_)
      · exact j_X11_loadScript_53 C hW (lv_sub hl [0] rfl) hf
      · refine lv_aload_n C.1 C.2.1 dX11_loadScript_42 rfl (lv_at hl 0 rfl) ?_
        obtain ⟨u6, hcu6, hf⟩ := bnd_t hf
        refine x_callv hW (x_runV C hW hl (wk9 (k_125)) rfl rfl (c_X11_readCommand hcu6) (cw_X11_269) ci_X11_readCommand cs_X11_readCommand (rm_ok (by decide) (by decide)) ⟨Nat.le_refl _, Nat.le_refl _⟩ (As := []) rfl rfl (Nat.le_of_ble_eq_true rfl) dX11_loadScript_43) (fun H locs hW => ?_)
        refine lv_aload_n C.1 C.2.1 dX11_loadScript_46 rfl (lv_at hl 0 rfl) ?_
        obtain ⟨u7, hcu7, hf⟩ := bnd_t hf
        refine x_callv hW (x_runV C hW hl (wk9 (k_125)) rfl rfl (c_X11_blanks hcu7) (cw_X11_139) ci_X11_blanks cs_X11_blanks (rm_ok (by decide) (by decide)) ⟨Nat.le_refl _, Nat.le_refl _⟩ (As := []) rfl rfl (Nat.le_of_ble_eq_true rfl) dX11_loadScript_47) (fun H locs hW => ?_)
        refine lv_goto (tgt := 24) C.1 C.2.1 dX11_loadScript_50 (by decide) ?_
        exact ih u7 ls _ _ hW (lv_sub hl [0] rfl) hf
set_option maxRecDepth 20000 in
set_option maxHeartbeats 1000000 in
theorem c_X11_loadScript {l : Launch} {Z : ZT} {h : Hp} {g : Hp} {out : Int32 × Hp} (hf : f_X11_loadScript g = some out) : Met l yX11_loadScript (wY yX11_loadScript cX11_loadScript 2 (some .int)) (rmD 76) (va_Pc [.ref (Z.1 125)] (Wd Z h g)) (va_Qi (fun r (_ : Unit) => r = out.1) (fun _ => Wd Z h out.2) (FR Z)) 0 0 (FR Z) := by
  refine metX RX11 rfl (by decide +kernel) (Nat.le_of_ble_eq_true rfl) ?_
  intro p e s m args below meth c C hW ls hl
  have hl : lv_has ls 2 [(0, .ref (Z.1 125))] := hl
  unfold f_X11_loadScript at hf
  refine lv_aload_n C.1 C.2.1 dX11_loadScript_0 rfl (lv_at hl 0 rfl) ?_
  refine lv_iconst (v := 0) C.1 C.2.1 dX11_loadScript_1 (by decide) ?_
  refine xp_X11_3 C hW (k_125) hf dX11_loadScript_2 (fun g8 H locs hf hW => ?_)
  refine lv_aload_n C.1 C.2.1 dX11_loadScript_5 rfl (lv_at hl 0 rfl) ?_
  obtain ⟨u9, hcu9, hf⟩ := bnd_t hf
  refine x_callv hW (x_runV C hW hl (wk9 (k_125)) rfl rfl (c_X11_beginsText hcu9) (cw_X11_220) ci_X11_beginsText cs_X11_beginsText (rm_ok (by decide) (by decide)) ⟨Nat.le_refl _, Nat.le_refl _⟩ (As := []) rfl rfl (Nat.le_of_ble_eq_true rfl) dX11_loadScript_6) (fun H locs hW => ?_)
  refine lv_aload_n C.1 C.2.1 dX11_loadScript_9 rfl (lv_at hl 0 rfl) ?_
  refine lv_iconst (v := 0) C.1 C.2.1 dX11_loadScript_10 (by decide) ?_
  refine xp_X11_232 C hW (k_125) hf dX11_loadScript_11 (fun g10 H locs hf hW => ?_)
  refine lv_aload_n C.1 C.2.1 dX11_loadScript_14 rfl (lv_at hl 0 rfl) ?_
  refine lv_iconst (v := 0) C.1 C.2.1 dX11_loadScript_15 (by decide) ?_
  refine xp_X11_253 C hW (k_125) hf dX11_loadScript_16 (fun g11 H locs hf hW => ?_)
  refine lv_aload_n C.1 C.2.1 dX11_loadScript_19 rfl (lv_at hl 0 rfl) ?_
  refine lv_iconst (v := 0) C.1 C.2.1 dX11_loadScript_20 (by decide) ?_
  refine xp_X11_266 C hW (k_125) hf dX11_loadScript_21 (fun g12 H locs hf hW => ?_)
  exact l_X11_loadScript_24 C FU g12 ls _ _ hW (lv_sub hl [0] rfl) hf
set_option maxRecDepth 20000 in
set_option maxHeartbeats 1000000 in
theorem j_X11_noSpeaker_22 {l : Launch} {Z : ZT} {h : Hp} {p1 : Int32} {g : Hp} {s1 : Int32} {p : Program} {e : Env} {s : State} {m : MethodId} {args : Array Value} {below : List Frame} {meth : Method} {c : Code} (C : CX p s m args meth c cX11_noSpeaker RX11 2 (some .boolean) Z) {out : Int32 × Hp} {ls : Array Slot} {H : Heap} {locs : List Loc} (hW : XW Z h g s.heap H locs) (hl : lv_has ls 2 [(0, .ref (Z.1 125)), (1, .int p1)]) (hf : J_X11_noSpeaker_22 p1 g s1 = some out) : W p l e (rmD 1) s m args below meth c H locs 0 0 (MQ below (va_Qi (fun r (_ : Unit) => r = out.1) (fun _ => Wd Z h out.2) (FR Z)) args s 0 0 (FR Z)) (F0 m 22 ls [.int s1, .ref (Z.1 125)]) := by
  rw [J_X11_noSpeaker_22] at hf
  refine lv_iconst (v := 1) C.1 C.2.1 dX11_noSpeaker_22 (by decide) ?_
  obtain ⟨u1, hcu1, hf⟩ := bnd_t hf
  refine x_calli hW (x_runV C hW hl (wk9 (k_125)) rfl rfl (c_X11_throwsIf hcu1) (cw_X11_216) ci_X11_throwsIf cs_X11_throwsIf (rm_ok (by decide) (by decide)) ⟨Nat.le_refl _, Nat.le_refl _⟩ (As := [.int s1, .int (1 : Int32)]) rfl rfl (Nat.le_of_ble_eq_true rfl) dX11_noSpeaker_23) (fun H locs hW => ?_)
  obtain ⟨hz, hf⟩ := ck_t hf
  obtain rfl := Option.some.inj hf
  exact x_zret C hW hz dX11_noSpeaker_26 rfl
set_option maxRecDepth 20000 in
set_option maxHeartbeats 1000000 in
theorem c_X11_noSpeaker {l : Launch} {Z : ZT} {h : Hp} {g : Hp} {p1 : Int32} {out : Int32 × Hp} (hf : f_X11_noSpeaker g p1 = some out) : Met l yX11_noSpeaker (wY yX11_noSpeaker cX11_noSpeaker 2 (some .boolean)) (rmD 1) (va_Pc [.ref (Z.1 125), .int p1] (Wd Z h g)) (va_Qi (fun r (_ : Unit) => r = out.1) (fun _ => Wd Z h out.2) (FR Z)) 0 0 (FR Z) := by
  refine metX RX11 rfl (by decide +kernel) (Nat.le_of_ble_eq_true rfl) ?_
  intro p e s m args below meth c C hW ls hl
  have hl : lv_has ls 2 [(0, .ref (Z.1 125)), (1, .int p1)] := hl
  unfold f_X11_noSpeaker at hf
  refine lv_aload_n C.1 C.2.1 dX11_noSpeaker_0 rfl (lv_at hl 0 rfl) ?_
  refine lv_iload_n C.1 C.2.1 dX11_noSpeaker_1 rfl (lv_at hl 1 rfl) ?_
  refine lv_iconst (v := 0) C.1 C.2.1 dX11_noSpeaker_2 (by decide) ?_
  refine lv_aload_n C.1 C.2.1 dX11_noSpeaker_3 rfl (lv_at hl 0 rfl) ?_
  refine xg_X11_13 C hW (k_125) dX11_noSpeaker_4 ?_
  refine lv_iconst (v := 2) C.1 C.2.1 dX11_noSpeaker_7 (by decide) ?_
  refine x_ialdM C hW a_126 hf dX11_noSpeaker_8 (fun hf => ?_)
  refine lv_iconst (v := 1) C.1 C.2.1 dX11_noSpeaker_9 (by decide) ?_
  refine lv_isub C.1 C.2.1 dX11_noSpeaker_10 ?_
  obtain ⟨u2, hcu2, hf⟩ := bnd_t hf
  refine x_calli hW (x_runS C hW hl (c_X11_in hcu2) (cw_X11_166) ct_X11_in (rm_ok (by decide) (by decide)) ⟨Nat.le_refl _, Nat.le_refl _⟩ (As := [.int p1, .int (0 : Int32), .int (g 126 (ix (2 : Int32)) - (1 : Int32))]) rfl rfl (Nat.le_of_ble_eq_true rfl) dX11_noSpeaker_11) (fun H locs hW => ?_)
  refine x_ifne (tgt := 21) C hf dX11_noSpeaker_14 (by decide) (fun hf => ?_) (fun hf => ?_)
  · refine lv_iconst (v := 0) C.1 C.2.1 dX11_noSpeaker_21 (by decide) ?_
    exact j_X11_noSpeaker_22 C hW (lv_sub hl [0, 1] rfl) hf
  · refine lv_iconst (v := 1) C.1 C.2.1 dX11_noSpeaker_17 (by decide) ?_
    refine lv_goto (tgt := 22) C.1 C.2.1 dX11_noSpeaker_18 (by decide) ?_
    exact j_X11_noSpeaker_22 C hW (lv_sub hl [0, 1] rfl) hf
set_option maxRecDepth 20000 in
set_option maxHeartbeats 1000000 in
theorem j_X11_noWord_20 {l : Launch} {Z : ZT} {h : Hp} {p1 : Int32} {g : Hp} {s1 : Int32} {p : Program} {e : Env} {s : State} {m : MethodId} {args : Array Value} {below : List Frame} {meth : Method} {c : Code} (C : CX p s m args meth c cX11_noWord RX11 2 (some .boolean) Z) {out : Int32 × Hp} {ls : Array Slot} {H : Heap} {locs : List Loc} (hW : XW Z h g s.heap H locs) (hl : lv_has ls 2 [(0, .ref (Z.1 125)), (1, .int p1)]) (hf : J_X11_noWord_20 p1 g s1 = some out) : W p l e (rmD 1) s m args below meth c H locs 0 0 (MQ below (va_Qi (fun r (_ : Unit) => r = out.1) (fun _ => Wd Z h out.2) (FR Z)) args s 0 0 (FR Z)) (F0 m 20 ls [.int s1, .ref (Z.1 125)]) := by
  rw [J_X11_noWord_20] at hf
  refine lv_iconst (v := 1) C.1 C.2.1 dX11_noWord_20 (by decide) ?_
  obtain ⟨u1, hcu1, hf⟩ := bnd_t hf
  refine x_calli hW (x_runV C hW hl (wk9 (k_125)) rfl rfl (c_X11_throwsIf hcu1) (cw_X11_216) ci_X11_throwsIf cs_X11_throwsIf (rm_ok (by decide) (by decide)) ⟨Nat.le_refl _, Nat.le_refl _⟩ (As := [.int s1, .int (1 : Int32)]) rfl rfl (Nat.le_of_ble_eq_true rfl) dX11_noWord_21) (fun H locs hW => ?_)
  obtain ⟨hz, hf⟩ := ck_t hf
  obtain rfl := Option.some.inj hf
  exact x_zret C hW hz dX11_noWord_24 rfl
set_option maxRecDepth 20000 in
set_option maxHeartbeats 1000000 in
theorem c_X11_noWord {l : Launch} {Z : ZT} {h : Hp} {g : Hp} {p1 : Int32} {out : Int32 × Hp} (hf : f_X11_noWord g p1 = some out) : Met l yX11_noWord (wY yX11_noWord cX11_noWord 2 (some .boolean)) (rmD 1) (va_Pc [.ref (Z.1 125), .int p1] (Wd Z h g)) (va_Qi (fun r (_ : Unit) => r = out.1) (fun _ => Wd Z h out.2) (FR Z)) 0 0 (FR Z) := by
  refine metX RX11 rfl (by decide +kernel) (Nat.le_of_ble_eq_true rfl) ?_
  intro p e s m args below meth c C hW ls hl
  have hl : lv_has ls 2 [(0, .ref (Z.1 125)), (1, .int p1)] := hl
  unfold f_X11_noWord at hf
  refine lv_aload_n C.1 C.2.1 dX11_noWord_0 rfl (lv_at hl 0 rfl) ?_
  refine lv_iload_n C.1 C.2.1 dX11_noWord_1 rfl (lv_at hl 1 rfl) ?_
  refine lv_iconst (v := 0) C.1 C.2.1 dX11_noWord_2 (by decide) ?_
  refine lv_aload_n C.1 C.2.1 dX11_noWord_3 rfl (lv_at hl 0 rfl) ?_
  obtain ⟨u2, hcu2, hf⟩ := bnd_t hf
  refine x_calli hW (x_runV C hW hl (wk9 (k_125)) rfl rfl (c_X11_words hcu2) (cw_X11_90) ci_X11_words cs_X11_words (rm_ok (by decide) (by decide)) ⟨Nat.le_refl _, Nat.le_refl _⟩ (As := []) rfl rfl (Nat.le_of_ble_eq_true rfl) dX11_noWord_4) (fun H locs hW => ?_)
  refine lv_iconst (v := 1) C.1 C.2.1 dX11_noWord_7 (by decide) ?_
  refine lv_isub C.1 C.2.1 dX11_noWord_8 ?_
  obtain ⟨u3, hcu3, hf⟩ := bnd_t hf
  refine x_calli hW (x_runS C hW hl (c_X11_in hcu3) (cw_X11_166) ct_X11_in (rm_ok (by decide) (by decide)) ⟨Nat.le_refl _, Nat.le_refl _⟩ (As := [.int p1, .int (0 : Int32), .int (u2 - (1 : Int32))]) rfl rfl (Nat.le_of_ble_eq_true rfl) dX11_noWord_9) (fun H locs hW => ?_)
  refine x_ifne (tgt := 19) C hf dX11_noWord_12 (by decide) (fun hf => ?_) (fun hf => ?_)
  · refine lv_iconst (v := 0) C.1 C.2.1 dX11_noWord_19 (by decide) ?_
    exact j_X11_noWord_20 C hW (lv_sub hl [0, 1] rfl) hf
  · refine lv_iconst (v := 1) C.1 C.2.1 dX11_noWord_15 (by decide) ?_
    refine lv_goto (tgt := 20) C.1 C.2.1 dX11_noWord_16 (by decide) ?_
    exact j_X11_noWord_20 C hW (lv_sub hl [0, 1] rfl) hf
