abbrev cX11_finds : ByteArray := prog_13_method_84_code
def yX11_finds : MethodName := ⟨RX11, "finds", "(I)Z"⟩
theorem dX11_finds_0 : decode cX11_finds 0 = .ok (.iload_n 1, 1) := by decide +kernel
theorem dX11_finds_1 : decode cX11_finds 1 = .ok (.istore_n 2, 1) := by decide +kernel
theorem dX11_finds_2 : decode cX11_finds 2 = .ok (.iconst 0, 1) := by decide +kernel
theorem dX11_finds_3 : decode cX11_finds 3 = .ok (.istore_n 3, 1) := by decide +kernel
theorem dX11_finds_4 : decode cX11_finds 4 = .ok (.iload_n 3, 1) := by decide +kernel
theorem dX11_finds_5 : decode cX11_finds 5 = .ok (.aload_n 0, 1) := by decide +kernel
theorem dX11_finds_6 : decode cX11_finds 6 = .ok (.getfield 38, 3) := by decide +kernel
theorem dX11_finds_9 : decode cX11_finds 9 = .ok (.bipush 40, 2) := by decide +kernel
theorem dX11_finds_11 : decode cX11_finds 11 = .ok (.iaload, 1) := by decide +kernel
theorem dX11_finds_12 : decode cX11_finds 12 = .ok (.if_icmp .ge 58, 3) := by decide +kernel
theorem dX11_finds_15 : decode cX11_finds 15 = .ok (.iload_n 2, 1) := by decide +kernel
theorem dX11_finds_16 : decode cX11_finds 16 = .ok (.ifCond .lt 54, 3) := by decide +kernel
theorem dX11_finds_19 : decode cX11_finds 19 = .ok (.aload_n 0, 1) := by decide +kernel
theorem dX11_finds_20 : decode cX11_finds 20 = .ok (.iload_n 3, 1) := by decide +kernel
theorem dX11_finds_21 : decode cX11_finds 21 = .ok (.invokevirtual 311, 3) := by decide +kernel
theorem dX11_finds_24 : decode cX11_finds 24 = .ok (.istore 4, 2) := by decide +kernel
theorem dX11_finds_26 : decode cX11_finds 26 = .ok (.iload_n 2, 1) := by decide +kernel
theorem dX11_finds_27 : decode cX11_finds 27 = .ok (.aload_n 0, 1) := by decide +kernel
theorem dX11_finds_28 : decode cX11_finds 28 = .ok (.iload 4, 2) := by decide +kernel
theorem dX11_finds_30 : decode cX11_finds 30 = .ok (.invokevirtual 314, 3) := by decide +kernel
theorem dX11_finds_33 : decode cX11_finds 33 = .ok (.if_icmp .ge 22, 3) := by decide +kernel
theorem dX11_finds_36 : decode cX11_finds 36 = .ok (.aload_n 0, 1) := by decide +kernel
theorem dX11_finds_37 : decode cX11_finds 37 = .ok (.iload_n 3, 1) := by decide +kernel
theorem dX11_finds_38 : decode cX11_finds 38 = .ok (.putfield 332, 3) := by decide +kernel
theorem dX11_finds_41 : decode cX11_finds 41 = .ok (.aload_n 0, 1) := by decide +kernel
theorem dX11_finds_42 : decode cX11_finds 42 = .ok (.aload_n 0, 1) := by decide +kernel
theorem dX11_finds_43 : decode cX11_finds 43 = .ok (.iload 4, 2) := by decide +kernel
theorem dX11_finds_45 : decode cX11_finds 45 = .ok (.invokevirtual 308, 3) := by decide +kernel
theorem dX11_finds_48 : decode cX11_finds 48 = .ok (.iload_n 2, 1) := by decide +kernel
theorem dX11_finds_49 : decode cX11_finds 49 = .ok (.iadd, 1) := by decide +kernel
theorem dX11_finds_50 : decode cX11_finds 50 = .ok (.putfield 335, 3) := by decide +kernel
theorem dX11_finds_53 : decode cX11_finds 53 = .ok (.iconst 1, 1) := by decide +kernel
theorem dX11_finds_54 : decode cX11_finds 54 = .ok (.ireturn, 1) := by decide +kernel
theorem dX11_finds_55 : decode cX11_finds 55 = .ok (.iload_n 2, 1) := by decide +kernel
theorem dX11_finds_56 : decode cX11_finds 56 = .ok (.aload_n 0, 1) := by decide +kernel
theorem dX11_finds_57 : decode cX11_finds 57 = .ok (.iload 4, 2) := by decide +kernel
theorem dX11_finds_59 : decode cX11_finds 59 = .ok (.invokevirtual 314, 3) := by decide +kernel
theorem dX11_finds_62 : decode cX11_finds 62 = .ok (.isub, 1) := by decide +kernel
theorem dX11_finds_63 : decode cX11_finds 63 = .ok (.istore_n 2, 1) := by decide +kernel
theorem dX11_finds_64 : decode cX11_finds 64 = .ok (.iinc 3 1, 3) := by decide +kernel
theorem dX11_finds_67 : decode cX11_finds 67 = .ok (.goto (-63), 3) := by decide +kernel
theorem dX11_finds_70 : decode cX11_finds 70 = .ok (.iconst 0, 1) := by decide +kernel
theorem dX11_finds_71 : decode cX11_finds 71 = .ok (.ireturn, 1) := by decide +kernel
theorem ci_X11_finds : Cond.instanceMethod yX11_finds ∈ TW := TW_of 1831 (by decide +kernel) (by decide +kernel)
theorem cs_X11_finds : Cond.selects yX11_finds.cls yX11_finds yX11_finds ∈ TW := TW_of 75 (by decide +kernel) (by decide +kernel)
abbrev cX11_sourceOf : ByteArray := prog_13_method_85_code
def yX11_sourceOf : MethodName := ⟨RX11, "sourceOf", "(I)I"⟩
theorem dX11_sourceOf_0 : decode cX11_sourceOf 0 = .ok (.aload_n 0, 1) := by decide +kernel
theorem dX11_sourceOf_1 : decode cX11_sourceOf 1 = .ok (.iconst 0, 1) := by decide +kernel
theorem dX11_sourceOf_2 : decode cX11_sourceOf 2 = .ok (.putfield 3, 3) := by decide +kernel
theorem dX11_sourceOf_5 : decode cX11_sourceOf 5 = .ok (.aload_n 0, 1) := by decide +kernel
theorem dX11_sourceOf_6 : decode cX11_sourceOf 6 = .ok (.iload_n 1, 1) := by decide +kernel
theorem dX11_sourceOf_7 : decode cX11_sourceOf 7 = .ok (.invokevirtual 338, 3) := by decide +kernel
theorem dX11_sourceOf_10 : decode cX11_sourceOf 10 = .ok (.ifCond .eq 10, 3) := by decide +kernel
theorem dX11_sourceOf_13 : decode cX11_sourceOf 13 = .ok (.aload_n 0, 1) := by decide +kernel
theorem dX11_sourceOf_14 : decode cX11_sourceOf 14 = .ok (.getfield 335, 3) := by decide +kernel
theorem dX11_sourceOf_17 : decode cX11_sourceOf 17 = .ok (.goto 4, 3) := by decide +kernel
theorem dX11_sourceOf_20 : decode cX11_sourceOf 20 = .ok (.iconst (-1), 1) := by decide +kernel
theorem dX11_sourceOf_21 : decode cX11_sourceOf 21 = .ok (.ireturn, 1) := by decide +kernel
theorem ci_X11_sourceOf : Cond.instanceMethod yX11_sourceOf ∈ TW := TW_of 1826 (by decide +kernel) (by decide +kernel)
theorem cs_X11_sourceOf : Cond.selects yX11_sourceOf.cls yX11_sourceOf yX11_sourceOf ∈ TW := TW_of 1827 (by decide +kernel) (by decide +kernel)
abbrev cX11_heardBy : ByteArray := prog_13_method_86_code
def yX11_heardBy : MethodName := ⟨RX11, "heardBy", "(I)I"⟩
theorem dX11_heardBy_0 : decode cX11_heardBy 0 = .ok (.aload_n 0, 1) := by decide +kernel
theorem dX11_heardBy_1 : decode cX11_heardBy 1 = .ok (.aload_n 0, 1) := by decide +kernel
theorem dX11_heardBy_2 : decode cX11_heardBy 2 = .ok (.getfield 332, 3) := by decide +kernel
theorem dX11_heardBy_5 : decode cX11_heardBy 5 = .ok (.invokevirtual 311, 3) := by decide +kernel
theorem dX11_heardBy_8 : decode cX11_heardBy 8 = .ok (.istore_n 2, 1) := by decide +kernel
theorem dX11_heardBy_9 : decode cX11_heardBy 9 = .ok (.aload_n 0, 1) := by decide +kernel
theorem dX11_heardBy_10 : decode cX11_heardBy 10 = .ok (.getfield 29, 3) := by decide +kernel
theorem dX11_heardBy_13 : decode cX11_heardBy 13 = .ok (.iload_n 2, 1) := by decide +kernel
theorem dX11_heardBy_14 : decode cX11_heardBy 14 = .ok (.iaload, 1) := by decide +kernel
theorem dX11_heardBy_15 : decode cX11_heardBy 15 = .ok (.istore_n 3, 1) := by decide +kernel
theorem dX11_heardBy_16 : decode cX11_heardBy 16 = .ok (.iload_n 3, 1) := by decide +kernel
theorem dX11_heardBy_17 : decode cX11_heardBy 17 = .ok (.aload_n 0, 1) := by decide +kernel
theorem dX11_heardBy_18 : decode cX11_heardBy 18 = .ok (.getfield 29, 3) := by decide +kernel
theorem dX11_heardBy_21 : decode cX11_heardBy 21 = .ok (.iload_n 2, 1) := by decide +kernel
theorem dX11_heardBy_22 : decode cX11_heardBy 22 = .ok (.iconst 1, 1) := by decide +kernel
theorem dX11_heardBy_23 : decode cX11_heardBy 23 = .ok (.iadd, 1) := by decide +kernel
theorem dX11_heardBy_24 : decode cX11_heardBy 24 = .ok (.iaload, 1) := by decide +kernel
theorem dX11_heardBy_25 : decode cX11_heardBy 25 = .ok (.if_icmp .ge 70, 3) := by decide +kernel
theorem dX11_heardBy_28 : decode cX11_heardBy 28 = .ok (.iload_n 1, 1) := by decide +kernel
theorem dX11_heardBy_29 : decode cX11_heardBy 29 = .ok (.iconst (-1), 1) := by decide +kernel
theorem dX11_heardBy_30 : decode cX11_heardBy 30 = .ok (.if_icmp .eq 13, 3) := by decide +kernel
theorem dX11_heardBy_33 : decode cX11_heardBy 33 = .ok (.aload_n 0, 1) := by decide +kernel
theorem dX11_heardBy_34 : decode cX11_heardBy 34 = .ok (.iload_n 3, 1) := by decide +kernel
theorem dX11_heardBy_35 : decode cX11_heardBy 35 = .ok (.iconst 0, 1) := by decide +kernel
theorem dX11_heardBy_36 : decode cX11_heardBy 36 = .ok (.invokevirtual 94, 3) := by decide +kernel
theorem dX11_heardBy_39 : decode cX11_heardBy 39 = .ok (.iload_n 1, 1) := by decide +kernel
theorem dX11_heardBy_40 : decode cX11_heardBy 40 = .ok (.if_icmp .ne 7, 3) := by decide +kernel
theorem dX11_heardBy_43 : decode cX11_heardBy 43 = .ok (.iconst 1, 1) := by decide +kernel
theorem dX11_heardBy_44 : decode cX11_heardBy 44 = .ok (.goto 4, 3) := by decide +kernel
theorem dX11_heardBy_47 : decode cX11_heardBy 47 = .ok (.iconst 0, 1) := by decide +kernel
theorem dX11_heardBy_48 : decode cX11_heardBy 48 = .ok (.istore 4, 2) := by decide +kernel
theorem dX11_heardBy_50 : decode cX11_heardBy 50 = .ok (.iload 4, 2) := by decide +kernel
theorem dX11_heardBy_52 : decode cX11_heardBy 52 = .ok (.ifCond .eq 37, 3) := by decide +kernel
theorem dX11_heardBy_55 : decode cX11_heardBy 55 = .ok (.aload_n 0, 1) := by decide +kernel
theorem dX11_heardBy_56 : decode cX11_heardBy 56 = .ok (.iload_n 3, 1) := by decide +kernel
theorem dX11_heardBy_57 : decode cX11_heardBy 57 = .ok (.invokevirtual 275, 3) := by decide +kernel
theorem dX11_heardBy_60 : decode cX11_heardBy 60 = .ok (.ifCond .eq 29, 3) := by decide +kernel
theorem dX11_heardBy_63 : decode cX11_heardBy 63 = .ok (.aload_n 0, 1) := by decide +kernel
theorem dX11_heardBy_64 : decode cX11_heardBy 64 = .ok (.getfield 335, 3) := by decide +kernel
theorem dX11_heardBy_67 : decode cX11_heardBy 67 = .ok (.aload_n 0, 1) := by decide +kernel
theorem dX11_heardBy_68 : decode cX11_heardBy 68 = .ok (.iload_n 3, 1) := by decide +kernel
theorem dX11_heardBy_69 : decode cX11_heardBy 69 = .ok (.iconst 2, 1) := by decide +kernel
theorem dX11_heardBy_70 : decode cX11_heardBy 70 = .ok (.invokevirtual 94, 3) := by decide +kernel
theorem dX11_heardBy_73 : decode cX11_heardBy 73 = .ok (.aload_n 0, 1) := by decide +kernel
theorem dX11_heardBy_74 : decode cX11_heardBy 74 = .ok (.iload_n 3, 1) := by decide +kernel
theorem dX11_heardBy_75 : decode cX11_heardBy 75 = .ok (.iconst 3, 1) := by decide +kernel
theorem dX11_heardBy_76 : decode cX11_heardBy 76 = .ok (.invokevirtual 94, 3) := by decide +kernel
theorem dX11_heardBy_79 : decode cX11_heardBy 79 = .ok (.iconst 1, 1) := by decide +kernel
theorem dX11_heardBy_80 : decode cX11_heardBy 80 = .ok (.isub, 1) := by decide +kernel
theorem dX11_heardBy_81 : decode cX11_heardBy 81 = .ok (.invokestatic 166, 3) := by decide +kernel
theorem dX11_heardBy_84 : decode cX11_heardBy 84 = .ok (.ifCond .eq 5, 3) := by decide +kernel
theorem dX11_heardBy_87 : decode cX11_heardBy 87 = .ok (.iload_n 3, 1) := by decide +kernel
theorem dX11_heardBy_88 : decode cX11_heardBy 88 = .ok (.ireturn, 1) := by decide +kernel
theorem dX11_heardBy_89 : decode cX11_heardBy 89 = .ok (.iinc 3 1, 3) := by decide +kernel
theorem dX11_heardBy_92 : decode cX11_heardBy 92 = .ok (.goto (-76), 3) := by decide +kernel
theorem dX11_heardBy_95 : decode cX11_heardBy 95 = .ok (.iconst (-1), 1) := by decide +kernel
theorem dX11_heardBy_96 : decode cX11_heardBy 96 = .ok (.ireturn, 1) := by decide +kernel
theorem ci_X11_heardBy : Cond.instanceMethod yX11_heardBy ∈ TW := TW_of 1843 (by decide +kernel) (by decide +kernel)
theorem cs_X11_heardBy : Cond.selects yX11_heardBy.cls yX11_heardBy yX11_heardBy ∈ TW := TW_of 77 (by decide +kernel) (by decide +kernel)
abbrev cX11_heard : ByteArray := prog_13_method_87_code
def yX11_heard : MethodName := ⟨RX11, "heard", "(II)I"⟩
theorem dX11_heard_0 : decode cX11_heard 0 = .ok (.aload_n 0, 1) := by decide +kernel
theorem dX11_heard_1 : decode cX11_heard 1 = .ok (.iconst 0, 1) := by decide +kernel
theorem dX11_heard_2 : decode cX11_heard 2 = .ok (.putfield 3, 3) := by decide +kernel
theorem dX11_heard_5 : decode cX11_heard 5 = .ok (.aload_n 0, 1) := by decide +kernel
theorem dX11_heard_6 : decode cX11_heard 6 = .ok (.iload_n 2, 1) := by decide +kernel
theorem dX11_heard_7 : decode cX11_heard 7 = .ok (.invokevirtual 341, 3) := by decide +kernel
theorem dX11_heard_10 : decode cX11_heard 10 = .ok (.ifCond .eq 5, 3) := by decide +kernel
theorem dX11_heard_13 : decode cX11_heard 13 = .ok (.iconst 0, 1) := by decide +kernel
theorem dX11_heard_14 : decode cX11_heard 14 = .ok (.ireturn, 1) := by decide +kernel
theorem dX11_heard_15 : decode cX11_heard 15 = .ok (.aload_n 0, 1) := by decide +kernel
theorem dX11_heard_16 : decode cX11_heard 16 = .ok (.iload_n 1, 1) := by decide +kernel
theorem dX11_heard_17 : decode cX11_heard 17 = .ok (.invokevirtual 338, 3) := by decide +kernel
theorem dX11_heard_20 : decode cX11_heard 20 = .ok (.ifCond .eq 11, 3) := by decide +kernel
theorem dX11_heard_23 : decode cX11_heard 23 = .ok (.aload_n 0, 1) := by decide +kernel
theorem dX11_heard_24 : decode cX11_heard 24 = .ok (.iload_n 2, 1) := by decide +kernel
theorem dX11_heard_25 : decode cX11_heard 25 = .ok (.invokevirtual 344, 3) := by decide +kernel
theorem dX11_heard_28 : decode cX11_heard 28 = .ok (.goto 4, 3) := by decide +kernel
theorem dX11_heard_31 : decode cX11_heard 31 = .ok (.iconst (-1), 1) := by decide +kernel
theorem dX11_heard_32 : decode cX11_heard 32 = .ok (.ireturn, 1) := by decide +kernel
theorem ci_X11_heard : Cond.instanceMethod yX11_heard ∈ TW := TW_of 1834 (by decide +kernel) (by decide +kernel)
theorem cs_X11_heard : Cond.selects yX11_heard.cls yX11_heard yX11_heard ∈ TW := TW_of 1835 (by decide +kernel) (by decide +kernel)
abbrev cX11_countsSilence : ByteArray := prog_13_method_88_code
def yX11_countsSilence : MethodName := ⟨RX11, "countsSilence", "()V"⟩
theorem dX11_countsSilence_0 : decode cX11_countsSilence 0 = .ok (.aload_n 0, 1) := by decide +kernel
theorem dX11_countsSilence_1 : decode cX11_countsSilence 1 = .ok (.iconst 0, 1) := by decide +kernel
theorem dX11_countsSilence_2 : decode cX11_countsSilence 2 = .ok (.putfield 347, 3) := by decide +kernel
theorem dX11_countsSilence_5 : decode cX11_countsSilence 5 = .ok (.aload_n 0, 1) := by decide +kernel
theorem dX11_countsSilence_6 : decode cX11_countsSilence 6 = .ok (.iconst 0, 1) := by decide +kernel
theorem dX11_countsSilence_7 : decode cX11_countsSilence 7 = .ok (.putfield 350, 3) := by decide +kernel
theorem dX11_countsSilence_10 : decode cX11_countsSilence 10 = .ok (.iconst 0, 1) := by decide +kernel
theorem dX11_countsSilence_11 : decode cX11_countsSilence 11 = .ok (.istore_n 1, 1) := by decide +kernel
theorem dX11_countsSilence_12 : decode cX11_countsSilence 12 = .ok (.iconst 0, 1) := by decide +kernel
theorem dX11_countsSilence_13 : decode cX11_countsSilence 13 = .ok (.istore_n 2, 1) := by decide +kernel
theorem dX11_countsSilence_14 : decode cX11_countsSilence 14 = .ok (.iload_n 2, 1) := by decide +kernel
theorem dX11_countsSilence_15 : decode cX11_countsSilence 15 = .ok (.aload_n 0, 1) := by decide +kernel
theorem dX11_countsSilence_16 : decode cX11_countsSilence 16 = .ok (.getfield 38, 3) := by decide +kernel
theorem dX11_countsSilence_19 : decode cX11_countsSilence 19 = .ok (.bipush 40, 2) := by decide +kernel
theorem dX11_countsSilence_21 : decode cX11_countsSilence 21 = .ok (.iaload, 1) := by decide +kernel
theorem dX11_countsSilence_22 : decode cX11_countsSilence 22 = .ok (.if_icmp .ge 114, 3) := by decide +kernel
theorem dX11_countsSilence_25 : decode cX11_countsSilence 25 = .ok (.aload_n 0, 1) := by decide +kernel
theorem dX11_countsSilence_26 : decode cX11_countsSilence 26 = .ok (.iload_n 2, 1) := by decide +kernel
theorem dX11_countsSilence_27 : decode cX11_countsSilence 27 = .ok (.putfield 332, 3) := by decide +kernel
theorem dX11_countsSilence_30 : decode cX11_countsSilence 30 = .ok (.aload_n 0, 1) := by decide +kernel
theorem dX11_countsSilence_31 : decode cX11_countsSilence 31 = .ok (.iload_n 2, 1) := by decide +kernel
theorem dX11_countsSilence_32 : decode cX11_countsSilence 32 = .ok (.invokevirtual 311, 3) := by decide +kernel
theorem dX11_countsSilence_35 : decode cX11_countsSilence 35 = .ok (.istore_n 3, 1) := by decide +kernel
theorem dX11_countsSilence_36 : decode cX11_countsSilence 36 = .ok (.aload_n 0, 1) := by decide +kernel
theorem dX11_countsSilence_37 : decode cX11_countsSilence 37 = .ok (.aload_n 0, 1) := by decide +kernel
theorem dX11_countsSilence_38 : decode cX11_countsSilence 38 = .ok (.iload_n 3, 1) := by decide +kernel
theorem dX11_countsSilence_39 : decode cX11_countsSilence 39 = .ok (.invokevirtual 308, 3) := by decide +kernel
theorem dX11_countsSilence_42 : decode cX11_countsSilence 42 = .ok (.putfield 335, 3) := by decide +kernel
theorem dX11_countsSilence_45 : decode cX11_countsSilence 45 = .ok (.aload_n 0, 1) := by decide +kernel
theorem dX11_countsSilence_46 : decode cX11_countsSilence 46 = .ok (.getfield 335, 3) := by decide +kernel
theorem dX11_countsSilence_49 : decode cX11_countsSilence 49 = .ok (.aload_n 0, 1) := by decide +kernel
theorem dX11_countsSilence_50 : decode cX11_countsSilence 50 = .ok (.iload_n 3, 1) := by decide +kernel
theorem dX11_countsSilence_51 : decode cX11_countsSilence 51 = .ok (.invokevirtual 305, 3) := by decide +kernel
theorem dX11_countsSilence_54 : decode cX11_countsSilence 54 = .ok (.if_icmp .ge 76, 3) := by decide +kernel
theorem dX11_countsSilence_57 : decode cX11_countsSilence 57 = .ok (.aload_n 0, 1) := by decide +kernel
theorem dX11_countsSilence_58 : decode cX11_countsSilence 58 = .ok (.iconst (-1), 1) := by decide +kernel
theorem dX11_countsSilence_59 : decode cX11_countsSilence 59 = .ok (.invokevirtual 344, 3) := by decide +kernel
theorem dX11_countsSilence_62 : decode cX11_countsSilence 62 = .ok (.iconst (-1), 1) := by decide +kernel
theorem dX11_countsSilence_63 : decode cX11_countsSilence 63 = .ok (.if_icmp .ne 7, 3) := by decide +kernel
theorem dX11_countsSilence_66 : decode cX11_countsSilence 66 = .ok (.iconst 1, 1) := by decide +kernel
theorem dX11_countsSilence_67 : decode cX11_countsSilence 67 = .ok (.goto 4, 3) := by decide +kernel
theorem dX11_countsSilence_70 : decode cX11_countsSilence 70 = .ok (.iconst 0, 1) := by decide +kernel
theorem dX11_countsSilence_71 : decode cX11_countsSilence 71 = .ok (.istore 4, 2) := by decide +kernel
theorem dX11_countsSilence_73 : decode cX11_countsSilence 73 = .ok (.aload_n 0, 1) := by decide +kernel
theorem dX11_countsSilence_74 : decode cX11_countsSilence 74 = .ok (.dup, 1) := by decide +kernel
theorem dX11_countsSilence_75 : decode cX11_countsSilence 75 = .ok (.getfield 347, 3) := by decide +kernel
theorem dX11_countsSilence_78 : decode cX11_countsSilence 78 = .ok (.iload 4, 2) := by decide +kernel
theorem dX11_countsSilence_80 : decode cX11_countsSilence 80 = .ok (.ifCond .eq 7, 3) := by decide +kernel
theorem dX11_countsSilence_83 : decode cX11_countsSilence 83 = .ok (.iconst 1, 1) := by decide +kernel
theorem dX11_countsSilence_84 : decode cX11_countsSilence 84 = .ok (.goto 4, 3) := by decide +kernel
theorem dX11_countsSilence_87 : decode cX11_countsSilence 87 = .ok (.iconst 0, 1) := by decide +kernel
theorem dX11_countsSilence_88 : decode cX11_countsSilence 88 = .ok (.iadd, 1) := by decide +kernel
theorem dX11_countsSilence_89 : decode cX11_countsSilence 89 = .ok (.putfield 347, 3) := by decide +kernel
theorem dX11_countsSilence_92 : decode cX11_countsSilence 92 = .ok (.iload 4, 2) := by decide +kernel
theorem dX11_countsSilence_94 : decode cX11_countsSilence 94 = .ok (.ifCond .eq 9, 3) := by decide +kernel
theorem dX11_countsSilence_97 : decode cX11_countsSilence 97 = .ok (.iload_n 1, 1) := by decide +kernel
theorem dX11_countsSilence_98 : decode cX11_countsSilence 98 = .ok (.iconst 1, 1) := by decide +kernel
theorem dX11_countsSilence_99 : decode cX11_countsSilence 99 = .ok (.iadd, 1) := by decide +kernel
theorem dX11_countsSilence_100 : decode cX11_countsSilence 100 = .ok (.goto 4, 3) := by decide +kernel
theorem dX11_countsSilence_103 : decode cX11_countsSilence 103 = .ok (.iconst 0, 1) := by decide +kernel
theorem dX11_countsSilence_104 : decode cX11_countsSilence 104 = .ok (.istore_n 1, 1) := by decide +kernel
theorem dX11_countsSilence_105 : decode cX11_countsSilence 105 = .ok (.aload_n 0, 1) := by decide +kernel
theorem dX11_countsSilence_106 : decode cX11_countsSilence 106 = .ok (.aload_n 0, 1) := by decide +kernel
theorem dX11_countsSilence_107 : decode cX11_countsSilence 107 = .ok (.getfield 350, 3) := by decide +kernel
theorem dX11_countsSilence_110 : decode cX11_countsSilence 110 = .ok (.iload_n 1, 1) := by decide +kernel
theorem dX11_countsSilence_111 : decode cX11_countsSilence 111 = .ok (.invokestatic 98, 3) := by decide +kernel
theorem dX11_countsSilence_114 : decode cX11_countsSilence 114 = .ok (.putfield 350, 3) := by decide +kernel
theorem dX11_countsSilence_117 : decode cX11_countsSilence 117 = .ok (.aload_n 0, 1) := by decide +kernel
theorem dX11_countsSilence_118 : decode cX11_countsSilence 118 = .ok (.dup, 1) := by decide +kernel
theorem dX11_countsSilence_119 : decode cX11_countsSilence 119 = .ok (.getfield 335, 3) := by decide +kernel
theorem dX11_countsSilence_122 : decode cX11_countsSilence 122 = .ok (.iconst 1, 1) := by decide +kernel
theorem dX11_countsSilence_123 : decode cX11_countsSilence 123 = .ok (.iadd, 1) := by decide +kernel
theorem dX11_countsSilence_124 : decode cX11_countsSilence 124 = .ok (.putfield 335, 3) := by decide +kernel
theorem dX11_countsSilence_127 : decode cX11_countsSilence 127 = .ok (.goto (-82), 3) := by decide +kernel
theorem dX11_countsSilence_130 : decode cX11_countsSilence 130 = .ok (.iinc 2 1, 3) := by decide +kernel
theorem dX11_countsSilence_133 : decode cX11_countsSilence 133 = .ok (.goto (-119), 3) := by decide +kernel
theorem dX11_countsSilence_136 : decode cX11_countsSilence 136 = .ok (.return_, 1) := by decide +kernel
theorem ci_X11_countsSilence : Cond.instanceMethod yX11_countsSilence ∈ TW := TW_of 1851 (by decide +kernel) (by decide +kernel)
theorem cs_X11_countsSilence : Cond.selects yX11_countsSilence.cls yX11_countsSilence yX11_countsSilence ∈ TW := TW_of 78 (by decide +kernel) (by decide +kernel)
abbrev cX11_silence : ByteArray := prog_13_method_89_code
def yX11_silence : MethodName := ⟨RX11, "silence", "()I"⟩
theorem dX11_silence_0 : decode cX11_silence 0 = .ok (.aload_n 0, 1) := by decide +kernel
theorem dX11_silence_1 : decode cX11_silence 1 = .ok (.iconst 0, 1) := by decide +kernel
theorem dX11_silence_2 : decode cX11_silence 2 = .ok (.putfield 3, 3) := by decide +kernel
theorem dX11_silence_5 : decode cX11_silence 5 = .ok (.aload_n 0, 1) := by decide +kernel
theorem dX11_silence_6 : decode cX11_silence 6 = .ok (.invokevirtual 353, 3) := by decide +kernel
theorem dX11_silence_9 : decode cX11_silence 9 = .ok (.aload_n 0, 1) := by decide +kernel
theorem dX11_silence_10 : decode cX11_silence 10 = .ok (.getfield 347, 3) := by decide +kernel
theorem dX11_silence_13 : decode cX11_silence 13 = .ok (.ireturn, 1) := by decide +kernel
theorem ci_X11_silence : Cond.instanceMethod yX11_silence ∈ TW := TW_of 1846 (by decide +kernel) (by decide +kernel)
theorem cs_X11_silence : Cond.selects yX11_silence.cls yX11_silence yX11_silence ∈ TW := TW_of 1847 (by decide +kernel) (by decide +kernel)
abbrev cX11_longestSilence : ByteArray := prog_13_method_90_code
def yX11_longestSilence : MethodName := ⟨RX11, "longestSilence", "()I"⟩
theorem dX11_longestSilence_0 : decode cX11_longestSilence 0 = .ok (.aload_n 0, 1) := by decide +kernel
theorem dX11_longestSilence_1 : decode cX11_longestSilence 1 = .ok (.iconst 0, 1) := by decide +kernel
theorem dX11_longestSilence_2 : decode cX11_longestSilence 2 = .ok (.putfield 3, 3) := by decide +kernel
theorem dX11_longestSilence_5 : decode cX11_longestSilence 5 = .ok (.aload_n 0, 1) := by decide +kernel
theorem dX11_longestSilence_6 : decode cX11_longestSilence 6 = .ok (.invokevirtual 353, 3) := by decide +kernel
theorem dX11_longestSilence_9 : decode cX11_longestSilence 9 = .ok (.aload_n 0, 1) := by decide +kernel
theorem dX11_longestSilence_10 : decode cX11_longestSilence 10 = .ok (.getfield 350, 3) := by decide +kernel
theorem dX11_longestSilence_13 : decode cX11_longestSilence 13 = .ok (.ireturn, 1) := by decide +kernel
theorem ci_X11_longestSilence : Cond.instanceMethod yX11_longestSilence ∈ TW := TW_of 1854 (by decide +kernel) (by decide +kernel)
theorem cs_X11_longestSilence : Cond.selects yX11_longestSilence.cls yX11_longestSilence yX11_longestSilence ∈ TW := TW_of 1855 (by decide +kernel) (by decide +kernel)
abbrev cX11_speakingTime : ByteArray := prog_13_method_91_code
def yX11_speakingTime : MethodName := ⟨RX11, "speakingTime", "(I)I"⟩
theorem dX11_speakingTime_0 : decode cX11_speakingTime 0 = .ok (.aload_n 0, 1) := by decide +kernel
theorem dX11_speakingTime_1 : decode cX11_speakingTime 1 = .ok (.iconst 0, 1) := by decide +kernel
theorem dX11_speakingTime_2 : decode cX11_speakingTime 2 = .ok (.putfield 3, 3) := by decide +kernel
theorem dX11_speakingTime_5 : decode cX11_speakingTime 5 = .ok (.aload_n 0, 1) := by decide +kernel
theorem dX11_speakingTime_6 : decode cX11_speakingTime 6 = .ok (.iload_n 1, 1) := by decide +kernel
theorem dX11_speakingTime_7 : decode cX11_speakingTime 7 = .ok (.invokevirtual 341, 3) := by decide +kernel
theorem dX11_speakingTime_10 : decode cX11_speakingTime 10 = .ok (.ifCond .eq 5, 3) := by decide +kernel
theorem dX11_speakingTime_13 : decode cX11_speakingTime 13 = .ok (.iconst 0, 1) := by decide +kernel
theorem dX11_speakingTime_14 : decode cX11_speakingTime 14 = .ok (.ireturn, 1) := by decide +kernel
theorem dX11_speakingTime_15 : decode cX11_speakingTime 15 = .ok (.iconst 0, 1) := by decide +kernel
theorem dX11_speakingTime_16 : decode cX11_speakingTime 16 = .ok (.istore_n 2, 1) := by decide +kernel
theorem dX11_speakingTime_17 : decode cX11_speakingTime 17 = .ok (.iconst 0, 1) := by decide +kernel
theorem dX11_speakingTime_18 : decode cX11_speakingTime 18 = .ok (.istore_n 3, 1) := by decide +kernel
theorem dX11_speakingTime_19 : decode cX11_speakingTime 19 = .ok (.iload_n 3, 1) := by decide +kernel
theorem dX11_speakingTime_20 : decode cX11_speakingTime 20 = .ok (.aload_n 0, 1) := by decide +kernel
theorem dX11_speakingTime_21 : decode cX11_speakingTime 21 = .ok (.invokevirtual 90, 3) := by decide +kernel
theorem dX11_speakingTime_24 : decode cX11_speakingTime 24 = .ok (.if_icmp .ge 47, 3) := by decide +kernel
theorem dX11_speakingTime_27 : decode cX11_speakingTime 27 = .ok (.iload_n 2, 1) := by decide +kernel
theorem dX11_speakingTime_28 : decode cX11_speakingTime 28 = .ok (.aload_n 0, 1) := by decide +kernel
theorem dX11_speakingTime_29 : decode cX11_speakingTime 29 = .ok (.iload_n 3, 1) := by decide +kernel
theorem dX11_speakingTime_30 : decode cX11_speakingTime 30 = .ok (.invokevirtual 275, 3) := by decide +kernel
theorem dX11_speakingTime_33 : decode cX11_speakingTime 33 = .ok (.ifCond .eq 29, 3) := by decide +kernel
theorem dX11_speakingTime_36 : decode cX11_speakingTime 36 = .ok (.aload_n 0, 1) := by decide +kernel
theorem dX11_speakingTime_37 : decode cX11_speakingTime 37 = .ok (.iload_n 3, 1) := by decide +kernel
theorem dX11_speakingTime_38 : decode cX11_speakingTime 38 = .ok (.iconst 0, 1) := by decide +kernel
theorem dX11_speakingTime_39 : decode cX11_speakingTime 39 = .ok (.invokevirtual 94, 3) := by decide +kernel
theorem dX11_speakingTime_42 : decode cX11_speakingTime 42 = .ok (.iload_n 1, 1) := by decide +kernel
theorem dX11_speakingTime_43 : decode cX11_speakingTime 43 = .ok (.if_icmp .ne 19, 3) := by decide +kernel
theorem dX11_speakingTime_46 : decode cX11_speakingTime 46 = .ok (.aload_n 0, 1) := by decide +kernel
theorem dX11_speakingTime_47 : decode cX11_speakingTime 47 = .ok (.iload_n 3, 1) := by decide +kernel
theorem dX11_speakingTime_48 : decode cX11_speakingTime 48 = .ok (.iconst 3, 1) := by decide +kernel
theorem dX11_speakingTime_49 : decode cX11_speakingTime 49 = .ok (.invokevirtual 94, 3) := by decide +kernel
theorem dX11_speakingTime_52 : decode cX11_speakingTime 52 = .ok (.aload_n 0, 1) := by decide +kernel
theorem dX11_speakingTime_53 : decode cX11_speakingTime 53 = .ok (.iload_n 3, 1) := by decide +kernel
theorem dX11_speakingTime_54 : decode cX11_speakingTime 54 = .ok (.iconst 2, 1) := by decide +kernel
theorem dX11_speakingTime_55 : decode cX11_speakingTime 55 = .ok (.invokevirtual 94, 3) := by decide +kernel
theorem dX11_speakingTime_58 : decode cX11_speakingTime 58 = .ok (.isub, 1) := by decide +kernel
theorem dX11_speakingTime_59 : decode cX11_speakingTime 59 = .ok (.goto 4, 3) := by decide +kernel
theorem dX11_speakingTime_62 : decode cX11_speakingTime 62 = .ok (.iconst 0, 1) := by decide +kernel
theorem dX11_speakingTime_63 : decode cX11_speakingTime 63 = .ok (.iadd, 1) := by decide +kernel
theorem dX11_speakingTime_64 : decode cX11_speakingTime 64 = .ok (.istore_n 2, 1) := by decide +kernel
theorem dX11_speakingTime_65 : decode cX11_speakingTime 65 = .ok (.iinc 3 1, 3) := by decide +kernel
theorem dX11_speakingTime_68 : decode cX11_speakingTime 68 = .ok (.goto (-49), 3) := by decide +kernel
theorem dX11_speakingTime_71 : decode cX11_speakingTime 71 = .ok (.iload_n 2, 1) := by decide +kernel
theorem dX11_speakingTime_72 : decode cX11_speakingTime 72 = .ok (.ireturn, 1) := by decide +kernel
theorem ci_X11_speakingTime : Cond.instanceMethod yX11_speakingTime ∈ TW := TW_of 1858 (by decide +kernel) (by decide +kernel)
theorem cs_X11_speakingTime : Cond.selects yX11_speakingTime.cls yX11_speakingTime yX11_speakingTime ∈ TW := TW_of 1859 (by decide +kernel) (by decide +kernel)
abbrev cX11_laysRow : ByteArray := prog_13_method_92_code
def yX11_laysRow : MethodName := ⟨RX11, "laysRow", "()V"⟩
theorem dX11_laysRow_0 : decode cX11_laysRow 0 = .ok (.aload_n 0, 1) := by decide +kernel
theorem dX11_laysRow_1 : decode cX11_laysRow 1 = .ok (.iconst 0, 1) := by decide +kernel
theorem dX11_laysRow_2 : decode cX11_laysRow 2 = .ok (.putfield 356, 3) := by decide +kernel
theorem dX11_laysRow_5 : decode cX11_laysRow 5 = .ok (.iconst 0, 1) := by decide +kernel
theorem dX11_laysRow_6 : decode cX11_laysRow 6 = .ok (.istore_n 1, 1) := by decide +kernel
theorem dX11_laysRow_7 : decode cX11_laysRow 7 = .ok (.iload_n 1, 1) := by decide +kernel
theorem dX11_laysRow_8 : decode cX11_laysRow 8 = .ok (.aload_n 0, 1) := by decide +kernel
theorem dX11_laysRow_9 : decode cX11_laysRow 9 = .ok (.getfield 38, 3) := by decide +kernel
theorem dX11_laysRow_12 : decode cX11_laysRow 12 = .ok (.bipush 40, 2) := by decide +kernel
theorem dX11_laysRow_14 : decode cX11_laysRow 14 = .ok (.iaload, 1) := by decide +kernel
theorem dX11_laysRow_15 : decode cX11_laysRow 15 = .ok (.if_icmp .ge 81, 3) := by decide +kernel
theorem dX11_laysRow_18 : decode cX11_laysRow 18 = .ok (.aload_n 0, 1) := by decide +kernel
theorem dX11_laysRow_19 : decode cX11_laysRow 19 = .ok (.iload_n 1, 1) := by decide +kernel
theorem dX11_laysRow_20 : decode cX11_laysRow 20 = .ok (.invokevirtual 311, 3) := by decide +kernel
theorem dX11_laysRow_23 : decode cX11_laysRow 23 = .ok (.istore_n 2, 1) := by decide +kernel
theorem dX11_laysRow_24 : decode cX11_laysRow 24 = .ok (.aload_n 0, 1) := by decide +kernel
theorem dX11_laysRow_25 : decode cX11_laysRow 25 = .ok (.getfield 29, 3) := by decide +kernel
theorem dX11_laysRow_28 : decode cX11_laysRow 28 = .ok (.iload_n 2, 1) := by decide +kernel
theorem dX11_laysRow_29 : decode cX11_laysRow 29 = .ok (.iaload, 1) := by decide +kernel
theorem dX11_laysRow_30 : decode cX11_laysRow 30 = .ok (.istore_n 3, 1) := by decide +kernel
theorem dX11_laysRow_31 : decode cX11_laysRow 31 = .ok (.iload_n 3, 1) := by decide +kernel
theorem dX11_laysRow_32 : decode cX11_laysRow 32 = .ok (.aload_n 0, 1) := by decide +kernel
theorem dX11_laysRow_33 : decode cX11_laysRow 33 = .ok (.getfield 29, 3) := by decide +kernel
theorem dX11_laysRow_36 : decode cX11_laysRow 36 = .ok (.iload_n 2, 1) := by decide +kernel
theorem dX11_laysRow_37 : decode cX11_laysRow 37 = .ok (.iconst 1, 1) := by decide +kernel
theorem dX11_laysRow_38 : decode cX11_laysRow 38 = .ok (.iadd, 1) := by decide +kernel
theorem dX11_laysRow_39 : decode cX11_laysRow 39 = .ok (.iaload, 1) := by decide +kernel
theorem dX11_laysRow_40 : decode cX11_laysRow 40 = .ok (.if_icmp .ge 50, 3) := by decide +kernel
theorem dX11_laysRow_43 : decode cX11_laysRow 43 = .ok (.aload_n 0, 1) := by decide +kernel
theorem dX11_laysRow_44 : decode cX11_laysRow 44 = .ok (.iload_n 3, 1) := by decide +kernel
theorem dX11_laysRow_45 : decode cX11_laysRow 45 = .ok (.invokevirtual 275, 3) := by decide +kernel
theorem dX11_laysRow_48 : decode cX11_laysRow 48 = .ok (.ifCond .ne 6, 3) := by decide +kernel
theorem dX11_laysRow_51 : decode cX11_laysRow 51 = .ok (.goto 33, 3) := by decide +kernel
theorem dX11_laysRow_54 : decode cX11_laysRow 54 = .ok (.aload_n 0, 1) := by decide +kernel
theorem dX11_laysRow_55 : decode cX11_laysRow 55 = .ok (.getfield 63, 3) := by decide +kernel
theorem dX11_laysRow_58 : decode cX11_laysRow 58 = .ok (.aload_n 0, 1) := by decide +kernel
theorem dX11_laysRow_59 : decode cX11_laysRow 59 = .ok (.getfield 356, 3) := by decide +kernel
theorem dX11_laysRow_62 : decode cX11_laysRow 62 = .ok (.iload_n 3, 1) := by decide +kernel
theorem dX11_laysRow_63 : decode cX11_laysRow 63 = .ok (.iastore, 1) := by decide +kernel
theorem dX11_laysRow_64 : decode cX11_laysRow 64 = .ok (.aload_n 0, 1) := by decide +kernel
theorem dX11_laysRow_65 : decode cX11_laysRow 65 = .ok (.getfield 66, 3) := by decide +kernel
theorem dX11_laysRow_68 : decode cX11_laysRow 68 = .ok (.aload_n 0, 1) := by decide +kernel
theorem dX11_laysRow_69 : decode cX11_laysRow 69 = .ok (.getfield 356, 3) := by decide +kernel
theorem dX11_laysRow_72 : decode cX11_laysRow 72 = .ok (.iload_n 1, 1) := by decide +kernel
theorem dX11_laysRow_73 : decode cX11_laysRow 73 = .ok (.iastore, 1) := by decide +kernel
theorem dX11_laysRow_74 : decode cX11_laysRow 74 = .ok (.aload_n 0, 1) := by decide +kernel
theorem dX11_laysRow_75 : decode cX11_laysRow 75 = .ok (.dup, 1) := by decide +kernel
theorem dX11_laysRow_76 : decode cX11_laysRow 76 = .ok (.getfield 356, 3) := by decide +kernel
theorem dX11_laysRow_79 : decode cX11_laysRow 79 = .ok (.iconst 1, 1) := by decide +kernel
theorem dX11_laysRow_80 : decode cX11_laysRow 80 = .ok (.iadd, 1) := by decide +kernel
theorem dX11_laysRow_81 : decode cX11_laysRow 81 = .ok (.putfield 356, 3) := by decide +kernel
theorem dX11_laysRow_84 : decode cX11_laysRow 84 = .ok (.iinc 3 1, 3) := by decide +kernel
theorem dX11_laysRow_87 : decode cX11_laysRow 87 = .ok (.goto (-56), 3) := by decide +kernel
theorem dX11_laysRow_90 : decode cX11_laysRow 90 = .ok (.iinc 1 1, 3) := by decide +kernel
theorem dX11_laysRow_93 : decode cX11_laysRow 93 = .ok (.goto (-86), 3) := by decide +kernel
theorem dX11_laysRow_96 : decode cX11_laysRow 96 = .ok (.return_, 1) := by decide +kernel
theorem ci_X11_laysRow : Cond.instanceMethod yX11_laysRow ∈ TW := TW_of 1867 (by decide +kernel) (by decide +kernel)
theorem cs_X11_laysRow : Cond.selects yX11_laysRow.cls yX11_laysRow yX11_laysRow ∈ TW := TW_of 79 (by decide +kernel) (by decide +kernel)
abbrev cX11_transcriptSize : ByteArray := prog_13_method_93_code
def yX11_transcriptSize : MethodName := ⟨RX11, "transcriptSize", "()I"⟩
theorem dX11_transcriptSize_0 : decode cX11_transcriptSize 0 = .ok (.aload_n 0, 1) := by decide +kernel
theorem dX11_transcriptSize_1 : decode cX11_transcriptSize 1 = .ok (.iconst 0, 1) := by decide +kernel
theorem dX11_transcriptSize_2 : decode cX11_transcriptSize 2 = .ok (.putfield 3, 3) := by decide +kernel
theorem dX11_transcriptSize_5 : decode cX11_transcriptSize 5 = .ok (.aload_n 0, 1) := by decide +kernel
theorem dX11_transcriptSize_6 : decode cX11_transcriptSize 6 = .ok (.invokevirtual 359, 3) := by decide +kernel
theorem dX11_transcriptSize_9 : decode cX11_transcriptSize 9 = .ok (.aload_n 0, 1) := by decide +kernel
theorem dX11_transcriptSize_10 : decode cX11_transcriptSize 10 = .ok (.getfield 356, 3) := by decide +kernel
theorem dX11_transcriptSize_13 : decode cX11_transcriptSize 13 = .ok (.ireturn, 1) := by decide +kernel
theorem ci_X11_transcriptSize : Cond.instanceMethod yX11_transcriptSize ∈ TW := TW_of 1862 (by decide +kernel) (by decide +kernel)
theorem cs_X11_transcriptSize : Cond.selects yX11_transcriptSize.cls yX11_transcriptSize yX11_transcriptSize ∈ TW := TW_of 1863 (by decide +kernel) (by decide +kernel)
abbrev cX11_transcriptWord : ByteArray := prog_13_method_94_code
def yX11_transcriptWord : MethodName := ⟨RX11, "transcriptWord", "(I)I"⟩
theorem dX11_transcriptWord_0 : decode cX11_transcriptWord 0 = .ok (.aload_n 0, 1) := by decide +kernel
theorem dX11_transcriptWord_1 : decode cX11_transcriptWord 1 = .ok (.iconst 0, 1) := by decide +kernel
theorem dX11_transcriptWord_2 : decode cX11_transcriptWord 2 = .ok (.putfield 3, 3) := by decide +kernel
theorem dX11_transcriptWord_5 : decode cX11_transcriptWord 5 = .ok (.aload_n 0, 1) := by decide +kernel
theorem dX11_transcriptWord_6 : decode cX11_transcriptWord 6 = .ok (.invokevirtual 359, 3) := by decide +kernel
theorem dX11_transcriptWord_9 : decode cX11_transcriptWord 9 = .ok (.iload_n 1, 1) := by decide +kernel
theorem dX11_transcriptWord_10 : decode cX11_transcriptWord 10 = .ok (.iconst 0, 1) := by decide +kernel
theorem dX11_transcriptWord_11 : decode cX11_transcriptWord 11 = .ok (.aload_n 0, 1) := by decide +kernel
theorem dX11_transcriptWord_12 : decode cX11_transcriptWord 12 = .ok (.getfield 356, 3) := by decide +kernel
theorem dX11_transcriptWord_15 : decode cX11_transcriptWord 15 = .ok (.iconst 1, 1) := by decide +kernel
theorem dX11_transcriptWord_16 : decode cX11_transcriptWord 16 = .ok (.isub, 1) := by decide +kernel
theorem dX11_transcriptWord_17 : decode cX11_transcriptWord 17 = .ok (.invokestatic 166, 3) := by decide +kernel
theorem dX11_transcriptWord_20 : decode cX11_transcriptWord 20 = .ok (.ifCond .eq 12, 3) := by decide +kernel
theorem dX11_transcriptWord_23 : decode cX11_transcriptWord 23 = .ok (.aload_n 0, 1) := by decide +kernel
theorem dX11_transcriptWord_24 : decode cX11_transcriptWord 24 = .ok (.getfield 63, 3) := by decide +kernel
theorem dX11_transcriptWord_27 : decode cX11_transcriptWord 27 = .ok (.iload_n 1, 1) := by decide +kernel
theorem dX11_transcriptWord_28 : decode cX11_transcriptWord 28 = .ok (.iaload, 1) := by decide +kernel
theorem dX11_transcriptWord_29 : decode cX11_transcriptWord 29 = .ok (.goto 4, 3) := by decide +kernel
theorem dX11_transcriptWord_32 : decode cX11_transcriptWord 32 = .ok (.iconst (-1), 1) := by decide +kernel
theorem dX11_transcriptWord_33 : decode cX11_transcriptWord 33 = .ok (.ireturn, 1) := by decide +kernel
theorem ci_X11_transcriptWord : Cond.instanceMethod yX11_transcriptWord ∈ TW := TW_of 1870 (by decide +kernel) (by decide +kernel)
theorem cs_X11_transcriptWord : Cond.selects yX11_transcriptWord.cls yX11_transcriptWord yX11_transcriptWord ∈ TW := TW_of 1871 (by decide +kernel) (by decide +kernel)
abbrev cX11_placeOf : ByteArray := prog_13_method_95_code
def yX11_placeOf : MethodName := ⟨RX11, "placeOf", "(I)I"⟩
theorem dX11_placeOf_0 : decode cX11_placeOf 0 = .ok (.aload_n 0, 1) := by decide +kernel
theorem dX11_placeOf_1 : decode cX11_placeOf 1 = .ok (.iconst 0, 1) := by decide +kernel
theorem dX11_placeOf_2 : decode cX11_placeOf 2 = .ok (.putfield 3, 3) := by decide +kernel
theorem dX11_placeOf_5 : decode cX11_placeOf 5 = .ok (.aload_n 0, 1) := by decide +kernel
theorem dX11_placeOf_6 : decode cX11_placeOf 6 = .ok (.iload_n 1, 1) := by decide +kernel
theorem dX11_placeOf_7 : decode cX11_placeOf 7 = .ok (.invokevirtual 284, 3) := by decide +kernel
theorem dX11_placeOf_10 : decode cX11_placeOf 10 = .ok (.ifCond .eq 5, 3) := by decide +kernel
theorem dX11_placeOf_13 : decode cX11_placeOf 13 = .ok (.iconst 0, 1) := by decide +kernel
theorem dX11_placeOf_14 : decode cX11_placeOf 14 = .ok (.ireturn, 1) := by decide +kernel
theorem dX11_placeOf_15 : decode cX11_placeOf 15 = .ok (.aload_n 0, 1) := by decide +kernel
theorem dX11_placeOf_16 : decode cX11_placeOf 16 = .ok (.invokevirtual 359, 3) := by decide +kernel
theorem dX11_placeOf_19 : decode cX11_placeOf 19 = .ok (.iconst 0, 1) := by decide +kernel
theorem dX11_placeOf_20 : decode cX11_placeOf 20 = .ok (.istore_n 2, 1) := by decide +kernel
theorem dX11_placeOf_21 : decode cX11_placeOf 21 = .ok (.iload_n 2, 1) := by decide +kernel
theorem dX11_placeOf_22 : decode cX11_placeOf 22 = .ok (.aload_n 0, 1) := by decide +kernel
theorem dX11_placeOf_23 : decode cX11_placeOf 23 = .ok (.getfield 356, 3) := by decide +kernel
theorem dX11_placeOf_26 : decode cX11_placeOf 26 = .ok (.if_icmp .ge 21, 3) := by decide +kernel
theorem dX11_placeOf_29 : decode cX11_placeOf 29 = .ok (.aload_n 0, 1) := by decide +kernel
theorem dX11_placeOf_30 : decode cX11_placeOf 30 = .ok (.getfield 63, 3) := by decide +kernel
theorem dX11_placeOf_33 : decode cX11_placeOf 33 = .ok (.iload_n 2, 1) := by decide +kernel
theorem dX11_placeOf_34 : decode cX11_placeOf 34 = .ok (.iaload, 1) := by decide +kernel
theorem dX11_placeOf_35 : decode cX11_placeOf 35 = .ok (.iload_n 1, 1) := by decide +kernel
theorem dX11_placeOf_36 : decode cX11_placeOf 36 = .ok (.if_icmp .ne 5, 3) := by decide +kernel
theorem dX11_placeOf_39 : decode cX11_placeOf 39 = .ok (.iload_n 2, 1) := by decide +kernel
theorem dX11_placeOf_40 : decode cX11_placeOf 40 = .ok (.ireturn, 1) := by decide +kernel
theorem dX11_placeOf_41 : decode cX11_placeOf 41 = .ok (.iinc 2 1, 3) := by decide +kernel
theorem dX11_placeOf_44 : decode cX11_placeOf 44 = .ok (.goto (-23), 3) := by decide +kernel
theorem dX11_placeOf_47 : decode cX11_placeOf 47 = .ok (.iconst (-1), 1) := by decide +kernel
theorem dX11_placeOf_48 : decode cX11_placeOf 48 = .ok (.ireturn, 1) := by decide +kernel
theorem ci_X11_placeOf : Cond.instanceMethod yX11_placeOf ∈ TW := TW_of 1874 (by decide +kernel) (by decide +kernel)
theorem cs_X11_placeOf : Cond.selects yX11_placeOf.cls yX11_placeOf yX11_placeOf ∈ TW := TW_of 1875 (by decide +kernel) (by decide +kernel)
abbrev cX11_startInFilm : ByteArray := prog_13_method_96_code
def yX11_startInFilm : MethodName := ⟨RX11, "startInFilm", "(I)I"⟩
theorem dX11_startInFilm_0 : decode cX11_startInFilm 0 = .ok (.aload_n 0, 1) := by decide +kernel
theorem dX11_startInFilm_1 : decode cX11_startInFilm 1 = .ok (.iconst 0, 1) := by decide +kernel
theorem dX11_startInFilm_2 : decode cX11_startInFilm 2 = .ok (.putfield 3, 3) := by decide +kernel
theorem dX11_startInFilm_5 : decode cX11_startInFilm 5 = .ok (.aload_n 0, 1) := by decide +kernel
theorem dX11_startInFilm_6 : decode cX11_startInFilm 6 = .ok (.iload_n 1, 1) := by decide +kernel
theorem dX11_startInFilm_7 : decode cX11_startInFilm 7 = .ok (.invokevirtual 284, 3) := by decide +kernel
theorem dX11_startInFilm_10 : decode cX11_startInFilm 10 = .ok (.ifCond .eq 5, 3) := by decide +kernel
theorem dX11_startInFilm_13 : decode cX11_startInFilm 13 = .ok (.iconst 0, 1) := by decide +kernel
theorem dX11_startInFilm_14 : decode cX11_startInFilm 14 = .ok (.ireturn, 1) := by decide +kernel
theorem dX11_startInFilm_15 : decode cX11_startInFilm 15 = .ok (.aload_n 0, 1) := by decide +kernel
theorem dX11_startInFilm_16 : decode cX11_startInFilm 16 = .ok (.iload_n 1, 1) := by decide +kernel
theorem dX11_startInFilm_17 : decode cX11_startInFilm 17 = .ok (.invokevirtual 275, 3) := by decide +kernel
theorem dX11_startInFilm_20 : decode cX11_startInFilm 20 = .ok (.ifCond .ne 5, 3) := by decide +kernel
theorem dX11_startInFilm_23 : decode cX11_startInFilm 23 = .ok (.iconst (-1), 1) := by decide +kernel
theorem dX11_startInFilm_24 : decode cX11_startInFilm 24 = .ok (.ireturn, 1) := by decide +kernel
theorem dX11_startInFilm_25 : decode cX11_startInFilm 25 = .ok (.aload_n 0, 1) := by decide +kernel
theorem dX11_startInFilm_26 : decode cX11_startInFilm 26 = .ok (.getfield 20, 3) := by decide +kernel
theorem dX11_startInFilm_29 : decode cX11_startInFilm 29 = .ok (.iload_n 1, 1) := by decide +kernel
theorem dX11_startInFilm_30 : decode cX11_startInFilm 30 = .ok (.iaload, 1) := by decide +kernel
theorem dX11_startInFilm_31 : decode cX11_startInFilm 31 = .ok (.istore_n 2, 1) := by decide +kernel
theorem dX11_startInFilm_32 : decode cX11_startInFilm 32 = .ok (.aload_n 0, 1) := by decide +kernel
theorem dX11_startInFilm_33 : decode cX11_startInFilm 33 = .ok (.aload_n 0, 1) := by decide +kernel
theorem dX11_startInFilm_34 : decode cX11_startInFilm 34 = .ok (.iload_n 2, 1) := by decide +kernel
theorem dX11_startInFilm_35 : decode cX11_startInFilm 35 = .ok (.invokevirtual 278, 3) := by decide +kernel
theorem dX11_startInFilm_38 : decode cX11_startInFilm 38 = .ok (.invokevirtual 317, 3) := by decide +kernel
theorem dX11_startInFilm_41 : decode cX11_startInFilm 41 = .ok (.aload_n 0, 1) := by decide +kernel
theorem dX11_startInFilm_42 : decode cX11_startInFilm 42 = .ok (.iload_n 1, 1) := by decide +kernel
theorem dX11_startInFilm_43 : decode cX11_startInFilm 43 = .ok (.iconst 2, 1) := by decide +kernel
theorem dX11_startInFilm_44 : decode cX11_startInFilm 44 = .ok (.invokevirtual 94, 3) := by decide +kernel
theorem dX11_startInFilm_47 : decode cX11_startInFilm 47 = .ok (.iadd, 1) := by decide +kernel
theorem dX11_startInFilm_48 : decode cX11_startInFilm 48 = .ok (.aload_n 0, 1) := by decide +kernel
theorem dX11_startInFilm_49 : decode cX11_startInFilm 49 = .ok (.iload_n 2, 1) := by decide +kernel
theorem dX11_startInFilm_50 : decode cX11_startInFilm 50 = .ok (.invokevirtual 308, 3) := by decide +kernel
theorem dX11_startInFilm_53 : decode cX11_startInFilm 53 = .ok (.isub, 1) := by decide +kernel
theorem dX11_startInFilm_54 : decode cX11_startInFilm 54 = .ok (.ireturn, 1) := by decide +kernel
theorem ci_X11_startInFilm : Cond.instanceMethod yX11_startInFilm ∈ TW := TW_of 1878 (by decide +kernel) (by decide +kernel)
theorem cs_X11_startInFilm : Cond.selects yX11_startInFilm.cls yX11_startInFilm yX11_startInFilm ∈ TW := TW_of 1879 (by decide +kernel) (by decide +kernel)
abbrev cX11_occurrences : ByteArray := prog_13_method_97_code
def yX11_occurrences : MethodName := ⟨RX11, "occurrences", "(I)I"⟩
theorem dX11_occurrences_0 : decode cX11_occurrences 0 = .ok (.aload_n 0, 1) := by decide +kernel
theorem dX11_occurrences_1 : decode cX11_occurrences 1 = .ok (.iconst 0, 1) := by decide +kernel
theorem dX11_occurrences_2 : decode cX11_occurrences 2 = .ok (.putfield 3, 3) := by decide +kernel
theorem dX11_occurrences_5 : decode cX11_occurrences 5 = .ok (.aload_n 0, 1) := by decide +kernel
theorem dX11_occurrences_6 : decode cX11_occurrences 6 = .ok (.iload_n 1, 1) := by decide +kernel
theorem dX11_occurrences_7 : decode cX11_occurrences 7 = .ok (.invokevirtual 284, 3) := by decide +kernel
theorem dX11_occurrences_10 : decode cX11_occurrences 10 = .ok (.ifCond .eq 5, 3) := by decide +kernel
theorem dX11_occurrences_13 : decode cX11_occurrences 13 = .ok (.iconst 0, 1) := by decide +kernel
theorem dX11_occurrences_14 : decode cX11_occurrences 14 = .ok (.ireturn, 1) := by decide +kernel
theorem dX11_occurrences_15 : decode cX11_occurrences 15 = .ok (.aload_n 0, 1) := by decide +kernel
theorem dX11_occurrences_16 : decode cX11_occurrences 16 = .ok (.invokevirtual 359, 3) := by decide +kernel
theorem dX11_occurrences_19 : decode cX11_occurrences 19 = .ok (.iconst 0, 1) := by decide +kernel
theorem dX11_occurrences_20 : decode cX11_occurrences 20 = .ok (.istore_n 2, 1) := by decide +kernel
theorem dX11_occurrences_21 : decode cX11_occurrences 21 = .ok (.iconst 0, 1) := by decide +kernel
theorem dX11_occurrences_22 : decode cX11_occurrences 22 = .ok (.istore_n 3, 1) := by decide +kernel
theorem dX11_occurrences_23 : decode cX11_occurrences 23 = .ok (.iload_n 3, 1) := by decide +kernel
theorem dX11_occurrences_24 : decode cX11_occurrences 24 = .ok (.aload_n 0, 1) := by decide +kernel
theorem dX11_occurrences_25 : decode cX11_occurrences 25 = .ok (.getfield 356, 3) := by decide +kernel
theorem dX11_occurrences_28 : decode cX11_occurrences 28 = .ok (.if_icmp .ge 37, 3) := by decide +kernel
theorem dX11_occurrences_31 : decode cX11_occurrences 31 = .ok (.iload_n 2, 1) := by decide +kernel
theorem dX11_occurrences_32 : decode cX11_occurrences 32 = .ok (.aload_n 0, 1) := by decide +kernel
theorem dX11_occurrences_33 : decode cX11_occurrences 33 = .ok (.aload_n 0, 1) := by decide +kernel
theorem dX11_occurrences_34 : decode cX11_occurrences 34 = .ok (.getfield 63, 3) := by decide +kernel
theorem dX11_occurrences_37 : decode cX11_occurrences 37 = .ok (.iload_n 3, 1) := by decide +kernel
theorem dX11_occurrences_38 : decode cX11_occurrences 38 = .ok (.iaload, 1) := by decide +kernel
theorem dX11_occurrences_39 : decode cX11_occurrences 39 = .ok (.iconst 1, 1) := by decide +kernel
theorem dX11_occurrences_40 : decode cX11_occurrences 40 = .ok (.invokevirtual 94, 3) := by decide +kernel
theorem dX11_occurrences_43 : decode cX11_occurrences 43 = .ok (.aload_n 0, 1) := by decide +kernel
theorem dX11_occurrences_44 : decode cX11_occurrences 44 = .ok (.iload_n 1, 1) := by decide +kernel
theorem dX11_occurrences_45 : decode cX11_occurrences 45 = .ok (.iconst 1, 1) := by decide +kernel
theorem dX11_occurrences_46 : decode cX11_occurrences 46 = .ok (.invokevirtual 94, 3) := by decide +kernel
theorem dX11_occurrences_49 : decode cX11_occurrences 49 = .ok (.if_icmp .ne 7, 3) := by decide +kernel
theorem dX11_occurrences_52 : decode cX11_occurrences 52 = .ok (.iconst 1, 1) := by decide +kernel
theorem dX11_occurrences_53 : decode cX11_occurrences 53 = .ok (.goto 4, 3) := by decide +kernel
theorem dX11_occurrences_56 : decode cX11_occurrences 56 = .ok (.iconst 0, 1) := by decide +kernel
theorem dX11_occurrences_57 : decode cX11_occurrences 57 = .ok (.iadd, 1) := by decide +kernel
theorem dX11_occurrences_58 : decode cX11_occurrences 58 = .ok (.istore_n 2, 1) := by decide +kernel
theorem dX11_occurrences_59 : decode cX11_occurrences 59 = .ok (.iinc 3 1, 3) := by decide +kernel
theorem dX11_occurrences_62 : decode cX11_occurrences 62 = .ok (.goto (-39), 3) := by decide +kernel
theorem dX11_occurrences_65 : decode cX11_occurrences 65 = .ok (.iload_n 2, 1) := by decide +kernel
theorem dX11_occurrences_66 : decode cX11_occurrences 66 = .ok (.ireturn, 1) := by decide +kernel
theorem ci_X11_occurrences : Cond.instanceMethod yX11_occurrences ∈ TW := TW_of 1882 (by decide +kernel) (by decide +kernel)
theorem cs_X11_occurrences : Cond.selects yX11_occurrences.cls yX11_occurrences yX11_occurrences ∈ TW := TW_of 1883 (by decide +kernel) (by decide +kernel)
abbrev cX11_stutters : ByteArray := prog_13_method_98_code
def yX11_stutters : MethodName := ⟨RX11, "stutters", "()I"⟩
theorem dX11_stutters_0 : decode cX11_stutters 0 = .ok (.aload_n 0, 1) := by decide +kernel
theorem dX11_stutters_1 : decode cX11_stutters 1 = .ok (.iconst 0, 1) := by decide +kernel
theorem dX11_stutters_2 : decode cX11_stutters 2 = .ok (.putfield 3, 3) := by decide +kernel
theorem dX11_stutters_5 : decode cX11_stutters 5 = .ok (.aload_n 0, 1) := by decide +kernel
theorem dX11_stutters_6 : decode cX11_stutters 6 = .ok (.invokevirtual 359, 3) := by decide +kernel
theorem dX11_stutters_9 : decode cX11_stutters 9 = .ok (.iconst 0, 1) := by decide +kernel
theorem dX11_stutters_10 : decode cX11_stutters 10 = .ok (.istore_n 1, 1) := by decide +kernel
theorem dX11_stutters_11 : decode cX11_stutters 11 = .ok (.iconst 0, 1) := by decide +kernel
theorem dX11_stutters_12 : decode cX11_stutters 12 = .ok (.istore_n 2, 1) := by decide +kernel
theorem dX11_stutters_13 : decode cX11_stutters 13 = .ok (.iload_n 2, 1) := by decide +kernel
theorem dX11_stutters_14 : decode cX11_stutters 14 = .ok (.iconst 1, 1) := by decide +kernel
theorem dX11_stutters_15 : decode cX11_stutters 15 = .ok (.iadd, 1) := by decide +kernel
theorem dX11_stutters_16 : decode cX11_stutters 16 = .ok (.aload_n 0, 1) := by decide +kernel
theorem dX11_stutters_17 : decode cX11_stutters 17 = .ok (.getfield 356, 3) := by decide +kernel
theorem dX11_stutters_20 : decode cX11_stutters 20 = .ok (.if_icmp .ge 44, 3) := by decide +kernel
theorem dX11_stutters_23 : decode cX11_stutters 23 = .ok (.iload_n 1, 1) := by decide +kernel
theorem dX11_stutters_24 : decode cX11_stutters 24 = .ok (.aload_n 0, 1) := by decide +kernel
theorem dX11_stutters_25 : decode cX11_stutters 25 = .ok (.aload_n 0, 1) := by decide +kernel
theorem dX11_stutters_26 : decode cX11_stutters 26 = .ok (.getfield 63, 3) := by decide +kernel
theorem dX11_stutters_29 : decode cX11_stutters 29 = .ok (.iload_n 2, 1) := by decide +kernel
theorem dX11_stutters_30 : decode cX11_stutters 30 = .ok (.iaload, 1) := by decide +kernel
theorem dX11_stutters_31 : decode cX11_stutters 31 = .ok (.iconst 1, 1) := by decide +kernel
theorem dX11_stutters_32 : decode cX11_stutters 32 = .ok (.invokevirtual 94, 3) := by decide +kernel
theorem dX11_stutters_35 : decode cX11_stutters 35 = .ok (.aload_n 0, 1) := by decide +kernel
theorem dX11_stutters_36 : decode cX11_stutters 36 = .ok (.aload_n 0, 1) := by decide +kernel
theorem dX11_stutters_37 : decode cX11_stutters 37 = .ok (.getfield 63, 3) := by decide +kernel
theorem dX11_stutters_40 : decode cX11_stutters 40 = .ok (.iload_n 2, 1) := by decide +kernel
theorem dX11_stutters_41 : decode cX11_stutters 41 = .ok (.iconst 1, 1) := by decide +kernel
theorem dX11_stutters_42 : decode cX11_stutters 42 = .ok (.iadd, 1) := by decide +kernel
theorem dX11_stutters_43 : decode cX11_stutters 43 = .ok (.iaload, 1) := by decide +kernel
theorem dX11_stutters_44 : decode cX11_stutters 44 = .ok (.iconst 1, 1) := by decide +kernel
theorem dX11_stutters_45 : decode cX11_stutters 45 = .ok (.invokevirtual 94, 3) := by decide +kernel
theorem dX11_stutters_48 : decode cX11_stutters 48 = .ok (.if_icmp .ne 7, 3) := by decide +kernel
theorem dX11_stutters_51 : decode cX11_stutters 51 = .ok (.iconst 1, 1) := by decide +kernel
theorem dX11_stutters_52 : decode cX11_stutters 52 = .ok (.goto 4, 3) := by decide +kernel
theorem dX11_stutters_55 : decode cX11_stutters 55 = .ok (.iconst 0, 1) := by decide +kernel
theorem dX11_stutters_56 : decode cX11_stutters 56 = .ok (.iadd, 1) := by decide +kernel
theorem dX11_stutters_57 : decode cX11_stutters 57 = .ok (.istore_n 1, 1) := by decide +kernel
theorem dX11_stutters_58 : decode cX11_stutters 58 = .ok (.iinc 2 1, 3) := by decide +kernel
theorem dX11_stutters_61 : decode cX11_stutters 61 = .ok (.goto (-48), 3) := by decide +kernel
theorem dX11_stutters_64 : decode cX11_stutters 64 = .ok (.iload_n 1, 1) := by decide +kernel
theorem dX11_stutters_65 : decode cX11_stutters 65 = .ok (.ireturn, 1) := by decide +kernel
theorem ci_X11_stutters : Cond.instanceMethod yX11_stutters ∈ TW := TW_of 1886 (by decide +kernel) (by decide +kernel)
theorem cs_X11_stutters : Cond.selects yX11_stutters.cls yX11_stutters yX11_stutters ∈ TW := TW_of 1887 (by decide +kernel) (by decide +kernel)
abbrev cX11_takesOut : ByteArray := prog_13_method_100_code
def yX11_takesOut : MethodName := ⟨RX11, "takesOut", "(I)V"⟩
theorem dX11_takesOut_0 : decode cX11_takesOut 0 = .ok (.iload_n 1, 1) := by decide +kernel
theorem dX11_takesOut_1 : decode cX11_takesOut 1 = .ok (.iconst (-1), 1) := by decide +kernel
theorem dX11_takesOut_2 : decode cX11_takesOut 2 = .ok (.if_icmp .ne 4, 3) := by decide +kernel
theorem dX11_takesOut_5 : decode cX11_takesOut 5 = .ok (.return_, 1) := by decide +kernel
theorem dX11_takesOut_6 : decode cX11_takesOut 6 = .ok (.aload_n 0, 1) := by decide +kernel
theorem dX11_takesOut_7 : decode cX11_takesOut 7 = .ok (.getfield 38, 3) := by decide +kernel
theorem dX11_takesOut_10 : decode cX11_takesOut 10 = .ok (.bipush 40, 2) := by decide +kernel
theorem dX11_takesOut_12 : decode cX11_takesOut 12 = .ok (.dup2, 1) := by decide +kernel
theorem dX11_takesOut_13 : decode cX11_takesOut 13 = .ok (.iaload, 1) := by decide +kernel
theorem dX11_takesOut_14 : decode cX11_takesOut 14 = .ok (.iconst 1, 1) := by decide +kernel
theorem dX11_takesOut_15 : decode cX11_takesOut 15 = .ok (.isub, 1) := by decide +kernel
theorem dX11_takesOut_16 : decode cX11_takesOut 16 = .ok (.iastore, 1) := by decide +kernel
theorem dX11_takesOut_17 : decode cX11_takesOut 17 = .ok (.iload_n 1, 1) := by decide +kernel
theorem dX11_takesOut_18 : decode cX11_takesOut 18 = .ok (.istore_n 2, 1) := by decide +kernel
theorem dX11_takesOut_19 : decode cX11_takesOut 19 = .ok (.iload_n 2, 1) := by decide +kernel
theorem dX11_takesOut_20 : decode cX11_takesOut 20 = .ok (.aload_n 0, 1) := by decide +kernel
theorem dX11_takesOut_21 : decode cX11_takesOut 21 = .ok (.getfield 38, 3) := by decide +kernel
theorem dX11_takesOut_24 : decode cX11_takesOut 24 = .ok (.bipush 40, 2) := by decide +kernel
theorem dX11_takesOut_26 : decode cX11_takesOut 26 = .ok (.iaload, 1) := by decide +kernel
theorem dX11_takesOut_27 : decode cX11_takesOut 27 = .ok (.if_icmp .ge 29, 3) := by decide +kernel
theorem dX11_takesOut_30 : decode cX11_takesOut 30 = .ok (.aload_n 0, 1) := by decide +kernel
theorem dX11_takesOut_31 : decode cX11_takesOut 31 = .ok (.getfield 38, 3) := by decide +kernel
theorem dX11_takesOut_34 : decode cX11_takesOut 34 = .ok (.bipush 41, 2) := by decide +kernel
theorem dX11_takesOut_36 : decode cX11_takesOut 36 = .ok (.iload_n 2, 1) := by decide +kernel
theorem dX11_takesOut_37 : decode cX11_takesOut 37 = .ok (.iadd, 1) := by decide +kernel
theorem dX11_takesOut_38 : decode cX11_takesOut 38 = .ok (.aload_n 0, 1) := by decide +kernel
theorem dX11_takesOut_39 : decode cX11_takesOut 39 = .ok (.getfield 38, 3) := by decide +kernel
theorem dX11_takesOut_42 : decode cX11_takesOut 42 = .ok (.bipush 41, 2) := by decide +kernel
theorem dX11_takesOut_44 : decode cX11_takesOut 44 = .ok (.iload_n 2, 1) := by decide +kernel
theorem dX11_takesOut_45 : decode cX11_takesOut 45 = .ok (.iadd, 1) := by decide +kernel
theorem dX11_takesOut_46 : decode cX11_takesOut 46 = .ok (.iconst 1, 1) := by decide +kernel
theorem dX11_takesOut_47 : decode cX11_takesOut 47 = .ok (.iadd, 1) := by decide +kernel
theorem dX11_takesOut_48 : decode cX11_takesOut 48 = .ok (.iaload, 1) := by decide +kernel
theorem dX11_takesOut_49 : decode cX11_takesOut 49 = .ok (.iastore, 1) := by decide +kernel
theorem dX11_takesOut_50 : decode cX11_takesOut 50 = .ok (.iinc 2 1, 3) := by decide +kernel
theorem dX11_takesOut_53 : decode cX11_takesOut 53 = .ok (.goto (-34), 3) := by decide +kernel
theorem dX11_takesOut_56 : decode cX11_takesOut 56 = .ok (.return_, 1) := by decide +kernel
theorem ci_X11_takesOut : Cond.instanceMethod yX11_takesOut ∈ TW := TW_of 1911 (by decide +kernel) (by decide +kernel)
theorem cs_X11_takesOut : Cond.selects yX11_takesOut.cls yX11_takesOut yX11_takesOut ∈ TW := TW_of 84 (by decide +kernel) (by decide +kernel)
abbrev cX11_cutsWord : ByteArray := prog_13_method_99_code
def yX11_cutsWord : MethodName := ⟨RX11, "cutsWord", "(I)V"⟩
theorem dX11_cutsWord_0 : decode cX11_cutsWord 0 = .ok (.aload_n 0, 1) := by decide +kernel
theorem dX11_cutsWord_1 : decode cX11_cutsWord 1 = .ok (.getfield 38, 3) := by decide +kernel
theorem dX11_cutsWord_4 : decode cX11_cutsWord 4 = .ok (.iconst 0, 1) := by decide +kernel
theorem dX11_cutsWord_5 : decode cX11_cutsWord 5 = .ok (.iload_n 1, 1) := by decide +kernel
theorem dX11_cutsWord_6 : decode cX11_cutsWord 6 = .ok (.iadd, 1) := by decide +kernel
theorem dX11_cutsWord_7 : decode cX11_cutsWord 7 = .ok (.iconst 1, 1) := by decide +kernel
theorem dX11_cutsWord_8 : decode cX11_cutsWord 8 = .ok (.iastore, 1) := by decide +kernel
theorem dX11_cutsWord_9 : decode cX11_cutsWord 9 = .ok (.aload_n 0, 1) := by decide +kernel
theorem dX11_cutsWord_10 : decode cX11_cutsWord 10 = .ok (.getfield 20, 3) := by decide +kernel
theorem dX11_cutsWord_13 : decode cX11_cutsWord 13 = .ok (.iload_n 1, 1) := by decide +kernel
theorem dX11_cutsWord_14 : decode cX11_cutsWord 14 = .ok (.iaload, 1) := by decide +kernel
theorem dX11_cutsWord_15 : decode cX11_cutsWord 15 = .ok (.istore_n 2, 1) := by decide +kernel
theorem dX11_cutsWord_16 : decode cX11_cutsWord 16 = .ok (.aload_n 0, 1) := by decide +kernel
theorem dX11_cutsWord_17 : decode cX11_cutsWord 17 = .ok (.iload_n 2, 1) := by decide +kernel
theorem dX11_cutsWord_18 : decode cX11_cutsWord 18 = .ok (.invokevirtual 296, 3) := by decide +kernel
theorem dX11_cutsWord_21 : decode cX11_cutsWord 21 = .ok (.ifCond .ne 12, 3) := by decide +kernel
theorem dX11_cutsWord_24 : decode cX11_cutsWord 24 = .ok (.aload_n 0, 1) := by decide +kernel
theorem dX11_cutsWord_25 : decode cX11_cutsWord 25 = .ok (.aload_n 0, 1) := by decide +kernel
theorem dX11_cutsWord_26 : decode cX11_cutsWord 26 = .ok (.iload_n 2, 1) := by decide +kernel
theorem dX11_cutsWord_27 : decode cX11_cutsWord 27 = .ok (.invokevirtual 278, 3) := by decide +kernel
theorem dX11_cutsWord_30 : decode cX11_cutsWord 30 = .ok (.invokevirtual 362, 3) := by decide +kernel
theorem dX11_cutsWord_33 : decode cX11_cutsWord 33 = .ok (.return_, 1) := by decide +kernel
theorem ci_X11_cutsWord : Cond.instanceMethod yX11_cutsWord ∈ TW := TW_of 1907 (by decide +kernel) (by decide +kernel)
theorem cs_X11_cutsWord : Cond.selects yX11_cutsWord.cls yX11_cutsWord yX11_cutsWord ∈ TW := TW_of 83 (by decide +kernel) (by decide +kernel)
abbrev cX11_putsIn : ByteArray := prog_13_method_101_code
def yX11_putsIn : MethodName := ⟨RX11, "putsIn", "(II)V"⟩
theorem dX11_putsIn_0 : decode cX11_putsIn 0 = .ok (.aload_n 0, 1) := by decide +kernel
theorem dX11_putsIn_1 : decode cX11_putsIn 1 = .ok (.getfield 38, 3) := by decide +kernel
theorem dX11_putsIn_4 : decode cX11_putsIn 4 = .ok (.bipush 40, 2) := by decide +kernel
theorem dX11_putsIn_6 : decode cX11_putsIn 6 = .ok (.iaload, 1) := by decide +kernel
theorem dX11_putsIn_7 : decode cX11_putsIn 7 = .ok (.istore_n 3, 1) := by decide +kernel
theorem dX11_putsIn_8 : decode cX11_putsIn 8 = .ok (.iload_n 3, 1) := by decide +kernel
theorem dX11_putsIn_9 : decode cX11_putsIn 9 = .ok (.iload_n 1, 1) := by decide +kernel
theorem dX11_putsIn_10 : decode cX11_putsIn 10 = .ok (.if_icmp .le 29, 3) := by decide +kernel
theorem dX11_putsIn_13 : decode cX11_putsIn 13 = .ok (.aload_n 0, 1) := by decide +kernel
theorem dX11_putsIn_14 : decode cX11_putsIn 14 = .ok (.getfield 38, 3) := by decide +kernel
theorem dX11_putsIn_17 : decode cX11_putsIn 17 = .ok (.bipush 41, 2) := by decide +kernel
theorem dX11_putsIn_19 : decode cX11_putsIn 19 = .ok (.iload_n 3, 1) := by decide +kernel
theorem dX11_putsIn_20 : decode cX11_putsIn 20 = .ok (.iadd, 1) := by decide +kernel
theorem dX11_putsIn_21 : decode cX11_putsIn 21 = .ok (.aload_n 0, 1) := by decide +kernel
theorem dX11_putsIn_22 : decode cX11_putsIn 22 = .ok (.getfield 38, 3) := by decide +kernel
theorem dX11_putsIn_25 : decode cX11_putsIn 25 = .ok (.bipush 41, 2) := by decide +kernel
theorem dX11_putsIn_27 : decode cX11_putsIn 27 = .ok (.iload_n 3, 1) := by decide +kernel
theorem dX11_putsIn_28 : decode cX11_putsIn 28 = .ok (.iadd, 1) := by decide +kernel
theorem dX11_putsIn_29 : decode cX11_putsIn 29 = .ok (.iconst 1, 1) := by decide +kernel
theorem dX11_putsIn_30 : decode cX11_putsIn 30 = .ok (.isub, 1) := by decide +kernel
theorem dX11_putsIn_31 : decode cX11_putsIn 31 = .ok (.iaload, 1) := by decide +kernel
theorem dX11_putsIn_32 : decode cX11_putsIn 32 = .ok (.iastore, 1) := by decide +kernel
theorem dX11_putsIn_33 : decode cX11_putsIn 33 = .ok (.iinc 3 (-1), 3) := by decide +kernel
theorem dX11_putsIn_36 : decode cX11_putsIn 36 = .ok (.goto (-28), 3) := by decide +kernel
theorem dX11_putsIn_39 : decode cX11_putsIn 39 = .ok (.aload_n 0, 1) := by decide +kernel
theorem dX11_putsIn_40 : decode cX11_putsIn 40 = .ok (.getfield 38, 3) := by decide +kernel
theorem dX11_putsIn_43 : decode cX11_putsIn 43 = .ok (.bipush 41, 2) := by decide +kernel
theorem dX11_putsIn_45 : decode cX11_putsIn 45 = .ok (.iload_n 1, 1) := by decide +kernel
theorem dX11_putsIn_46 : decode cX11_putsIn 46 = .ok (.iadd, 1) := by decide +kernel
theorem dX11_putsIn_47 : decode cX11_putsIn 47 = .ok (.iload_n 2, 1) := by decide +kernel
theorem dX11_putsIn_48 : decode cX11_putsIn 48 = .ok (.iastore, 1) := by decide +kernel
theorem dX11_putsIn_49 : decode cX11_putsIn 49 = .ok (.aload_n 0, 1) := by decide +kernel
theorem dX11_putsIn_50 : decode cX11_putsIn 50 = .ok (.getfield 38, 3) := by decide +kernel
theorem dX11_putsIn_53 : decode cX11_putsIn 53 = .ok (.bipush 40, 2) := by decide +kernel
theorem dX11_putsIn_55 : decode cX11_putsIn 55 = .ok (.dup2, 1) := by decide +kernel
theorem dX11_putsIn_56 : decode cX11_putsIn 56 = .ok (.iaload, 1) := by decide +kernel
theorem dX11_putsIn_57 : decode cX11_putsIn 57 = .ok (.iconst 1, 1) := by decide +kernel
theorem dX11_putsIn_58 : decode cX11_putsIn 58 = .ok (.iadd, 1) := by decide +kernel
theorem dX11_putsIn_59 : decode cX11_putsIn 59 = .ok (.iastore, 1) := by decide +kernel
theorem dX11_putsIn_60 : decode cX11_putsIn 60 = .ok (.return_, 1) := by decide +kernel
theorem ci_X11_putsIn : Cond.instanceMethod yX11_putsIn ∈ TW := TW_of 1931 (by decide +kernel) (by decide +kernel)
theorem cs_X11_putsIn : Cond.selects yX11_putsIn.cls yX11_putsIn yX11_putsIn ∈ TW := TW_of 88 (by decide +kernel) (by decide +kernel)
theorem cw_X11_338 : CWd RX11 338 yX11_finds cX11_finds 5 (some .boolean) 1 := ⟨TW_of 1829 (by decide +kernel) (by decide +kernel), TW_of 1832 (by decide +kernel) (by decide +kernel), TW_of 112 (by decide +kernel) (by decide +kernel), by decide +kernel⟩
theorem cw_X11_341 : CWd RX11 341 yX11_noSpeaker cX11_noSpeaker 2 (some .boolean) 1 := ⟨TW_of 1837 (by decide +kernel) (by decide +kernel), TW_of 1840 (by decide +kernel) (by decide +kernel), TW_of 112 (by decide +kernel) (by decide +kernel), by decide +kernel⟩
theorem cw_X11_344 : CWd RX11 344 yX11_heardBy cX11_heardBy 5 (some .int) 1 := ⟨TW_of 1841 (by decide +kernel) (by decide +kernel), TW_of 1844 (by decide +kernel) (by decide +kernel), TW_of 112 (by decide +kernel) (by decide +kernel), by decide +kernel⟩
theorem cw_X11_353 : CWd RX11 353 yX11_countsSilence cX11_countsSilence 5 none 0 := ⟨TW_of 1849 (by decide +kernel) (by decide +kernel), TW_of 1852 (by decide +kernel) (by decide +kernel), TW_of 112 (by decide +kernel) (by decide +kernel), by decide +kernel⟩
theorem cw_X11_359 : CWd RX11 359 yX11_laysRow cX11_laysRow 4 none 0 := ⟨TW_of 1865 (by decide +kernel) (by decide +kernel), TW_of 1868 (by decide +kernel) (by decide +kernel), TW_of 112 (by decide +kernel) (by decide +kernel), by decide +kernel⟩
theorem cw_X11_362 : CWd RX11 362 yX11_takesOut cX11_takesOut 3 none 1 := ⟨TW_of 1909 (by decide +kernel) (by decide +kernel), TW_of 1912 (by decide +kernel) (by decide +kernel), TW_of 112 (by decide +kernel) (by decide +kernel), by decide +kernel⟩
set_option maxRecDepth 20000 in
set_option maxHeartbeats 1000000 in
theorem j_X11_finds_36 {l : Launch} {Z : ZT} {h : Hp} {p1 : Int32} {g : Hp} {x2 : Int32} {x3 : Int32} {x4 : Int32} {p : Program} {e : Env} {s : State} {m : MethodId} {args : Array Value} {below : List Frame} {meth : Method} {c : Code} (C : CX p s m args meth c cX11_finds RX11 5 (some .boolean) Z) {out : Int32 × Hp} {ls : Array Slot} {H : Heap} {locs : List Loc} (hW : XW Z h g s.heap H locs) (hl : lv_has ls 5 [(0, .ref (Z.1 125)), (1, .int p1), (2, .int x2), (3, .int x3), (4, .int x4)]) (hf : J_X11_finds_36 p1 g x2 x3 x4 = some out) : W p l e (rmD 3) s m args below meth c H locs 0 0 (MQ below (va_Qi (fun r (_ : Unit) => r = out.1) (fun _ => Wd Z h out.2) (FR Z)) args s 0 0 (FR Z)) (F0 m 36 ls []) := by
  rw [J_X11_finds_36] at hf
  refine lv_aload_n C.1 C.2.1 dX11_finds_36 rfl (lv_at hl 0 rfl) ?_
  refine lv_iload_n C.1 C.2.1 dX11_finds_37 rfl (lv_at hl 3 rfl) ?_
  refine xp_X11_332 C hW (k_125) hf dX11_finds_38 (fun g1 H locs hf hW => ?_)
  refine lv_aload_n C.1 C.2.1 dX11_finds_41 rfl (lv_at hl 0 rfl) ?_
  refine lv_aload_n C.1 C.2.1 dX11_finds_42 rfl (lv_at hl 0 rfl) ?_
  refine lv_iload C.1 C.2.1 dX11_finds_43 (lv_at hl 4 rfl) ?_
  obtain ⟨u2, hcu2, hf⟩ := bnd_t hf
  refine x_calli hW (x_runV C hW hl (wk9 (k_125)) rfl rfl (c_X11_playsFrom hcu2) (cw_X11_308) ci_X11_playsFrom cs_X11_playsFrom (rm_ok (by decide) (by decide)) ⟨Nat.le_refl _, Nat.le_refl _⟩ (As := [.int x4]) rfl rfl (Nat.le_of_ble_eq_true rfl) dX11_finds_45) (fun H locs hW => ?_)
  refine lv_iload_n C.1 C.2.1 dX11_finds_48 rfl (lv_at hl 2 rfl) ?_
  refine lv_iadd C.1 C.2.1 dX11_finds_49 ?_
  refine xp_X11_335 C hW (k_125) hf dX11_finds_50 (fun g3 H locs hf hW => ?_)
  refine lv_iconst (v := 1) C.1 C.2.1 dX11_finds_53 (by decide) ?_
  obtain rfl := Option.some.inj hf
  exact x_zret C hW (by decide) dX11_finds_54 rfl
set_option maxRecDepth 20000 in
set_option maxHeartbeats 1000000 in
theorem l_X11_finds_4 {l : Launch} {Z : ZT} {h : Hp} {p1 : Int32} {g : Hp} {p : Program} {e : Env} {s : State} {m : MethodId} {args : Array Value} {below : List Frame} {meth : Method} {c : Code} (C : CX p s m args meth c cX11_finds RX11 5 (some .boolean) Z) {out : Int32 × Hp} : ∀ (n : Nat) (x2 : Int32) (x3 : Int32) (ls : Array Slot) (H : Heap) (locs : List Loc), XW Z h g s.heap H locs → lv_has ls 5 [(0, .ref (Z.1 125)), (1, .int p1), (2, .int x2), (3, .int x3)] → Lp (F_X11_finds_4 p1 g) n (x2, x3) = some out → W p l e (rmD 3) s m args below meth c H locs 0 0 (MQ below (va_Qi (fun r (_ : Unit) => r = out.1) (fun _ => Wd Z h out.2) (FR Z)) args s 0 0 (FR Z)) (F0 m 4 ls []) := by
  intro n
  induction n with
  | zero => intro x2 x3 ls H locs hW hl hf; cases hf
  | succ n ih =>
    intro x2 x3 ls H locs hW hl hf
    rw [Lp_s] at hf
    refine lv_iload_n C.1 C.2.1 dX11_finds_4 rfl (lv_at hl 3 rfl) ?_
    refine lv_aload_n C.1 C.2.1 dX11_finds_5 rfl (lv_at hl 0 rfl) ?_
    refine xg_X11_38 C hW (k_125) dX11_finds_6 ?_
    refine lv_bipush (v := 40) C.1 C.2.1 dX11_finds_9 (by decide) ?_
    refine x_ialdM C hW a_134 hf dX11_finds_11 (fun hf => ?_)
    refine x_cmpge (tgt := 70) C hf dX11_finds_12 (by decide) (fun hf => ?_) (fun hf => ?_)
    · refine lv_iconst (v := 0) C.1 C.2.1 dX11_finds_70 (by decide) ?_
      obtain rfl := Option.some.inj hf
      exact x_zret C hW (by decide) dX11_finds_71 rfl
    · refine lv_iload_n C.1 C.2.1 dX11_finds_15 rfl (lv_at hl 2 rfl) ?_
      refine x_iflt (tgt := 70) C hf dX11_finds_16 (by decide) (fun hf => ?_) (fun hf => ?_)
      · refine lv_iconst (v := 0) C.1 C.2.1 dX11_finds_70 (by decide) ?_
        obtain rfl := Option.some.inj hf
        exact x_zret C hW (by decide) dX11_finds_71 rfl
      · refine lv_aload_n C.1 C.2.1 dX11_finds_19 rfl (lv_at hl 0 rfl) ?_
        refine lv_iload_n C.1 C.2.1 dX11_finds_20 rfl (lv_at hl 3 rfl) ?_
        obtain ⟨u4, hcu4, hf⟩ := bnd_t hf
        refine x_calli hW (x_runV C hW hl (wk9 (k_125)) rfl rfl (c_X11_shotBlock hcu4) (cw_X11_311) ci_X11_shotBlock cs_X11_shotBlock (rm_ok (by decide) (by decide)) ⟨Nat.le_refl _, Nat.le_refl _⟩ (As := [.int x3]) rfl rfl (Nat.le_of_ble_eq_true rfl) dX11_finds_21) (fun H locs hW => ?_)
        refine lv_istore (lv' := [(4, .int u4), (0, .ref (Z.1 125)), (1, .int p1), (2, .int x2), (3, .int x3)]) C.1 C.2.1 dX11_finds_24 hl (by decide) rfl (fun ls hl => ?_)
        refine lv_iload_n C.1 C.2.1 dX11_finds_26 rfl (lv_at hl 3 rfl) ?_
        refine lv_aload_n C.1 C.2.1 dX11_finds_27 rfl (lv_at hl 1 rfl) ?_
        refine lv_iload C.1 C.2.1 dX11_finds_28 (lv_at hl 0 rfl) ?_
        obtain ⟨u5, hcu5, hf⟩ := bnd_t hf
        refine x_calli hW (x_runV C hW hl (wk9 (k_125)) rfl rfl (c_X11_plays hcu5) (cw_X11_314) ci_X11_plays cs_X11_plays (rm_ok (by decide) (by decide)) ⟨Nat.le_refl _, Nat.le_refl _⟩ (As := [.int u4]) rfl rfl (Nat.le_of_ble_eq_true rfl) dX11_finds_30) (fun H locs hW => ?_)
        refine x_cmpge (tgt := 55) C hf dX11_finds_33 (by decide) (fun hf => ?_) (fun hf => ?_)
        · refine lv_iload_n C.1 C.2.1 dX11_finds_55 rfl (lv_at hl 3 rfl) ?_
          refine lv_aload_n C.1 C.2.1 dX11_finds_56 rfl (lv_at hl 1 rfl) ?_
          refine lv_iload C.1 C.2.1 dX11_finds_57 (lv_at hl 0 rfl) ?_
          obtain ⟨u6, hcu6, hf⟩ := bnd_t hf
          refine x_calli hW (x_runV C hW hl (wk9 (k_125)) rfl rfl (c_X11_plays hcu6) (cw_X11_314) ci_X11_plays cs_X11_plays (rm_ok (by decide) (by decide)) ⟨Nat.le_refl _, Nat.le_refl _⟩ (As := [.int u4]) rfl rfl (Nat.le_of_ble_eq_true rfl) dX11_finds_59) (fun H locs hW => ?_)
          refine lv_isub C.1 C.2.1 dX11_finds_62 ?_
          refine x_istn C hf dX11_finds_63 rfl hl (by decide) (fun v7 => [(2, .int v7), (4, .int u4), (0, .ref (Z.1 125)), (1, .int p1), (3, .int x3)]) (fun _ => rfl) (fun v7 ls hf hl => ?_)
          refine x_iinc (w := 1) C hf dX11_finds_64 hl (k := 4) rfl (by decide) (by decide) (fun v8 => [(3, .int v8), (2, .int v7), (4, .int u4), (0, .ref (Z.1 125)), (1, .int p1)]) (fun _ => rfl) (fun v8 ls hf hl => ?_)
          refine lv_goto (tgt := 4) C.1 C.2.1 dX11_finds_67 (by decide) ?_
          exact ih v7 v8 ls _ _ hW (lv_sub hl [3, 4, 1, 0] rfl) hf
        · exact j_X11_finds_36 C hW (lv_sub hl [1, 2, 3, 4, 0] rfl) hf
set_option maxRecDepth 20000 in
set_option maxHeartbeats 1000000 in
theorem c_X11_finds {l : Launch} {Z : ZT} {h : Hp} {g : Hp} {p1 : Int32} {out : Int32 × Hp} (hf : f_X11_finds g p1 = some out) : Met l yX11_finds (wY yX11_finds cX11_finds 5 (some .boolean)) (rmD 3) (va_Pc [.ref (Z.1 125), .int p1] (Wd Z h g)) (va_Qi (fun r (_ : Unit) => r = out.1) (fun _ => Wd Z h out.2) (FR Z)) 0 0 (FR Z) := by
  refine metX RX11 rfl (by decide +kernel) (Nat.le_of_ble_eq_true rfl) ?_
  intro p e s m args below meth c C hW ls hl
  have hl : lv_has ls 5 [(0, .ref (Z.1 125)), (1, .int p1)] := hl
  unfold f_X11_finds at hf
  refine lv_iload_n C.1 C.2.1 dX11_finds_0 rfl (lv_at hl 1 rfl) ?_
  refine lv_istore_n (lv' := [(2, .int p1), (0, .ref (Z.1 125)), (1, .int p1)]) C.1 C.2.1 dX11_finds_1 rfl hl (by decide) rfl (fun ls hl => ?_)
  refine lv_iconst (v := 0) C.1 C.2.1 dX11_finds_2 (by decide) ?_
  refine lv_istore_n (lv' := [(3, .int (0 : Int32)), (2, .int p1), (0, .ref (Z.1 125)), (1, .int p1)]) C.1 C.2.1 dX11_finds_3 rfl hl (by decide) rfl (fun ls hl => ?_)
  exact l_X11_finds_4 C FU p1 (0 : Int32) ls _ _ hW (lv_sub hl [2, 3, 1, 0] rfl) hf
set_option maxRecDepth 20000 in
set_option maxHeartbeats 1000000 in
theorem c_X11_sourceOf {l : Launch} {Z : ZT} {h : Hp} {g : Hp} {p1 : Int32} {out : Int32 × Hp} (hf : f_X11_sourceOf g p1 = some out) : Met l yX11_sourceOf (wY yX11_sourceOf cX11_sourceOf 2 (some .int)) (rmD 4) (va_Pc [.ref (Z.1 125), .int p1] (Wd Z h g)) (va_Qi (fun r (_ : Unit) => r = out.1) (fun _ => Wd Z h out.2) (FR Z)) 0 0 (FR Z) := by
  refine metX RX11 rfl (by decide +kernel) (Nat.le_of_ble_eq_true rfl) ?_
  intro p e s m args below meth c C hW ls hl
  have hl : lv_has ls 2 [(0, .ref (Z.1 125)), (1, .int p1)] := hl
  unfold f_X11_sourceOf at hf
  refine lv_aload_n C.1 C.2.1 dX11_sourceOf_0 rfl (lv_at hl 0 rfl) ?_
  refine lv_iconst (v := 0) C.1 C.2.1 dX11_sourceOf_1 (by decide) ?_
  refine xp_X11_3 C hW (k_125) hf dX11_sourceOf_2 (fun g1 H locs hf hW => ?_)
  refine lv_aload_n C.1 C.2.1 dX11_sourceOf_5 rfl (lv_at hl 0 rfl) ?_
  refine lv_iload_n C.1 C.2.1 dX11_sourceOf_6 rfl (lv_at hl 1 rfl) ?_
  obtain ⟨u2, hcu2, hf⟩ := bnd_t hf
  refine x_calli hW (x_runV C hW hl (wk9 (k_125)) rfl rfl (c_X11_finds hcu2) (cw_X11_338) ci_X11_finds cs_X11_finds (rm_ok (by decide) (by decide)) ⟨Nat.le_refl _, Nat.le_refl _⟩ (As := [.int p1]) rfl rfl (Nat.le_of_ble_eq_true rfl) dX11_sourceOf_7) (fun H locs hW => ?_)
  refine x_ifeq (tgt := 20) C hf dX11_sourceOf_10 (by decide) (fun hf => ?_) (fun hf => ?_)
  · refine lv_iconst (v := -1) C.1 C.2.1 dX11_sourceOf_20 (by decide) ?_
    obtain rfl := Option.some.inj hf
    exact x_iret C hW dX11_sourceOf_21 rfl
  · refine lv_aload_n C.1 C.2.1 dX11_sourceOf_13 rfl (lv_at hl 0 rfl) ?_
    refine xg_X11_335 C hW (k_125) dX11_sourceOf_14 ?_
    refine lv_goto (tgt := 21) C.1 C.2.1 dX11_sourceOf_17 (by decide) ?_
    obtain rfl := Option.some.inj hf
    exact x_iret C hW dX11_sourceOf_21 rfl
set_option maxRecDepth 20000 in
set_option maxHeartbeats 1000000 in
theorem j_X11_heardBy_89 {l : Launch} {Z : ZT} {h : Hp} {g : Hp} {p1 : Int32} {r16 : Int32 → Option (Int32)} {x2 : Int32} {x3 : Int32} {p : Program} {e : Env} {s : State} {m : MethodId} {args : Array Value} {below : List Frame} {meth : Method} {c : Code} (C : CX p s m args meth c cX11_heardBy RX11 5 (some .int) Z) {out : Int32} (hr16 : ∀ (x3 : Int32) (ls : Array Slot) (H : Heap) (locs : List Loc), XW Z h g s.heap H locs → lv_has ls 5 [(0, .ref (Z.1 125)), (1, .int p1), (2, .int x2), (3, .int x3)] → r16 x3 = some out → W p l e (rmD 1) s m args below meth c H locs 0 0 (MQ below (va_Qi (fun r (_ : Unit) => r = out) (fun _ => Wd Z h g) (FR Z)) args s 0 0 (FR Z)) (F0 m 16 ls [])) {ls : Array Slot} {H : Heap} {locs : List Loc} (hW : XW Z h g s.heap H locs) (hl : lv_has ls 5 [(0, .ref (Z.1 125)), (1, .int p1), (2, .int x2), (3, .int x3)]) (hf : J_X11_heardBy_89 g p1 r16 x2 x3 = some out) : W p l e (rmD 1) s m args below meth c H locs 0 0 (MQ below (va_Qi (fun r (_ : Unit) => r = out) (fun _ => Wd Z h g) (FR Z)) args s 0 0 (FR Z)) (F0 m 89 ls []) := by
  rw [J_X11_heardBy_89] at hf
  refine x_iinc (w := 1) C hf dX11_heardBy_89 hl (k := 3) rfl (by decide) (by decide) (fun v1 => [(3, .int v1), (0, .ref (Z.1 125)), (1, .int p1), (2, .int x2)]) (fun _ => rfl) (fun v1 ls hf hl => ?_)
  refine lv_goto (tgt := 16) C.1 C.2.1 dX11_heardBy_92 (by decide) ?_
  exact hr16 v1 ls _ _ hW (lv_sub hl [1, 2, 3, 0] rfl) hf
set_option maxRecDepth 20000 in
set_option maxHeartbeats 1000000 in
theorem j_X11_heardBy_48 {l : Launch} {Z : ZT} {h : Hp} {g : Hp} {p1 : Int32} {r16 : Int32 → Option (Int32)} {x2 : Int32} {x3 : Int32} {s0 : Int32} {p : Program} {e : Env} {s : State} {m : MethodId} {args : Array Value} {below : List Frame} {meth : Method} {c : Code} (C : CX p s m args meth c cX11_heardBy RX11 5 (some .int) Z) {out : Int32} (hr16 : ∀ (x3 : Int32) (ls : Array Slot) (H : Heap) (locs : List Loc), XW Z h g s.heap H locs → lv_has ls 5 [(0, .ref (Z.1 125)), (1, .int p1), (2, .int x2), (3, .int x3)] → r16 x3 = some out → W p l e (rmD 1) s m args below meth c H locs 0 0 (MQ below (va_Qi (fun r (_ : Unit) => r = out) (fun _ => Wd Z h g) (FR Z)) args s 0 0 (FR Z)) (F0 m 16 ls [])) {ls : Array Slot} {H : Heap} {locs : List Loc} (hW : XW Z h g s.heap H locs) (hl : lv_has ls 5 [(0, .ref (Z.1 125)), (1, .int p1), (2, .int x2), (3, .int x3)]) (hf : J_X11_heardBy_48 g p1 r16 x2 x3 s0 = some out) : W p l e (rmD 1) s m args below meth c H locs 0 0 (MQ below (va_Qi (fun r (_ : Unit) => r = out) (fun _ => Wd Z h g) (FR Z)) args s 0 0 (FR Z)) (F0 m 48 ls [.int s0]) := by
  refine lv_istore (lv' := [(4, .int s0), (0, .ref (Z.1 125)), (1, .int p1), (2, .int x2), (3, .int x3)]) C.1 C.2.1 dX11_heardBy_48 hl (by decide) rfl (fun ls hl => ?_)
  refine lv_iload C.1 C.2.1 dX11_heardBy_50 (lv_at hl 0 rfl) ?_
  refine x_ifeq (tgt := 89) C hf dX11_heardBy_52 (by decide) (fun hf => ?_) (fun hf => ?_)
  · exact j_X11_heardBy_89 C hr16 hW (lv_sub hl [1, 2, 3, 4] rfl) hf
  · refine lv_aload_n C.1 C.2.1 dX11_heardBy_55 rfl (lv_at hl 1 rfl) ?_
    refine lv_iload_n C.1 C.2.1 dX11_heardBy_56 rfl (lv_at hl 4 rfl) ?_
    obtain ⟨u2, hcu2, hf⟩ := bnd_t hf
    refine x_calli hW (x_runV C hW hl (wk9 (k_125)) rfl rfl (c_X11_isKept hcu2) (cw_X11_275) ci_X11_isKept cs_X11_isKept (rm_ok (by decide) (by decide)) ⟨Nat.le_refl _, Nat.le_refl _⟩ (As := [.int x3]) rfl rfl (Nat.le_of_ble_eq_true rfl) dX11_heardBy_57) (fun H locs hW => ?_)
    refine x_ifeq (tgt := 89) C hf dX11_heardBy_60 (by decide) (fun hf => ?_) (fun hf => ?_)
    · exact j_X11_heardBy_89 C hr16 hW (lv_sub hl [1, 2, 3, 4] rfl) hf
    · refine lv_aload_n C.1 C.2.1 dX11_heardBy_63 rfl (lv_at hl 1 rfl) ?_
      refine xg_X11_335 C hW (k_125) dX11_heardBy_64 ?_
      refine lv_aload_n C.1 C.2.1 dX11_heardBy_67 rfl (lv_at hl 1 rfl) ?_
      refine lv_iload_n C.1 C.2.1 dX11_heardBy_68 rfl (lv_at hl 4 rfl) ?_
      refine lv_iconst (v := 2) C.1 C.2.1 dX11_heardBy_69 (by decide) ?_
      obtain ⟨u3, hcu3, hf⟩ := bnd_t hf
      refine x_calli hW (x_runV C hW hl (wk9 (k_125)) rfl rfl (c_X11_of hcu3) (cw_X11_94) ci_X11_of cs_X11_of (rm_ok (by decide) (by decide)) ⟨Nat.le_refl _, Nat.le_refl _⟩ (As := [.int x3, .int (2 : Int32)]) rfl rfl (Nat.le_of_ble_eq_true rfl) dX11_heardBy_70) (fun H locs hW => ?_)
      refine lv_aload_n C.1 C.2.1 dX11_heardBy_73 rfl (lv_at hl 1 rfl) ?_
      refine lv_iload_n C.1 C.2.1 dX11_heardBy_74 rfl (lv_at hl 4 rfl) ?_
      refine lv_iconst (v := 3) C.1 C.2.1 dX11_heardBy_75 (by decide) ?_
      obtain ⟨u4, hcu4, hf⟩ := bnd_t hf
      refine x_calli hW (x_runV C hW hl (wk9 (k_125)) rfl rfl (c_X11_of hcu4) (cw_X11_94) ci_X11_of cs_X11_of (rm_ok (by decide) (by decide)) ⟨Nat.le_refl _, Nat.le_refl _⟩ (As := [.int x3, .int (3 : Int32)]) rfl rfl (Nat.le_of_ble_eq_true rfl) dX11_heardBy_76) (fun H locs hW => ?_)
      refine lv_iconst (v := 1) C.1 C.2.1 dX11_heardBy_79 (by decide) ?_
      refine lv_isub C.1 C.2.1 dX11_heardBy_80 ?_
      obtain ⟨u5, hcu5, hf⟩ := bnd_t hf
      refine x_calli hW (x_runS C hW hl (c_X11_in hcu5) (cw_X11_166) ct_X11_in (rm_ok (by decide) (by decide)) ⟨Nat.le_refl _, Nat.le_refl _⟩ (As := [.int (g 125 31), .int u3, .int (u4 - (1 : Int32))]) rfl rfl (Nat.le_of_ble_eq_true rfl) dX11_heardBy_81) (fun H locs hW => ?_)
      refine x_ifeq (tgt := 89) C hf dX11_heardBy_84 (by decide) (fun hf => ?_) (fun hf => ?_)
      · exact j_X11_heardBy_89 C hr16 hW (lv_sub hl [1, 2, 3, 4] rfl) hf
      · refine lv_iload_n C.1 C.2.1 dX11_heardBy_87 rfl (lv_at hl 4 rfl) ?_
        exact x_iret C hW dX11_heardBy_88 (Option.some.inj hf)
set_option maxRecDepth 20000 in
set_option maxHeartbeats 1000000 in
theorem j_X11_heardBy_43 {l : Launch} {Z : ZT} {h : Hp} {g : Hp} {p1 : Int32} {r16 : Int32 → Option (Int32)} {x2 : Int32} {x3 : Int32} {p : Program} {e : Env} {s : State} {m : MethodId} {args : Array Value} {below : List Frame} {meth : Method} {c : Code} (C : CX p s m args meth c cX11_heardBy RX11 5 (some .int) Z) {out : Int32} (hr16 : ∀ (x3 : Int32) (ls : Array Slot) (H : Heap) (locs : List Loc), XW Z h g s.heap H locs → lv_has ls 5 [(0, .ref (Z.1 125)), (1, .int p1), (2, .int x2), (3, .int x3)] → r16 x3 = some out → W p l e (rmD 1) s m args below meth c H locs 0 0 (MQ below (va_Qi (fun r (_ : Unit) => r = out) (fun _ => Wd Z h g) (FR Z)) args s 0 0 (FR Z)) (F0 m 16 ls [])) {ls : Array Slot} {H : Heap} {locs : List Loc} (hW : XW Z h g s.heap H locs) (hl : lv_has ls 5 [(0, .ref (Z.1 125)), (1, .int p1), (2, .int x2), (3, .int x3)]) (hf : J_X11_heardBy_43 g p1 r16 x2 x3 = some out) : W p l e (rmD 1) s m args below meth c H locs 0 0 (MQ below (va_Qi (fun r (_ : Unit) => r = out) (fun _ => Wd Z h g) (FR Z)) args s 0 0 (FR Z)) (F0 m 43 ls []) := by
  refine lv_iconst (v := 1) C.1 C.2.1 dX11_heardBy_43 (by decide) ?_
  refine lv_goto (tgt := 48) C.1 C.2.1 dX11_heardBy_44 (by decide) ?_
  exact j_X11_heardBy_48 C hr16 hW (lv_sub hl [0, 1, 2, 3] rfl) hf
set_option maxRecDepth 20000 in
set_option maxHeartbeats 1000000 in
theorem l_X11_heardBy_16 {l : Launch} {Z : ZT} {h : Hp} {g : Hp} {p1 : Int32} {x2 : Int32} {p : Program} {e : Env} {s : State} {m : MethodId} {args : Array Value} {below : List Frame} {meth : Method} {c : Code} (C : CX p s m args meth c cX11_heardBy RX11 5 (some .int) Z) {out : Int32} : ∀ (n : Nat) (x3 : Int32) (ls : Array Slot) (H : Heap) (locs : List Loc), XW Z h g s.heap H locs → lv_has ls 5 [(0, .ref (Z.1 125)), (1, .int p1), (2, .int x2), (3, .int x3)] → Lp (F_X11_heardBy_16 g p1 x2) n x3 = some out → W p l e (rmD 1) s m args below meth c H locs 0 0 (MQ below (va_Qi (fun r (_ : Unit) => r = out) (fun _ => Wd Z h g) (FR Z)) args s 0 0 (FR Z)) (F0 m 16 ls []) := by
  intro n
  induction n with
  | zero => intro x3 ls H locs hW hl hf; cases hf
  | succ n ih =>
    intro x3 ls H locs hW hl hf
    rw [Lp_s] at hf
    refine lv_iload_n C.1 C.2.1 dX11_heardBy_16 rfl (lv_at hl 3 rfl) ?_
    refine lv_aload_n C.1 C.2.1 dX11_heardBy_17 rfl (lv_at hl 0 rfl) ?_
    refine xg_X11_29 C hW (k_125) dX11_heardBy_18 ?_
    refine lv_iload_n C.1 C.2.1 dX11_heardBy_21 rfl (lv_at hl 2 rfl) ?_
    refine lv_iconst (v := 1) C.1 C.2.1 dX11_heardBy_22 (by decide) ?_
    refine lv_iadd C.1 C.2.1 dX11_heardBy_23 ?_
    refine x_ialdM C hW a_131 hf dX11_heardBy_24 (fun hf => ?_)
    refine x_cmpge (tgt := 95) C hf dX11_heardBy_25 (by decide) (fun hf => ?_) (fun hf => ?_)
    · refine lv_iconst (v := -1) C.1 C.2.1 dX11_heardBy_95 (by decide) ?_
      exact x_iret C hW dX11_heardBy_96 (Option.some.inj hf)
    · refine lv_iload_n C.1 C.2.1 dX11_heardBy_28 rfl (lv_at hl 1 rfl) ?_
      refine lv_iconst (v := -1) C.1 C.2.1 dX11_heardBy_29 (by decide) ?_
      refine x_cmpeq (tgt := 43) C hf dX11_heardBy_30 (by decide) (fun hf => ?_) (fun hf => ?_)
      · exact j_X11_heardBy_43 C (fun z0 => ih z0) hW (lv_sub hl [0, 1, 2, 3] rfl) hf
      · refine lv_aload_n C.1 C.2.1 dX11_heardBy_33 rfl (lv_at hl 0 rfl) ?_
        refine lv_iload_n C.1 C.2.1 dX11_heardBy_34 rfl (lv_at hl 3 rfl) ?_
        refine lv_iconst (v := 0) C.1 C.2.1 dX11_heardBy_35 (by decide) ?_
        obtain ⟨u6, hcu6, hf⟩ := bnd_t hf
        refine x_calli hW (x_runV C hW hl (wk9 (k_125)) rfl rfl (c_X11_of hcu6) (cw_X11_94) ci_X11_of cs_X11_of (rm_ok (by decide) (by decide)) ⟨Nat.le_refl _, Nat.le_refl _⟩ (As := [.int x3, .int (0 : Int32)]) rfl rfl (Nat.le_of_ble_eq_true rfl) dX11_heardBy_36) (fun H locs hW => ?_)
        refine lv_iload_n C.1 C.2.1 dX11_heardBy_39 rfl (lv_at hl 1 rfl) ?_
        refine x_cmpne (tgt := 47) C hf dX11_heardBy_40 (by decide) (fun hf => ?_) (fun hf => ?_)
        · refine lv_iconst (v := 0) C.1 C.2.1 dX11_heardBy_47 (by decide) ?_
          exact j_X11_heardBy_48 C (fun z0 => ih z0) hW (lv_sub hl [0, 1, 2, 3] rfl) hf
        · exact j_X11_heardBy_43 C (fun z0 => ih z0) hW (lv_sub hl [0, 1, 2, 3] rfl) hf
set_option maxRecDepth 20000 in
set_option maxHeartbeats 1000000 in
theorem c_X11_heardBy {l : Launch} {Z : ZT} {h : Hp} {g : Hp} {p1 : Int32} {out : Int32} (hf : f_X11_heardBy g p1 = some out) : Met l yX11_heardBy (wY yX11_heardBy cX11_heardBy 5 (some .int)) (rmD 1) (va_Pc [.ref (Z.1 125), .int p1] (Wd Z h g)) (va_Qi (fun r (_ : Unit) => r = out) (fun _ => Wd Z h g) (FR Z)) 0 0 (FR Z) := by
  refine metX RX11 rfl (by decide +kernel) (Nat.le_of_ble_eq_true rfl) ?_
  intro p e s m args below meth c C hW ls hl
  have hl : lv_has ls 5 [(0, .ref (Z.1 125)), (1, .int p1)] := hl
  unfold f_X11_heardBy at hf
  refine lv_aload_n C.1 C.2.1 dX11_heardBy_0 rfl (lv_at hl 0 rfl) ?_
  refine lv_aload_n C.1 C.2.1 dX11_heardBy_1 rfl (lv_at hl 0 rfl) ?_
  refine xg_X11_332 C hW (k_125) dX11_heardBy_2 ?_
  obtain ⟨u7, hcu7, hf⟩ := bnd_t hf
  refine x_calli hW (x_runV C hW hl (wk9 (k_125)) rfl rfl (c_X11_shotBlock hcu7) (cw_X11_311) ci_X11_shotBlock cs_X11_shotBlock (rm_ok (by decide) (by decide)) ⟨Nat.le_refl _, Nat.le_refl _⟩ (As := [.int (g 125 30)]) rfl rfl (Nat.le_of_ble_eq_true rfl) dX11_heardBy_5) (fun H locs hW => ?_)
  refine lv_istore_n (lv' := [(2, .int u7), (0, .ref (Z.1 125)), (1, .int p1)]) C.1 C.2.1 dX11_heardBy_8 rfl hl (by decide) rfl (fun ls hl => ?_)
  refine lv_aload_n C.1 C.2.1 dX11_heardBy_9 rfl (lv_at hl 1 rfl) ?_
  refine xg_X11_29 C hW (k_125) dX11_heardBy_10 ?_
  refine lv_iload_n C.1 C.2.1 dX11_heardBy_13 rfl (lv_at hl 0 rfl) ?_
  refine x_ialdM C hW a_131 hf dX11_heardBy_14 (fun hf => ?_)
  refine x_istn C hf dX11_heardBy_15 rfl hl (by decide) (fun v8 => [(3, .int v8), (2, .int u7), (0, .ref (Z.1 125)), (1, .int p1)]) (fun _ => rfl) (fun v8 ls hf hl => ?_)
  exact l_X11_heardBy_16 C FU v8 ls _ _ hW (lv_sub hl [2, 3, 1, 0] rfl) hf
set_option maxRecDepth 20000 in
set_option maxHeartbeats 1000000 in
theorem c_X11_heard {l : Launch} {Z : ZT} {h : Hp} {g : Hp} {p1 : Int32} {p2 : Int32} {out : Int32 × Hp} (hf : f_X11_heard g p1 p2 = some out) : Met l yX11_heard (wY yX11_heard cX11_heard 3 (some .int)) (rmD 4) (va_Pc [.ref (Z.1 125), .int p1, .int p2] (Wd Z h g)) (va_Qi (fun r (_ : Unit) => r = out.1) (fun _ => Wd Z h out.2) (FR Z)) 0 0 (FR Z) := by
  refine metX RX11 rfl (by decide +kernel) (Nat.le_of_ble_eq_true rfl) ?_
  intro p e s m args below meth c C hW ls hl
  have hl : lv_has ls 3 [(0, .ref (Z.1 125)), (1, .int p1), (2, .int p2)] := hl
  unfold f_X11_heard at hf
  refine lv_aload_n C.1 C.2.1 dX11_heard_0 rfl (lv_at hl 0 rfl) ?_
  refine lv_iconst (v := 0) C.1 C.2.1 dX11_heard_1 (by decide) ?_
  refine xp_X11_3 C hW (k_125) hf dX11_heard_2 (fun g1 H locs hf hW => ?_)
  refine lv_aload_n C.1 C.2.1 dX11_heard_5 rfl (lv_at hl 0 rfl) ?_
  refine lv_iload_n C.1 C.2.1 dX11_heard_6 rfl (lv_at hl 2 rfl) ?_
  obtain ⟨u2, hcu2, hf⟩ := bnd_t hf
  refine x_calli hW (x_runV C hW hl (wk9 (k_125)) rfl rfl (c_X11_noSpeaker hcu2) (cw_X11_341) ci_X11_noSpeaker cs_X11_noSpeaker (rm_ok (by decide) (by decide)) ⟨Nat.le_refl _, Nat.le_refl _⟩ (As := [.int p2]) rfl rfl (Nat.le_of_ble_eq_true rfl) dX11_heard_7) (fun H locs hW => ?_)
  refine x_ifeq (tgt := 15) C hf dX11_heard_10 (by decide) (fun hf => ?_) (fun hf => ?_)
  · refine lv_aload_n C.1 C.2.1 dX11_heard_15 rfl (lv_at hl 0 rfl) ?_
    refine lv_iload_n C.1 C.2.1 dX11_heard_16 rfl (lv_at hl 1 rfl) ?_
    obtain ⟨u3, hcu3, hf⟩ := bnd_t hf
    refine x_calli hW (x_runV C hW hl (wk9 (k_125)) rfl rfl (c_X11_finds hcu3) (cw_X11_338) ci_X11_finds cs_X11_finds (rm_ok (by decide) (by decide)) ⟨Nat.le_refl _, Nat.le_refl _⟩ (As := [.int p1]) rfl rfl (Nat.le_of_ble_eq_true rfl) dX11_heard_17) (fun H locs hW => ?_)
    refine x_ifeq (tgt := 31) C hf dX11_heard_20 (by decide) (fun hf => ?_) (fun hf => ?_)
    · refine lv_iconst (v := -1) C.1 C.2.1 dX11_heard_31 (by decide) ?_
      obtain rfl := Option.some.inj hf
      exact x_iret C hW dX11_heard_32 rfl
    · refine lv_aload_n C.1 C.2.1 dX11_heard_23 rfl (lv_at hl 0 rfl) ?_
      refine lv_iload_n C.1 C.2.1 dX11_heard_24 rfl (lv_at hl 2 rfl) ?_
      obtain ⟨u4, hcu4, hf⟩ := bnd_t hf
      refine x_calli hW (x_runV C hW hl (wk9 (k_125)) rfl rfl (c_X11_heardBy hcu4) (cw_X11_344) ci_X11_heardBy cs_X11_heardBy (rm_ok (by decide) (by decide)) ⟨Nat.le_refl _, Nat.le_refl _⟩ (As := [.int p2]) rfl rfl (Nat.le_of_ble_eq_true rfl) dX11_heard_25) (fun H locs hW => ?_)
      refine lv_goto (tgt := 32) C.1 C.2.1 dX11_heard_28 (by decide) ?_
      obtain rfl := Option.some.inj hf
      exact x_iret C hW dX11_heard_32 rfl
  · refine lv_iconst (v := 0) C.1 C.2.1 dX11_heard_13 (by decide) ?_
    obtain rfl := Option.some.inj hf
    exact x_iret C hW dX11_heard_14 rfl
set_option maxRecDepth 20000 in
set_option maxHeartbeats 1000000 in
theorem j_X11_countsSilence_130 {l : Launch} {Z : ZT} {h : Hp} {g : Hp} {r14 : Int32 × Int32 × Hp → Option (Hp)} {x1 : Int32} {x2 : Int32} {p : Program} {e : Env} {s : State} {m : MethodId} {args : Array Value} {below : List Frame} {meth : Method} {c : Code} (C : CX p s m args meth c cX11_countsSilence RX11 5 none Z) {out : Hp} (hr14 : ∀ (x1 : Int32) (x2 : Int32) (g : Hp) (ls : Array Slot) (H : Heap) (locs : List Loc), XW Z h g s.heap H locs → lv_has ls 5 [(0, .ref (Z.1 125)), (1, .int x1), (2, .int x2)] → r14 (x1, x2, g) = some out → W p l e (rmD 2) s m args below meth c H locs 0 0 (MQ below (va_Qv (fun (_ : Unit) => True) (fun _ => Wd Z h out) (FR Z)) args s 0 0 (FR Z)) (F0 m 14 ls [])) {ls : Array Slot} {H : Heap} {locs : List Loc} (hW : XW Z h g s.heap H locs) (hl : lv_has ls 5 [(0, .ref (Z.1 125)), (1, .int x1), (2, .int x2)]) (hf : J_X11_countsSilence_130 g r14 x1 x2 = some out) : W p l e (rmD 2) s m args below meth c H locs 0 0 (MQ below (va_Qv (fun (_ : Unit) => True) (fun _ => Wd Z h out) (FR Z)) args s 0 0 (FR Z)) (F0 m 130 ls []) := by
  rw [J_X11_countsSilence_130] at hf
  refine x_iinc (w := 1) C hf dX11_countsSilence_130 hl (k := 2) rfl (by decide) (by decide) (fun v1 => [(2, .int v1), (0, .ref (Z.1 125)), (1, .int x1)]) (fun _ => rfl) (fun v1 ls hf hl => ?_)
  refine lv_goto (tgt := 14) C.1 C.2.1 dX11_countsSilence_133 (by decide) ?_
  exact hr14 x1 v1 g ls _ _ hW (lv_sub hl [1, 2, 0] rfl) hf
set_option maxRecDepth 20000 in
set_option maxHeartbeats 1000000 in
theorem j_X11_countsSilence_104 {l : Launch} {Z : ZT} {h : Hp} {g : Hp} {r14 : Int32 × Int32 × Hp → Option (Hp)} {r45 : Int32 × Hp → Option (Hp)} {x2 : Int32} {x3 : Int32} {s0 : Int32} {p : Program} {e : Env} {s : State} {m : MethodId} {args : Array Value} {below : List Frame} {meth : Method} {c : Code} (C : CX p s m args meth c cX11_countsSilence RX11 5 none Z) {out : Hp} (hr14 : ∀ (x1 : Int32) (x2 : Int32) (g : Hp) (ls : Array Slot) (H : Heap) (locs : List Loc), XW Z h g s.heap H locs → lv_has ls 5 [(0, .ref (Z.1 125)), (1, .int x1), (2, .int x2)] → r14 (x1, x2, g) = some out → W p l e (rmD 2) s m args below meth c H locs 0 0 (MQ below (va_Qv (fun (_ : Unit) => True) (fun _ => Wd Z h out) (FR Z)) args s 0 0 (FR Z)) (F0 m 14 ls [])) (hr45 : ∀ (x1 : Int32) (g : Hp) (ls : Array Slot) (H : Heap) (locs : List Loc), XW Z h g s.heap H locs → lv_has ls 5 [(0, .ref (Z.1 125)), (1, .int x1), (2, .int x2), (3, .int x3)] → r45 (x1, g) = some out → W p l e (rmD 2) s m args below meth c H locs 0 0 (MQ below (va_Qv (fun (_ : Unit) => True) (fun _ => Wd Z h out) (FR Z)) args s 0 0 (FR Z)) (F0 m 45 ls [])) {ls : Array Slot} {H : Heap} {locs : List Loc} (hW : XW Z h g s.heap H locs) (hl : lv_has ls 5 [(0, .ref (Z.1 125)), (2, .int x2), (3, .int x3)]) (hf : J_X11_countsSilence_104 g r14 r45 x2 x3 s0 = some out) : W p l e (rmD 2) s m args below meth c H locs 0 0 (MQ below (va_Qv (fun (_ : Unit) => True) (fun _ => Wd Z h out) (FR Z)) args s 0 0 (FR Z)) (F0 m 104 ls [.int s0]) := by
  rw [J_X11_countsSilence_104] at hf
  refine lv_istore_n (lv' := [(1, .int s0), (0, .ref (Z.1 125)), (2, .int x2), (3, .int x3)]) C.1 C.2.1 dX11_countsSilence_104 rfl hl (by decide) rfl (fun ls hl => ?_)
  refine lv_aload_n C.1 C.2.1 dX11_countsSilence_105 rfl (lv_at hl 1 rfl) ?_
  refine lv_aload_n C.1 C.2.1 dX11_countsSilence_106 rfl (lv_at hl 1 rfl) ?_
  refine xg_X11_350 C hW (k_125) dX11_countsSilence_107 ?_
  refine lv_iload_n C.1 C.2.1 dX11_countsSilence_110 rfl (lv_at hl 0 rfl) ?_
  refine x_max C hl (ml_X11_98) (by decide) ⟨Nat.le_refl _, Nat.le_refl _⟩ (Nat.le_of_ble_eq_true rfl) dX11_countsSilence_111 ?_
  refine xp_X11_350 C hW (k_125) hf dX11_countsSilence_114 (fun g2 H locs hf hW => ?_)
  refine lv_aload_n C.1 C.2.1 dX11_countsSilence_117 rfl (lv_at hl 1 rfl) ?_
  refine lv_dup C.1 C.2.1 dX11_countsSilence_118 rfl ?_
  refine xg_X11_335 C hW (k_125) dX11_countsSilence_119 ?_
  refine lv_iconst (v := 1) C.1 C.2.1 dX11_countsSilence_122 (by decide) ?_
  refine lv_iadd C.1 C.2.1 dX11_countsSilence_123 ?_
  refine xp_X11_335 C hW (k_125) hf dX11_countsSilence_124 (fun g3 H locs hf hW => ?_)
  refine lv_goto (tgt := 45) C.1 C.2.1 dX11_countsSilence_127 (by decide) ?_
  exact hr45 s0 g3 ls _ _ hW (lv_sub hl [1, 0, 2, 3] rfl) hf
set_option maxRecDepth 20000 in
set_option maxHeartbeats 1000000 in
theorem j_X11_countsSilence_88 {l : Launch} {Z : ZT} {h : Hp} {g : Hp} {r14 : Int32 × Int32 × Hp → Option (Hp)} {r45 : Int32 × Hp → Option (Hp)} {x1 : Int32} {x2 : Int32} {x3 : Int32} {x4 : Int32} {s1 : Int32} {s2 : Int32} {p : Program} {e : Env} {s : State} {m : MethodId} {args : Array Value} {below : List Frame} {meth : Method} {c : Code} (C : CX p s m args meth c cX11_countsSilence RX11 5 none Z) {out : Hp} (hr14 : ∀ (x1 : Int32) (x2 : Int32) (g : Hp) (ls : Array Slot) (H : Heap) (locs : List Loc), XW Z h g s.heap H locs → lv_has ls 5 [(0, .ref (Z.1 125)), (1, .int x1), (2, .int x2)] → r14 (x1, x2, g) = some out → W p l e (rmD 2) s m args below meth c H locs 0 0 (MQ below (va_Qv (fun (_ : Unit) => True) (fun _ => Wd Z h out) (FR Z)) args s 0 0 (FR Z)) (F0 m 14 ls [])) (hr45 : ∀ (x1 : Int32) (g : Hp) (ls : Array Slot) (H : Heap) (locs : List Loc), XW Z h g s.heap H locs → lv_has ls 5 [(0, .ref (Z.1 125)), (1, .int x1), (2, .int x2), (3, .int x3)] → r45 (x1, g) = some out → W p l e (rmD 2) s m args below meth c H locs 0 0 (MQ below (va_Qv (fun (_ : Unit) => True) (fun _ => Wd Z h out) (FR Z)) args s 0 0 (FR Z)) (F0 m 45 ls [])) {ls : Array Slot} {H : Heap} {locs : List Loc} (hW : XW Z h g s.heap H locs) (hl : lv_has ls 5 [(0, .ref (Z.1 125)), (1, .int x1), (2, .int x2), (3, .int x3), (4, .int x4)]) (hf : J_X11_countsSilence_88 g r14 r45 x1 x2 x3 x4 s1 s2 = some out) : W p l e (rmD 2) s m args below meth c H locs 0 0 (MQ below (va_Qv (fun (_ : Unit) => True) (fun _ => Wd Z h out) (FR Z)) args s 0 0 (FR Z)) (F0 m 88 ls [.int s2, .int s1, .ref (Z.1 125)]) := by
  rw [J_X11_countsSilence_88] at hf
  refine lv_iadd C.1 C.2.1 dX11_countsSilence_88 ?_
  refine xp_X11_347 C hW (k_125) hf dX11_countsSilence_89 (fun g4 H locs hf hW => ?_)
  refine lv_iload C.1 C.2.1 dX11_countsSilence_92 (lv_at hl 4 rfl) ?_
  refine x_ifeq (tgt := 103) C hf dX11_countsSilence_94 (by decide) (fun hf => ?_) (fun hf => ?_)
  · refine lv_iconst (v := 0) C.1 C.2.1 dX11_countsSilence_103 (by decide) ?_
    exact j_X11_countsSilence_104 C hr14 hr45 hW (lv_sub hl [0, 2, 3] rfl) hf
  · refine lv_iload_n C.1 C.2.1 dX11_countsSilence_97 rfl (lv_at hl 1 rfl) ?_
    refine lv_iconst (v := 1) C.1 C.2.1 dX11_countsSilence_98 (by decide) ?_
    refine lv_iadd C.1 C.2.1 dX11_countsSilence_99 ?_
    refine lv_goto (tgt := 104) C.1 C.2.1 dX11_countsSilence_100 (by decide) ?_
    exact j_X11_countsSilence_104 C hr14 hr45 hW (lv_sub hl [0, 2, 3] rfl) hf
set_option maxRecDepth 20000 in
set_option maxHeartbeats 1000000 in
theorem j_X11_countsSilence_71 {l : Launch} {Z : ZT} {h : Hp} {g : Hp} {r14 : Int32 × Int32 × Hp → Option (Hp)} {r45 : Int32 × Hp → Option (Hp)} {x1 : Int32} {x2 : Int32} {x3 : Int32} {s0 : Int32} {p : Program} {e : Env} {s : State} {m : MethodId} {args : Array Value} {below : List Frame} {meth : Method} {c : Code} (C : CX p s m args meth c cX11_countsSilence RX11 5 none Z) {out : Hp} (hr14 : ∀ (x1 : Int32) (x2 : Int32) (g : Hp) (ls : Array Slot) (H : Heap) (locs : List Loc), XW Z h g s.heap H locs → lv_has ls 5 [(0, .ref (Z.1 125)), (1, .int x1), (2, .int x2)] → r14 (x1, x2, g) = some out → W p l e (rmD 2) s m args below meth c H locs 0 0 (MQ below (va_Qv (fun (_ : Unit) => True) (fun _ => Wd Z h out) (FR Z)) args s 0 0 (FR Z)) (F0 m 14 ls [])) (hr45 : ∀ (x1 : Int32) (g : Hp) (ls : Array Slot) (H : Heap) (locs : List Loc), XW Z h g s.heap H locs → lv_has ls 5 [(0, .ref (Z.1 125)), (1, .int x1), (2, .int x2), (3, .int x3)] → r45 (x1, g) = some out → W p l e (rmD 2) s m args below meth c H locs 0 0 (MQ below (va_Qv (fun (_ : Unit) => True) (fun _ => Wd Z h out) (FR Z)) args s 0 0 (FR Z)) (F0 m 45 ls [])) {ls : Array Slot} {H : Heap} {locs : List Loc} (hW : XW Z h g s.heap H locs) (hl : lv_has ls 5 [(0, .ref (Z.1 125)), (1, .int x1), (2, .int x2), (3, .int x3)]) (hf : J_X11_countsSilence_71 g r14 r45 x1 x2 x3 s0 = some out) : W p l e (rmD 2) s m args below meth c H locs 0 0 (MQ below (va_Qv (fun (_ : Unit) => True) (fun _ => Wd Z h out) (FR Z)) args s 0 0 (FR Z)) (F0 m 71 ls [.int s0]) := by
  refine lv_istore (lv' := [(4, .int s0), (0, .ref (Z.1 125)), (1, .int x1), (2, .int x2), (3, .int x3)]) C.1 C.2.1 dX11_countsSilence_71 hl (by decide) rfl (fun ls hl => ?_)
  refine lv_aload_n C.1 C.2.1 dX11_countsSilence_73 rfl (lv_at hl 1 rfl) ?_
  refine lv_dup C.1 C.2.1 dX11_countsSilence_74 rfl ?_
  refine xg_X11_347 C hW (k_125) dX11_countsSilence_75 ?_
  refine lv_iload C.1 C.2.1 dX11_countsSilence_78 (lv_at hl 0 rfl) ?_
  refine x_ifeq (tgt := 87) C hf dX11_countsSilence_80 (by decide) (fun hf => ?_) (fun hf => ?_)
  · refine lv_iconst (v := 0) C.1 C.2.1 dX11_countsSilence_87 (by decide) ?_
    exact j_X11_countsSilence_88 C hr14 hr45 hW (lv_sub hl [1, 2, 3, 4, 0] rfl) hf
  · refine lv_iconst (v := 1) C.1 C.2.1 dX11_countsSilence_83 (by decide) ?_
    refine lv_goto (tgt := 88) C.1 C.2.1 dX11_countsSilence_84 (by decide) ?_
    exact j_X11_countsSilence_88 C hr14 hr45 hW (lv_sub hl [1, 2, 3, 4, 0] rfl) hf
set_option maxRecDepth 20000 in
set_option maxHeartbeats 1000000 in
theorem l_X11_countsSilence_45 {l : Launch} {Z : ZT} {h : Hp} {r14 : Int32 × Int32 × Hp → Option (Hp)} {x2 : Int32} {x3 : Int32} {p : Program} {e : Env} {s : State} {m : MethodId} {args : Array Value} {below : List Frame} {meth : Method} {c : Code} (C : CX p s m args meth c cX11_countsSilence RX11 5 none Z) {out : Hp} (hr14 : ∀ (x1 : Int32) (x2 : Int32) (g : Hp) (ls : Array Slot) (H : Heap) (locs : List Loc), XW Z h g s.heap H locs → lv_has ls 5 [(0, .ref (Z.1 125)), (1, .int x1), (2, .int x2)] → r14 (x1, x2, g) = some out → W p l e (rmD 2) s m args below meth c H locs 0 0 (MQ below (va_Qv (fun (_ : Unit) => True) (fun _ => Wd Z h out) (FR Z)) args s 0 0 (FR Z)) (F0 m 14 ls [])) : ∀ (n : Nat) (x1 : Int32) (g : Hp) (ls : Array Slot) (H : Heap) (locs : List Loc), XW Z h g s.heap H locs → lv_has ls 5 [(0, .ref (Z.1 125)), (1, .int x1), (2, .int x2), (3, .int x3)] → Lp (F_X11_countsSilence_45 r14 x2 x3) n (x1, g) = some out → W p l e (rmD 2) s m args below meth c H locs 0 0 (MQ below (va_Qv (fun (_ : Unit) => True) (fun _ => Wd Z h out) (FR Z)) args s 0 0 (FR Z)) (F0 m 45 ls []) := by
  intro n
  induction n with
  | zero => intro x1 g ls H locs hW hl hf; cases hf
  | succ n ih =>
    intro x1 g ls H locs hW hl hf
    rw [Lp_s] at hf
    rw [F_X11_countsSilence_45] at hf
    try dsimp only at hf
    refine lv_aload_n C.1 C.2.1 dX11_countsSilence_45 rfl (lv_at hl 0 rfl) ?_
    refine xg_X11_335 C hW (k_125) dX11_countsSilence_46 ?_
    refine lv_aload_n C.1 C.2.1 dX11_countsSilence_49 rfl (lv_at hl 0 rfl) ?_
    refine lv_iload_n C.1 C.2.1 dX11_countsSilence_50 rfl (lv_at hl 3 rfl) ?_
    obtain ⟨u5, hcu5, hf⟩ := bnd_t hf
    refine x_calli hW (x_runV C hW hl (wk9 (k_125)) rfl rfl (c_X11_playsTo hcu5) (cw_X11_305) ci_X11_playsTo cs_X11_playsTo (rm_ok (by decide) (by decide)) ⟨Nat.le_refl _, Nat.le_refl _⟩ (As := [.int x3]) rfl rfl (Nat.le_of_ble_eq_true rfl) dX11_countsSilence_51) (fun H locs hW => ?_)
    refine x_cmpge (tgt := 130) C hf dX11_countsSilence_54 (by decide) (fun hf => ?_) (fun hf => ?_)
    · exact j_X11_countsSilence_130 C hr14 hW (lv_sub hl [0, 1, 2] rfl) hf
    · refine lv_aload_n C.1 C.2.1 dX11_countsSilence_57 rfl (lv_at hl 0 rfl) ?_
      refine lv_iconst (v := -1) C.1 C.2.1 dX11_countsSilence_58 (by decide) ?_
      obtain ⟨u6, hcu6, hf⟩ := bnd_t hf
      refine x_calli hW (x_runV C hW hl (wk9 (k_125)) rfl rfl (c_X11_heardBy hcu6) (cw_X11_344) ci_X11_heardBy cs_X11_heardBy (rm_ok (by decide) (by decide)) ⟨Nat.le_refl _, Nat.le_refl _⟩ (As := [.int (-1 : Int32)]) rfl rfl (Nat.le_of_ble_eq_true rfl) dX11_countsSilence_59) (fun H locs hW => ?_)
      refine lv_iconst (v := -1) C.1 C.2.1 dX11_countsSilence_62 (by decide) ?_
      refine x_cmpne (tgt := 70) C hf dX11_countsSilence_63 (by decide) (fun hf => ?_) (fun hf => ?_)
      · refine lv_iconst (v := 0) C.1 C.2.1 dX11_countsSilence_70 (by decide) ?_
        exact j_X11_countsSilence_71 C hr14 (fun z0 z1 => ih z0 z1) hW (lv_sub hl [0, 1, 2, 3] rfl) hf
      · refine lv_iconst (v := 1) C.1 C.2.1 dX11_countsSilence_66 (by decide) ?_
        refine lv_goto (tgt := 71) C.1 C.2.1 dX11_countsSilence_67 (by decide) ?_
        exact j_X11_countsSilence_71 C hr14 (fun z0 z1 => ih z0 z1) hW (lv_sub hl [0, 1, 2, 3] rfl) hf
set_option maxRecDepth 20000 in
set_option maxHeartbeats 1000000 in
theorem l_X11_countsSilence_14 {l : Launch} {Z : ZT} {h : Hp} {p : Program} {e : Env} {s : State} {m : MethodId} {args : Array Value} {below : List Frame} {meth : Method} {c : Code} (C : CX p s m args meth c cX11_countsSilence RX11 5 none Z) {out : Hp} : ∀ (n : Nat) (x1 : Int32) (x2 : Int32) (g : Hp) (ls : Array Slot) (H : Heap) (locs : List Loc), XW Z h g s.heap H locs → lv_has ls 5 [(0, .ref (Z.1 125)), (1, .int x1), (2, .int x2)] → Lp (F_X11_countsSilence_14) n (x1, x2, g) = some out → W p l e (rmD 2) s m args below meth c H locs 0 0 (MQ below (va_Qv (fun (_ : Unit) => True) (fun _ => Wd Z h out) (FR Z)) args s 0 0 (FR Z)) (F0 m 14 ls []) := by
  intro n
  induction n with
  | zero => intro x1 x2 g ls H locs hW hl hf; cases hf
  | succ n ih =>
    intro x1 x2 g ls H locs hW hl hf
    rw [Lp_s] at hf
    refine lv_iload_n C.1 C.2.1 dX11_countsSilence_14 rfl (lv_at hl 2 rfl) ?_
    refine lv_aload_n C.1 C.2.1 dX11_countsSilence_15 rfl (lv_at hl 0 rfl) ?_
    refine xg_X11_38 C hW (k_125) dX11_countsSilence_16 ?_
    refine lv_bipush (v := 40) C.1 C.2.1 dX11_countsSilence_19 (by decide) ?_
    refine x_ialdM C hW a_134 hf dX11_countsSilence_21 (fun hf => ?_)
    refine x_cmpge (tgt := 136) C hf dX11_countsSilence_22 (by decide) (fun hf => ?_) (fun hf => ?_)
    · obtain rfl := Option.some.inj hf
      exact x_vret C hW dX11_countsSilence_136 trivial
    · refine lv_aload_n C.1 C.2.1 dX11_countsSilence_25 rfl (lv_at hl 0 rfl) ?_
      refine lv_iload_n C.1 C.2.1 dX11_countsSilence_26 rfl (lv_at hl 2 rfl) ?_
      refine xp_X11_332 C hW (k_125) hf dX11_countsSilence_27 (fun g7 H locs hf hW => ?_)
      refine lv_aload_n C.1 C.2.1 dX11_countsSilence_30 rfl (lv_at hl 0 rfl) ?_
      refine lv_iload_n C.1 C.2.1 dX11_countsSilence_31 rfl (lv_at hl 2 rfl) ?_
      obtain ⟨u8, hcu8, hf⟩ := bnd_t hf
      refine x_calli hW (x_runV C hW hl (wk9 (k_125)) rfl rfl (c_X11_shotBlock hcu8) (cw_X11_311) ci_X11_shotBlock cs_X11_shotBlock (rm_ok (by decide) (by decide)) ⟨Nat.le_refl _, Nat.le_refl _⟩ (As := [.int x2]) rfl rfl (Nat.le_of_ble_eq_true rfl) dX11_countsSilence_32) (fun H locs hW => ?_)
      refine lv_istore_n (lv' := [(3, .int u8), (0, .ref (Z.1 125)), (1, .int x1), (2, .int x2)]) C.1 C.2.1 dX11_countsSilence_35 rfl hl (by decide) rfl (fun ls hl => ?_)
      refine lv_aload_n C.1 C.2.1 dX11_countsSilence_36 rfl (lv_at hl 1 rfl) ?_
      refine lv_aload_n C.1 C.2.1 dX11_countsSilence_37 rfl (lv_at hl 1 rfl) ?_
      refine lv_iload_n C.1 C.2.1 dX11_countsSilence_38 rfl (lv_at hl 0 rfl) ?_
      obtain ⟨u9, hcu9, hf⟩ := bnd_t hf
      refine x_calli hW (x_runV C hW hl (wk9 (k_125)) rfl rfl (c_X11_playsFrom hcu9) (cw_X11_308) ci_X11_playsFrom cs_X11_playsFrom (rm_ok (by decide) (by decide)) ⟨Nat.le_refl _, Nat.le_refl _⟩ (As := [.int u8]) rfl rfl (Nat.le_of_ble_eq_true rfl) dX11_countsSilence_39) (fun H locs hW => ?_)
      refine xp_X11_335 C hW (k_125) hf dX11_countsSilence_42 (fun g10 H locs hf hW => ?_)
      exact l_X11_countsSilence_45 C (fun z0 z1 z2 => ih z0 z1 z2) FU x1 g10 ls _ _ hW (lv_sub hl [1, 2, 3, 0] rfl) hf
set_option maxRecDepth 20000 in
set_option maxHeartbeats 1000000 in
theorem c_X11_countsSilence {l : Launch} {Z : ZT} {h : Hp} {g : Hp} {out : Hp} (hf : f_X11_countsSilence g = some out) : Met l yX11_countsSilence (wY yX11_countsSilence cX11_countsSilence 5 none) (rmD 2) (va_Pc [.ref (Z.1 125)] (Wd Z h g)) (va_Qv (fun (_ : Unit) => True) (fun _ => Wd Z h out) (FR Z)) 0 0 (FR Z) := by
  refine metX RX11 rfl (by decide +kernel) (Nat.le_of_ble_eq_true rfl) ?_
  intro p e s m args below meth c C hW ls hl
  have hl : lv_has ls 5 [(0, .ref (Z.1 125))] := hl
  unfold f_X11_countsSilence at hf
  refine lv_aload_n C.1 C.2.1 dX11_countsSilence_0 rfl (lv_at hl 0 rfl) ?_
  refine lv_iconst (v := 0) C.1 C.2.1 dX11_countsSilence_1 (by decide) ?_
  refine xp_X11_347 C hW (k_125) hf dX11_countsSilence_2 (fun g11 H locs hf hW => ?_)
  refine lv_aload_n C.1 C.2.1 dX11_countsSilence_5 rfl (lv_at hl 0 rfl) ?_
  refine lv_iconst (v := 0) C.1 C.2.1 dX11_countsSilence_6 (by decide) ?_
  refine xp_X11_350 C hW (k_125) hf dX11_countsSilence_7 (fun g12 H locs hf hW => ?_)
  refine lv_iconst (v := 0) C.1 C.2.1 dX11_countsSilence_10 (by decide) ?_
  refine lv_istore_n (lv' := [(1, .int (0 : Int32)), (0, .ref (Z.1 125))]) C.1 C.2.1 dX11_countsSilence_11 rfl hl (by decide) rfl (fun ls hl => ?_)
  refine lv_iconst (v := 0) C.1 C.2.1 dX11_countsSilence_12 (by decide) ?_
  refine lv_istore_n (lv' := [(2, .int (0 : Int32)), (1, .int (0 : Int32)), (0, .ref (Z.1 125))]) C.1 C.2.1 dX11_countsSilence_13 rfl hl (by decide) rfl (fun ls hl => ?_)
  exact l_X11_countsSilence_14 C FU (0 : Int32) (0 : Int32) g12 ls _ _ hW (lv_sub hl [2, 1, 0] rfl) hf
set_option maxRecDepth 20000 in
set_option maxHeartbeats 1000000 in
theorem c_X11_silence {l : Launch} {Z : ZT} {h : Hp} {g : Hp} {out : Int32 × Hp} (hf : f_X11_silence g = some out) : Met l yX11_silence (wY yX11_silence cX11_silence 1 (some .int)) (rmD 3) (va_Pc [.ref (Z.1 125)] (Wd Z h g)) (va_Qi (fun r (_ : Unit) => r = out.1) (fun _ => Wd Z h out.2) (FR Z)) 0 0 (FR Z) := by
  refine metX RX11 rfl (by decide +kernel) (Nat.le_of_ble_eq_true rfl) ?_
  intro p e s m args below meth c C hW ls hl
  have hl : lv_has ls 1 [(0, .ref (Z.1 125))] := hl
  unfold f_X11_silence at hf
  refine lv_aload_n C.1 C.2.1 dX11_silence_0 rfl (lv_at hl 0 rfl) ?_
  refine lv_iconst (v := 0) C.1 C.2.1 dX11_silence_1 (by decide) ?_
  refine xp_X11_3 C hW (k_125) hf dX11_silence_2 (fun g1 H locs hf hW => ?_)
  refine lv_aload_n C.1 C.2.1 dX11_silence_5 rfl (lv_at hl 0 rfl) ?_
  obtain ⟨u2, hcu2, hf⟩ := bnd_t hf
  refine x_callv hW (x_runV C hW hl (wk9 (k_125)) rfl rfl (c_X11_countsSilence hcu2) (cw_X11_353) ci_X11_countsSilence cs_X11_countsSilence (rm_ok (by decide) (by decide)) ⟨Nat.le_refl _, Nat.le_refl _⟩ (As := []) rfl rfl (Nat.le_of_ble_eq_true rfl) dX11_silence_6) (fun H locs hW => ?_)
  refine lv_aload_n C.1 C.2.1 dX11_silence_9 rfl (lv_at hl 0 rfl) ?_
  refine xg_X11_347 C hW (k_125) dX11_silence_10 ?_
  obtain rfl := Option.some.inj hf
  exact x_iret C hW dX11_silence_13 rfl
set_option maxRecDepth 20000 in
set_option maxHeartbeats 1000000 in
theorem c_X11_longestSilence {l : Launch} {Z : ZT} {h : Hp} {g : Hp} {out : Int32 × Hp} (hf : f_X11_longestSilence g = some out) : Met l yX11_longestSilence (wY yX11_longestSilence cX11_longestSilence 1 (some .int)) (rmD 3) (va_Pc [.ref (Z.1 125)] (Wd Z h g)) (va_Qi (fun r (_ : Unit) => r = out.1) (fun _ => Wd Z h out.2) (FR Z)) 0 0 (FR Z) := by
  refine metX RX11 rfl (by decide +kernel) (Nat.le_of_ble_eq_true rfl) ?_
  intro p e s m args below meth c C hW ls hl
  have hl : lv_has ls 1 [(0, .ref (Z.1 125))] := hl
  unfold f_X11_longestSilence at hf
  refine lv_aload_n C.1 C.2.1 dX11_longestSilence_0 rfl (lv_at hl 0 rfl) ?_
  refine lv_iconst (v := 0) C.1 C.2.1 dX11_longestSilence_1 (by decide) ?_
  refine xp_X11_3 C hW (k_125) hf dX11_longestSilence_2 (fun g1 H locs hf hW => ?_)
  refine lv_aload_n C.1 C.2.1 dX11_longestSilence_5 rfl (lv_at hl 0 rfl) ?_
  obtain ⟨u2, hcu2, hf⟩ := bnd_t hf
  refine x_callv hW (x_runV C hW hl (wk9 (k_125)) rfl rfl (c_X11_countsSilence hcu2) (cw_X11_353) ci_X11_countsSilence cs_X11_countsSilence (rm_ok (by decide) (by decide)) ⟨Nat.le_refl _, Nat.le_refl _⟩ (As := []) rfl rfl (Nat.le_of_ble_eq_true rfl) dX11_longestSilence_6) (fun H locs hW => ?_)
  refine lv_aload_n C.1 C.2.1 dX11_longestSilence_9 rfl (lv_at hl 0 rfl) ?_
  refine xg_X11_350 C hW (k_125) dX11_longestSilence_10 ?_
  obtain rfl := Option.some.inj hf
  exact x_iret C hW dX11_longestSilence_13 rfl
set_option maxRecDepth 20000 in
set_option maxHeartbeats 1000000 in
theorem j_X11_speakingTime_63 {l : Launch} {Z : ZT} {h : Hp} {p1 : Int32} {g : Hp} {r19 : Int32 × Int32 → Option (Int32 × Hp)} {x3 : Int32} {s0 : Int32} {s1 : Int32} {p : Program} {e : Env} {s : State} {m : MethodId} {args : Array Value} {below : List Frame} {meth : Method} {c : Code} (C : CX p s m args meth c cX11_speakingTime RX11 4 (some .int) Z) {out : Int32 × Hp} (hr19 : ∀ (x2 : Int32) (x3 : Int32) (ls : Array Slot) (H : Heap) (locs : List Loc), XW Z h g s.heap H locs → lv_has ls 4 [(0, .ref (Z.1 125)), (1, .int p1), (2, .int x2), (3, .int x3)] → r19 (x2, x3) = some out → W p l e (rmD 2) s m args below meth c H locs 0 0 (MQ below (va_Qi (fun r (_ : Unit) => r = out.1) (fun _ => Wd Z h out.2) (FR Z)) args s 0 0 (FR Z)) (F0 m 19 ls [])) {ls : Array Slot} {H : Heap} {locs : List Loc} (hW : XW Z h g s.heap H locs) (hl : lv_has ls 4 [(0, .ref (Z.1 125)), (1, .int p1), (3, .int x3)]) (hf : J_X11_speakingTime_63 p1 g r19 x3 s0 s1 = some out) : W p l e (rmD 2) s m args below meth c H locs 0 0 (MQ below (va_Qi (fun r (_ : Unit) => r = out.1) (fun _ => Wd Z h out.2) (FR Z)) args s 0 0 (FR Z)) (F0 m 63 ls [.int s1, .int s0]) := by
  rw [J_X11_speakingTime_63] at hf
  refine lv_iadd C.1 C.2.1 dX11_speakingTime_63 ?_
  refine x_istn C hf dX11_speakingTime_64 rfl hl (by decide) (fun v1 => [(2, .int v1), (0, .ref (Z.1 125)), (1, .int p1), (3, .int x3)]) (fun _ => rfl) (fun v1 ls hf hl => ?_)
  refine x_iinc (w := 1) C hf dX11_speakingTime_65 hl (k := 3) rfl (by decide) (by decide) (fun v2 => [(3, .int v2), (2, .int v1), (0, .ref (Z.1 125)), (1, .int p1)]) (fun _ => rfl) (fun v2 ls hf hl => ?_)
  refine lv_goto (tgt := 19) C.1 C.2.1 dX11_speakingTime_68 (by decide) ?_
  exact hr19 v1 v2 ls _ _ hW (lv_sub hl [2, 3, 1, 0] rfl) hf
set_option maxRecDepth 20000 in
set_option maxHeartbeats 1000000 in
theorem j_X11_speakingTime_62 {l : Launch} {Z : ZT} {h : Hp} {p1 : Int32} {g : Hp} {r19 : Int32 × Int32 → Option (Int32 × Hp)} {x3 : Int32} {s0 : Int32} {p : Program} {e : Env} {s : State} {m : MethodId} {args : Array Value} {below : List Frame} {meth : Method} {c : Code} (C : CX p s m args meth c cX11_speakingTime RX11 4 (some .int) Z) {out : Int32 × Hp} (hr19 : ∀ (x2 : Int32) (x3 : Int32) (ls : Array Slot) (H : Heap) (locs : List Loc), XW Z h g s.heap H locs → lv_has ls 4 [(0, .ref (Z.1 125)), (1, .int p1), (2, .int x2), (3, .int x3)] → r19 (x2, x3) = some out → W p l e (rmD 2) s m args below meth c H locs 0 0 (MQ below (va_Qi (fun r (_ : Unit) => r = out.1) (fun _ => Wd Z h out.2) (FR Z)) args s 0 0 (FR Z)) (F0 m 19 ls [])) {ls : Array Slot} {H : Heap} {locs : List Loc} (hW : XW Z h g s.heap H locs) (hl : lv_has ls 4 [(0, .ref (Z.1 125)), (1, .int p1), (3, .int x3)]) (hf : J_X11_speakingTime_62 p1 g r19 x3 s0 = some out) : W p l e (rmD 2) s m args below meth c H locs 0 0 (MQ below (va_Qi (fun r (_ : Unit) => r = out.1) (fun _ => Wd Z h out.2) (FR Z)) args s 0 0 (FR Z)) (F0 m 62 ls [.int s0]) := by
  refine lv_iconst (v := 0) C.1 C.2.1 dX11_speakingTime_62 (by decide) ?_
  exact j_X11_speakingTime_63 C hr19 hW (lv_sub hl [0, 1, 2] rfl) hf
set_option maxRecDepth 20000 in
set_option maxHeartbeats 1000000 in
theorem l_X11_speakingTime_19 {l : Launch} {Z : ZT} {h : Hp} {p1 : Int32} {g : Hp} {p : Program} {e : Env} {s : State} {m : MethodId} {args : Array Value} {below : List Frame} {meth : Method} {c : Code} (C : CX p s m args meth c cX11_speakingTime RX11 4 (some .int) Z) {out : Int32 × Hp} : ∀ (n : Nat) (x2 : Int32) (x3 : Int32) (ls : Array Slot) (H : Heap) (locs : List Loc), XW Z h g s.heap H locs → lv_has ls 4 [(0, .ref (Z.1 125)), (1, .int p1), (2, .int x2), (3, .int x3)] → Lp (F_X11_speakingTime_19 p1 g) n (x2, x3) = some out → W p l e (rmD 2) s m args below meth c H locs 0 0 (MQ below (va_Qi (fun r (_ : Unit) => r = out.1) (fun _ => Wd Z h out.2) (FR Z)) args s 0 0 (FR Z)) (F0 m 19 ls []) := by
  intro n
  induction n with
  | zero => intro x2 x3 ls H locs hW hl hf; cases hf
  | succ n ih =>
    intro x2 x3 ls H locs hW hl hf
    rw [Lp_s] at hf
    rw [F_X11_speakingTime_19] at hf
    try dsimp only at hf
    refine lv_iload_n C.1 C.2.1 dX11_speakingTime_19 rfl (lv_at hl 3 rfl) ?_
    refine lv_aload_n C.1 C.2.1 dX11_speakingTime_20 rfl (lv_at hl 0 rfl) ?_
    obtain ⟨u3, hcu3, hf⟩ := bnd_t hf
    refine x_calli hW (x_runV C hW hl (wk9 (k_125)) rfl rfl (c_X11_words hcu3) (cw_X11_90) ci_X11_words cs_X11_words (rm_ok (by decide) (by decide)) ⟨Nat.le_refl _, Nat.le_refl _⟩ (As := []) rfl rfl (Nat.le_of_ble_eq_true rfl) dX11_speakingTime_21) (fun H locs hW => ?_)
    refine x_cmpge (tgt := 71) C hf dX11_speakingTime_24 (by decide) (fun hf => ?_) (fun hf => ?_)
    · refine lv_iload_n C.1 C.2.1 dX11_speakingTime_71 rfl (lv_at hl 2 rfl) ?_
      obtain rfl := Option.some.inj hf
      exact x_iret C hW dX11_speakingTime_72 rfl
    · refine lv_iload_n C.1 C.2.1 dX11_speakingTime_27 rfl (lv_at hl 2 rfl) ?_
      refine lv_aload_n C.1 C.2.1 dX11_speakingTime_28 rfl (lv_at hl 0 rfl) ?_
      refine lv_iload_n C.1 C.2.1 dX11_speakingTime_29 rfl (lv_at hl 3 rfl) ?_
      obtain ⟨u4, hcu4, hf⟩ := bnd_t hf
      refine x_calli hW (x_runV C hW hl (wk9 (k_125)) rfl rfl (c_X11_isKept hcu4) (cw_X11_275) ci_X11_isKept cs_X11_isKept (rm_ok (by decide) (by decide)) ⟨Nat.le_refl _, Nat.le_refl _⟩ (As := [.int x3]) rfl rfl (Nat.le_of_ble_eq_true rfl) dX11_speakingTime_30) (fun H locs hW => ?_)
      refine x_ifeq (tgt := 62) C hf dX11_speakingTime_33 (by decide) (fun hf => ?_) (fun hf => ?_)
      · exact j_X11_speakingTime_62 C (fun z0 z1 => ih z0 z1) hW (lv_sub hl [0, 1, 3] rfl) hf
      · refine lv_aload_n C.1 C.2.1 dX11_speakingTime_36 rfl (lv_at hl 0 rfl) ?_
        refine lv_iload_n C.1 C.2.1 dX11_speakingTime_37 rfl (lv_at hl 3 rfl) ?_
        refine lv_iconst (v := 0) C.1 C.2.1 dX11_speakingTime_38 (by decide) ?_
        obtain ⟨u5, hcu5, hf⟩ := bnd_t hf
        refine x_calli hW (x_runV C hW hl (wk9 (k_125)) rfl rfl (c_X11_of hcu5) (cw_X11_94) ci_X11_of cs_X11_of (rm_ok (by decide) (by decide)) ⟨Nat.le_refl _, Nat.le_refl _⟩ (As := [.int x3, .int (0 : Int32)]) rfl rfl (Nat.le_of_ble_eq_true rfl) dX11_speakingTime_39) (fun H locs hW => ?_)
        refine lv_iload_n C.1 C.2.1 dX11_speakingTime_42 rfl (lv_at hl 1 rfl) ?_
        refine x_cmpne (tgt := 62) C hf dX11_speakingTime_43 (by decide) (fun hf => ?_) (fun hf => ?_)
        · exact j_X11_speakingTime_62 C (fun z0 z1 => ih z0 z1) hW (lv_sub hl [0, 1, 3] rfl) hf
        · refine lv_aload_n C.1 C.2.1 dX11_speakingTime_46 rfl (lv_at hl 0 rfl) ?_
          refine lv_iload_n C.1 C.2.1 dX11_speakingTime_47 rfl (lv_at hl 3 rfl) ?_
          refine lv_iconst (v := 3) C.1 C.2.1 dX11_speakingTime_48 (by decide) ?_
          obtain ⟨u6, hcu6, hf⟩ := bnd_t hf
          refine x_calli hW (x_runV C hW hl (wk9 (k_125)) rfl rfl (c_X11_of hcu6) (cw_X11_94) ci_X11_of cs_X11_of (rm_ok (by decide) (by decide)) ⟨Nat.le_refl _, Nat.le_refl _⟩ (As := [.int x3, .int (3 : Int32)]) rfl rfl (Nat.le_of_ble_eq_true rfl) dX11_speakingTime_49) (fun H locs hW => ?_)
          refine lv_aload_n C.1 C.2.1 dX11_speakingTime_52 rfl (lv_at hl 0 rfl) ?_
          refine lv_iload_n C.1 C.2.1 dX11_speakingTime_53 rfl (lv_at hl 3 rfl) ?_
          refine lv_iconst (v := 2) C.1 C.2.1 dX11_speakingTime_54 (by decide) ?_
          obtain ⟨u7, hcu7, hf⟩ := bnd_t hf
          refine x_calli hW (x_runV C hW hl (wk9 (k_125)) rfl rfl (c_X11_of hcu7) (cw_X11_94) ci_X11_of cs_X11_of (rm_ok (by decide) (by decide)) ⟨Nat.le_refl _, Nat.le_refl _⟩ (As := [.int x3, .int (2 : Int32)]) rfl rfl (Nat.le_of_ble_eq_true rfl) dX11_speakingTime_55) (fun H locs hW => ?_)
          refine lv_isub C.1 C.2.1 dX11_speakingTime_58 ?_
          refine lv_goto (tgt := 63) C.1 C.2.1 dX11_speakingTime_59 (by decide) ?_
          exact j_X11_speakingTime_63 C (fun z0 z1 => ih z0 z1) hW (lv_sub hl [0, 1, 3] rfl) hf
set_option maxRecDepth 20000 in
set_option maxHeartbeats 1000000 in
theorem c_X11_speakingTime {l : Launch} {Z : ZT} {h : Hp} {g : Hp} {p1 : Int32} {out : Int32 × Hp} (hf : f_X11_speakingTime g p1 = some out) : Met l yX11_speakingTime (wY yX11_speakingTime cX11_speakingTime 4 (some .int)) (rmD 2) (va_Pc [.ref (Z.1 125), .int p1] (Wd Z h g)) (va_Qi (fun r (_ : Unit) => r = out.1) (fun _ => Wd Z h out.2) (FR Z)) 0 0 (FR Z) := by
  refine metX RX11 rfl (by decide +kernel) (Nat.le_of_ble_eq_true rfl) ?_
  intro p e s m args below meth c C hW ls hl
  have hl : lv_has ls 4 [(0, .ref (Z.1 125)), (1, .int p1)] := hl
  unfold f_X11_speakingTime at hf
  refine lv_aload_n C.1 C.2.1 dX11_speakingTime_0 rfl (lv_at hl 0 rfl) ?_
  refine lv_iconst (v := 0) C.1 C.2.1 dX11_speakingTime_1 (by decide) ?_
  refine xp_X11_3 C hW (k_125) hf dX11_speakingTime_2 (fun g8 H locs hf hW => ?_)
  refine lv_aload_n C.1 C.2.1 dX11_speakingTime_5 rfl (lv_at hl 0 rfl) ?_
  refine lv_iload_n C.1 C.2.1 dX11_speakingTime_6 rfl (lv_at hl 1 rfl) ?_
  obtain ⟨u9, hcu9, hf⟩ := bnd_t hf
  refine x_calli hW (x_runV C hW hl (wk9 (k_125)) rfl rfl (c_X11_noSpeaker hcu9) (cw_X11_341) ci_X11_noSpeaker cs_X11_noSpeaker (rm_ok (by decide) (by decide)) ⟨Nat.le_refl _, Nat.le_refl _⟩ (As := [.int p1]) rfl rfl (Nat.le_of_ble_eq_true rfl) dX11_speakingTime_7) (fun H locs hW => ?_)
  refine x_ifeq (tgt := 15) C hf dX11_speakingTime_10 (by decide) (fun hf => ?_) (fun hf => ?_)
  · refine lv_iconst (v := 0) C.1 C.2.1 dX11_speakingTime_15 (by decide) ?_
    refine lv_istore_n (lv' := [(2, .int (0 : Int32)), (0, .ref (Z.1 125)), (1, .int p1)]) C.1 C.2.1 dX11_speakingTime_16 rfl hl (by decide) rfl (fun ls hl => ?_)
    refine lv_iconst (v := 0) C.1 C.2.1 dX11_speakingTime_17 (by decide) ?_
    refine lv_istore_n (lv' := [(3, .int (0 : Int32)), (2, .int (0 : Int32)), (0, .ref (Z.1 125)), (1, .int p1)]) C.1 C.2.1 dX11_speakingTime_18 rfl hl (by decide) rfl (fun ls hl => ?_)
    exact l_X11_speakingTime_19 C FU (0 : Int32) (0 : Int32) ls _ _ hW (lv_sub hl [2, 3, 1, 0] rfl) hf
  · refine lv_iconst (v := 0) C.1 C.2.1 dX11_speakingTime_13 (by decide) ?_
    obtain rfl := Option.some.inj hf
    exact x_iret C hW dX11_speakingTime_14 rfl
set_option maxRecDepth 20000 in
set_option maxHeartbeats 1000000 in
theorem j_X11_laysRow_90 {l : Launch} {Z : ZT} {h : Hp} {g : Hp} {r7 : Int32 × Hp → Option (Hp)} {x1 : Int32} {p : Program} {e : Env} {s : State} {m : MethodId} {args : Array Value} {below : List Frame} {meth : Method} {c : Code} (C : CX p s m args meth c cX11_laysRow RX11 4 none Z) {out : Hp} (hr7 : ∀ (x1 : Int32) (g : Hp) (ls : Array Slot) (H : Heap) (locs : List Loc), XW Z h g s.heap H locs → lv_has ls 4 [(0, .ref (Z.1 125)), (1, .int x1)] → r7 (x1, g) = some out → W p l e (rmD 1) s m args below meth c H locs 0 0 (MQ below (va_Qv (fun (_ : Unit) => True) (fun _ => Wd Z h out) (FR Z)) args s 0 0 (FR Z)) (F0 m 7 ls [])) {ls : Array Slot} {H : Heap} {locs : List Loc} (hW : XW Z h g s.heap H locs) (hl : lv_has ls 4 [(0, .ref (Z.1 125)), (1, .int x1)]) (hf : J_X11_laysRow_90 g r7 x1 = some out) : W p l e (rmD 1) s m args below meth c H locs 0 0 (MQ below (va_Qv (fun (_ : Unit) => True) (fun _ => Wd Z h out) (FR Z)) args s 0 0 (FR Z)) (F0 m 90 ls []) := by
  rw [J_X11_laysRow_90] at hf
  refine x_iinc (w := 1) C hf dX11_laysRow_90 hl (k := 1) rfl (by decide) (by decide) (fun v1 => [(1, .int v1), (0, .ref (Z.1 125))]) (fun _ => rfl) (fun v1 ls hf hl => ?_)
  refine lv_goto (tgt := 7) C.1 C.2.1 dX11_laysRow_93 (by decide) ?_
  exact hr7 v1 g ls _ _ hW (lv_sub hl [1, 0] rfl) hf
set_option maxRecDepth 20000 in
set_option maxHeartbeats 1000000 in
theorem j_X11_laysRow_84 {l : Launch} {Z : ZT} {h : Hp} {g : Hp} {r7 : Int32 × Hp → Option (Hp)} {r31 : Int32 × Hp → Option (Hp)} {x1 : Int32} {x2 : Int32} {x3 : Int32} {p : Program} {e : Env} {s : State} {m : MethodId} {args : Array Value} {below : List Frame} {meth : Method} {c : Code} (C : CX p s m args meth c cX11_laysRow RX11 4 none Z) {out : Hp} (hr7 : ∀ (x1 : Int32) (g : Hp) (ls : Array Slot) (H : Heap) (locs : List Loc), XW Z h g s.heap H locs → lv_has ls 4 [(0, .ref (Z.1 125)), (1, .int x1)] → r7 (x1, g) = some out → W p l e (rmD 1) s m args below meth c H locs 0 0 (MQ below (va_Qv (fun (_ : Unit) => True) (fun _ => Wd Z h out) (FR Z)) args s 0 0 (FR Z)) (F0 m 7 ls [])) (hr31 : ∀ (x3 : Int32) (g : Hp) (ls : Array Slot) (H : Heap) (locs : List Loc), XW Z h g s.heap H locs → lv_has ls 4 [(0, .ref (Z.1 125)), (1, .int x1), (2, .int x2), (3, .int x3)] → r31 (x3, g) = some out → W p l e (rmD 1) s m args below meth c H locs 0 0 (MQ below (va_Qv (fun (_ : Unit) => True) (fun _ => Wd Z h out) (FR Z)) args s 0 0 (FR Z)) (F0 m 31 ls [])) {ls : Array Slot} {H : Heap} {locs : List Loc} (hW : XW Z h g s.heap H locs) (hl : lv_has ls 4 [(0, .ref (Z.1 125)), (1, .int x1), (2, .int x2), (3, .int x3)]) (hf : J_X11_laysRow_84 g r7 r31 x1 x2 x3 = some out) : W p l e (rmD 1) s m args below meth c H locs 0 0 (MQ below (va_Qv (fun (_ : Unit) => True) (fun _ => Wd Z h out) (FR Z)) args s 0 0 (FR Z)) (F0 m 84 ls []) := by
  rw [J_X11_laysRow_84] at hf
  refine x_iinc (w := 1) C hf dX11_laysRow_84 hl (k := 3) rfl (by decide) (by decide) (fun v2 => [(3, .int v2), (0, .ref (Z.1 125)), (1, .int x1), (2, .int x2)]) (fun _ => rfl) (fun v2 ls hf hl => ?_)
  refine lv_goto (tgt := 31) C.1 C.2.1 dX11_laysRow_87 (by decide) ?_
  exact hr31 v2 g ls _ _ hW (lv_sub hl [1, 2, 3, 0] rfl) hf
set_option maxRecDepth 20000 in
set_option maxHeartbeats 1000000 in
theorem l_X11_laysRow_31 {l : Launch} {Z : ZT} {h : Hp} {r7 : Int32 × Hp → Option (Hp)} {x1 : Int32} {x2 : Int32} {p : Program} {e : Env} {s : State} {m : MethodId} {args : Array Value} {below : List Frame} {meth : Method} {c : Code} (C : CX p s m args meth c cX11_laysRow RX11 4 none Z) {out : Hp} (hr7 : ∀ (x1 : Int32) (g : Hp) (ls : Array Slot) (H : Heap) (locs : List Loc), XW Z h g s.heap H locs → lv_has ls 4 [(0, .ref (Z.1 125)), (1, .int x1)] → r7 (x1, g) = some out → W p l e (rmD 1) s m args below meth c H locs 0 0 (MQ below (va_Qv (fun (_ : Unit) => True) (fun _ => Wd Z h out) (FR Z)) args s 0 0 (FR Z)) (F0 m 7 ls [])) : ∀ (n : Nat) (x3 : Int32) (g : Hp) (ls : Array Slot) (H : Heap) (locs : List Loc), XW Z h g s.heap H locs → lv_has ls 4 [(0, .ref (Z.1 125)), (1, .int x1), (2, .int x2), (3, .int x3)] → Lp (F_X11_laysRow_31 r7 x1 x2) n (x3, g) = some out → W p l e (rmD 1) s m args below meth c H locs 0 0 (MQ below (va_Qv (fun (_ : Unit) => True) (fun _ => Wd Z h out) (FR Z)) args s 0 0 (FR Z)) (F0 m 31 ls []) := by
  intro n
  induction n with
  | zero => intro x3 g ls H locs hW hl hf; cases hf
  | succ n ih =>
    intro x3 g ls H locs hW hl hf
    rw [Lp_s] at hf
    refine lv_iload_n C.1 C.2.1 dX11_laysRow_31 rfl (lv_at hl 3 rfl) ?_
    refine lv_aload_n C.1 C.2.1 dX11_laysRow_32 rfl (lv_at hl 0 rfl) ?_
    refine xg_X11_29 C hW (k_125) dX11_laysRow_33 ?_
    refine lv_iload_n C.1 C.2.1 dX11_laysRow_36 rfl (lv_at hl 2 rfl) ?_
    refine lv_iconst (v := 1) C.1 C.2.1 dX11_laysRow_37 (by decide) ?_
    refine lv_iadd C.1 C.2.1 dX11_laysRow_38 ?_
    refine x_ialdM C hW a_131 hf dX11_laysRow_39 (fun hf => ?_)
    refine x_cmpge (tgt := 90) C hf dX11_laysRow_40 (by decide) (fun hf => ?_) (fun hf => ?_)
    · exact j_X11_laysRow_90 C hr7 hW (lv_sub hl [0, 1] rfl) hf
    · refine lv_aload_n C.1 C.2.1 dX11_laysRow_43 rfl (lv_at hl 0 rfl) ?_
      refine lv_iload_n C.1 C.2.1 dX11_laysRow_44 rfl (lv_at hl 3 rfl) ?_
      obtain ⟨u3, hcu3, hf⟩ := bnd_t hf
      refine x_calli hW (x_runV C hW hl (wk9 (k_125)) rfl rfl (c_X11_isKept hcu3) (cw_X11_275) ci_X11_isKept cs_X11_isKept (rm_ok (by decide) (by decide)) ⟨Nat.le_refl _, Nat.le_refl _⟩ (As := [.int x3]) rfl rfl (Nat.le_of_ble_eq_true rfl) dX11_laysRow_45) (fun H locs hW => ?_)
      refine x_ifne (tgt := 54) C hf dX11_laysRow_48 (by decide) (fun hf => ?_) (fun hf => ?_)
      · refine lv_aload_n C.1 C.2.1 dX11_laysRow_54 rfl (lv_at hl 0 rfl) ?_
        refine xg_X11_63 C hW (k_125) dX11_laysRow_55 ?_
        refine lv_aload_n C.1 C.2.1 dX11_laysRow_58 rfl (lv_at hl 0 rfl) ?_
        refine xg_X11_356 C hW (k_125) dX11_laysRow_59 ?_
        refine lv_iload_n C.1 C.2.1 dX11_laysRow_62 rfl (lv_at hl 3 rfl) ?_
        refine x_iastM C hW a_141 hf dX11_laysRow_63 (fun g4 H locs hf hW => ?_)
        refine lv_aload_n C.1 C.2.1 dX11_laysRow_64 rfl (lv_at hl 0 rfl) ?_
        refine xg_X11_66 C hW (k_125) dX11_laysRow_65 ?_
        refine lv_aload_n C.1 C.2.1 dX11_laysRow_68 rfl (lv_at hl 0 rfl) ?_
        refine xg_X11_356 C hW (k_125) dX11_laysRow_69 ?_
        refine lv_iload_n C.1 C.2.1 dX11_laysRow_72 rfl (lv_at hl 1 rfl) ?_
        refine x_iastM C hW a_142 hf dX11_laysRow_73 (fun g5 H locs hf hW => ?_)
        refine lv_aload_n C.1 C.2.1 dX11_laysRow_74 rfl (lv_at hl 0 rfl) ?_
        refine lv_dup C.1 C.2.1 dX11_laysRow_75 rfl ?_
        refine xg_X11_356 C hW (k_125) dX11_laysRow_76 ?_
        refine lv_iconst (v := 1) C.1 C.2.1 dX11_laysRow_79 (by decide) ?_
        refine lv_iadd C.1 C.2.1 dX11_laysRow_80 ?_
        refine xp_X11_356 C hW (k_125) hf dX11_laysRow_81 (fun g6 H locs hf hW => ?_)
        exact j_X11_laysRow_84 C hr7 (fun z0 z1 => ih z0 z1) hW (lv_sub hl [0, 1, 2, 3] rfl) hf
      · refine lv_goto (tgt := 84) C.1 C.2.1 dX11_laysRow_51 (by decide) ?_
        exact j_X11_laysRow_84 C hr7 (fun z0 z1 => ih z0 z1) hW (lv_sub hl [0, 1, 2, 3] rfl) hf
set_option maxRecDepth 20000 in
set_option maxHeartbeats 1000000 in
theorem l_X11_laysRow_7 {l : Launch} {Z : ZT} {h : Hp} {p : Program} {e : Env} {s : State} {m : MethodId} {args : Array Value} {below : List Frame} {meth : Method} {c : Code} (C : CX p s m args meth c cX11_laysRow RX11 4 none Z) {out : Hp} : ∀ (n : Nat) (x1 : Int32) (g : Hp) (ls : Array Slot) (H : Heap) (locs : List Loc), XW Z h g s.heap H locs → lv_has ls 4 [(0, .ref (Z.1 125)), (1, .int x1)] → Lp (F_X11_laysRow_7) n (x1, g) = some out → W p l e (rmD 1) s m args below meth c H locs 0 0 (MQ below (va_Qv (fun (_ : Unit) => True) (fun _ => Wd Z h out) (FR Z)) args s 0 0 (FR Z)) (F0 m 7 ls []) := by
  intro n
  induction n with
  | zero => intro x1 g ls H locs hW hl hf; cases hf
  | succ n ih =>
    intro x1 g ls H locs hW hl hf
    rw [Lp_s] at hf
    refine lv_iload_n C.1 C.2.1 dX11_laysRow_7 rfl (lv_at hl 1 rfl) ?_
    refine lv_aload_n C.1 C.2.1 dX11_laysRow_8 rfl (lv_at hl 0 rfl) ?_
    refine xg_X11_38 C hW (k_125) dX11_laysRow_9 ?_
    refine lv_bipush (v := 40) C.1 C.2.1 dX11_laysRow_12 (by decide) ?_
    refine x_ialdM C hW a_134 hf dX11_laysRow_14 (fun hf => ?_)
    refine x_cmpge (tgt := 96) C hf dX11_laysRow_15 (by decide) (fun hf => ?_) (fun hf => ?_)
    · obtain rfl := Option.some.inj hf
      exact x_vret C hW dX11_laysRow_96 trivial
    · refine lv_aload_n C.1 C.2.1 dX11_laysRow_18 rfl (lv_at hl 0 rfl) ?_
      refine lv_iload_n C.1 C.2.1 dX11_laysRow_19 rfl (lv_at hl 1 rfl) ?_
      obtain ⟨u7, hcu7, hf⟩ := bnd_t hf
      refine x_calli hW (x_runV C hW hl (wk9 (k_125)) rfl rfl (c_X11_shotBlock hcu7) (cw_X11_311) ci_X11_shotBlock cs_X11_shotBlock (rm_ok (by decide) (by decide)) ⟨Nat.le_refl _, Nat.le_refl _⟩ (As := [.int x1]) rfl rfl (Nat.le_of_ble_eq_true rfl) dX11_laysRow_20) (fun H locs hW => ?_)
      refine lv_istore_n (lv' := [(2, .int u7), (0, .ref (Z.1 125)), (1, .int x1)]) C.1 C.2.1 dX11_laysRow_23 rfl hl (by decide) rfl (fun ls hl => ?_)
      refine lv_aload_n C.1 C.2.1 dX11_laysRow_24 rfl (lv_at hl 1 rfl) ?_
      refine xg_X11_29 C hW (k_125) dX11_laysRow_25 ?_
      refine lv_iload_n C.1 C.2.1 dX11_laysRow_28 rfl (lv_at hl 0 rfl) ?_
      refine x_ialdM C hW a_131 hf dX11_laysRow_29 (fun hf => ?_)
      refine x_istn C hf dX11_laysRow_30 rfl hl (by decide) (fun v8 => [(3, .int v8), (2, .int u7), (0, .ref (Z.1 125)), (1, .int x1)]) (fun _ => rfl) (fun v8 ls hf hl => ?_)
      exact l_X11_laysRow_31 C (fun z0 z1 => ih z0 z1) FU v8 g ls _ _ hW (lv_sub hl [2, 3, 1, 0] rfl) hf
set_option maxRecDepth 20000 in
set_option maxHeartbeats 1000000 in
theorem c_X11_laysRow {l : Launch} {Z : ZT} {h : Hp} {g : Hp} {out : Hp} (hf : f_X11_laysRow g = some out) : Met l yX11_laysRow (wY yX11_laysRow cX11_laysRow 4 none) (rmD 1) (va_Pc [.ref (Z.1 125)] (Wd Z h g)) (va_Qv (fun (_ : Unit) => True) (fun _ => Wd Z h out) (FR Z)) 0 0 (FR Z) := by
  refine metX RX11 rfl (by decide +kernel) (Nat.le_of_ble_eq_true rfl) ?_
  intro p e s m args below meth c C hW ls hl
  have hl : lv_has ls 4 [(0, .ref (Z.1 125))] := hl
  unfold f_X11_laysRow at hf
  refine lv_aload_n C.1 C.2.1 dX11_laysRow_0 rfl (lv_at hl 0 rfl) ?_
  refine lv_iconst (v := 0) C.1 C.2.1 dX11_laysRow_1 (by decide) ?_
  refine xp_X11_356 C hW (k_125) hf dX11_laysRow_2 (fun g9 H locs hf hW => ?_)
  refine lv_iconst (v := 0) C.1 C.2.1 dX11_laysRow_5 (by decide) ?_
  refine lv_istore_n (lv' := [(1, .int (0 : Int32)), (0, .ref (Z.1 125))]) C.1 C.2.1 dX11_laysRow_6 rfl hl (by decide) rfl (fun ls hl => ?_)
  exact l_X11_laysRow_7 C FU (0 : Int32) g9 ls _ _ hW (lv_sub hl [1, 0] rfl) hf
set_option maxRecDepth 20000 in
set_option maxHeartbeats 1000000 in
theorem c_X11_transcriptSize {l : Launch} {Z : ZT} {h : Hp} {g : Hp} {out : Int32 × Hp} (hf : f_X11_transcriptSize g = some out) : Met l yX11_transcriptSize (wY yX11_transcriptSize cX11_transcriptSize 1 (some .int)) (rmD 2) (va_Pc [.ref (Z.1 125)] (Wd Z h g)) (va_Qi (fun r (_ : Unit) => r = out.1) (fun _ => Wd Z h out.2) (FR Z)) 0 0 (FR Z) := by
  refine metX RX11 rfl (by decide +kernel) (Nat.le_of_ble_eq_true rfl) ?_
  intro p e s m args below meth c C hW ls hl
  have hl : lv_has ls 1 [(0, .ref (Z.1 125))] := hl
  unfold f_X11_transcriptSize at hf
  refine lv_aload_n C.1 C.2.1 dX11_transcriptSize_0 rfl (lv_at hl 0 rfl) ?_
  refine lv_iconst (v := 0) C.1 C.2.1 dX11_transcriptSize_1 (by decide) ?_
  refine xp_X11_3 C hW (k_125) hf dX11_transcriptSize_2 (fun g1 H locs hf hW => ?_)
  refine lv_aload_n C.1 C.2.1 dX11_transcriptSize_5 rfl (lv_at hl 0 rfl) ?_
  obtain ⟨u2, hcu2, hf⟩ := bnd_t hf
  refine x_callv hW (x_runV C hW hl (wk9 (k_125)) rfl rfl (c_X11_laysRow hcu2) (cw_X11_359) ci_X11_laysRow cs_X11_laysRow (rm_ok (by decide) (by decide)) ⟨Nat.le_refl _, Nat.le_refl _⟩ (As := []) rfl rfl (Nat.le_of_ble_eq_true rfl) dX11_transcriptSize_6) (fun H locs hW => ?_)
  refine lv_aload_n C.1 C.2.1 dX11_transcriptSize_9 rfl (lv_at hl 0 rfl) ?_
  refine xg_X11_356 C hW (k_125) dX11_transcriptSize_10 ?_
  obtain rfl := Option.some.inj hf
  exact x_iret C hW dX11_transcriptSize_13 rfl
set_option maxRecDepth 20000 in
set_option maxHeartbeats 1000000 in
theorem c_X11_transcriptWord {l : Launch} {Z : ZT} {h : Hp} {g : Hp} {p1 : Int32} {out : Int32 × Hp} (hf : f_X11_transcriptWord g p1 = some out) : Met l yX11_transcriptWord (wY yX11_transcriptWord cX11_transcriptWord 2 (some .int)) (rmD 2) (va_Pc [.ref (Z.1 125), .int p1] (Wd Z h g)) (va_Qi (fun r (_ : Unit) => r = out.1) (fun _ => Wd Z h out.2) (FR Z)) 0 0 (FR Z) := by
  refine metX RX11 rfl (by decide +kernel) (Nat.le_of_ble_eq_true rfl) ?_
  intro p e s m args below meth c C hW ls hl
  have hl : lv_has ls 2 [(0, .ref (Z.1 125)), (1, .int p1)] := hl
  unfold f_X11_transcriptWord at hf
  refine lv_aload_n C.1 C.2.1 dX11_transcriptWord_0 rfl (lv_at hl 0 rfl) ?_
  refine lv_iconst (v := 0) C.1 C.2.1 dX11_transcriptWord_1 (by decide) ?_
  refine xp_X11_3 C hW (k_125) hf dX11_transcriptWord_2 (fun g1 H locs hf hW => ?_)
  refine lv_aload_n C.1 C.2.1 dX11_transcriptWord_5 rfl (lv_at hl 0 rfl) ?_
  obtain ⟨u2, hcu2, hf⟩ := bnd_t hf
  refine x_callv hW (x_runV C hW hl (wk9 (k_125)) rfl rfl (c_X11_laysRow hcu2) (cw_X11_359) ci_X11_laysRow cs_X11_laysRow (rm_ok (by decide) (by decide)) ⟨Nat.le_refl _, Nat.le_refl _⟩ (As := []) rfl rfl (Nat.le_of_ble_eq_true rfl) dX11_transcriptWord_6) (fun H locs hW => ?_)
  refine lv_iload_n C.1 C.2.1 dX11_transcriptWord_9 rfl (lv_at hl 1 rfl) ?_
  refine lv_iconst (v := 0) C.1 C.2.1 dX11_transcriptWord_10 (by decide) ?_
  refine lv_aload_n C.1 C.2.1 dX11_transcriptWord_11 rfl (lv_at hl 0 rfl) ?_
  refine xg_X11_356 C hW (k_125) dX11_transcriptWord_12 ?_
  refine lv_iconst (v := 1) C.1 C.2.1 dX11_transcriptWord_15 (by decide) ?_
  refine lv_isub C.1 C.2.1 dX11_transcriptWord_16 ?_
  obtain ⟨u3, hcu3, hf⟩ := bnd_t hf
  refine x_calli hW (x_runS C hW hl (c_X11_in hcu3) (cw_X11_166) ct_X11_in (rm_ok (by decide) (by decide)) ⟨Nat.le_refl _, Nat.le_refl _⟩ (As := [.int p1, .int (0 : Int32), .int (u2 125 36 - (1 : Int32))]) rfl rfl (Nat.le_of_ble_eq_true rfl) dX11_transcriptWord_17) (fun H locs hW => ?_)
  refine x_ifeq (tgt := 32) C hf dX11_transcriptWord_20 (by decide) (fun hf => ?_) (fun hf => ?_)
  · refine lv_iconst (v := -1) C.1 C.2.1 dX11_transcriptWord_32 (by decide) ?_
    obtain rfl := Option.some.inj hf
    exact x_iret C hW dX11_transcriptWord_33 rfl
  · refine lv_aload_n C.1 C.2.1 dX11_transcriptWord_23 rfl (lv_at hl 0 rfl) ?_
    refine xg_X11_63 C hW (k_125) dX11_transcriptWord_24 ?_
    refine lv_iload_n C.1 C.2.1 dX11_transcriptWord_27 rfl (lv_at hl 1 rfl) ?_
    refine x_ialdM C hW a_141 hf dX11_transcriptWord_28 (fun hf => ?_)
    refine lv_goto (tgt := 33) C.1 C.2.1 dX11_transcriptWord_29 (by decide) ?_
    obtain rfl := Option.some.inj hf
    exact x_iret C hW dX11_transcriptWord_33 rfl
set_option maxRecDepth 20000 in
set_option maxHeartbeats 1000000 in
theorem l_X11_placeOf_21 {l : Launch} {Z : ZT} {h : Hp} {p1 : Int32} {g : Hp} {p : Program} {e : Env} {s : State} {m : MethodId} {args : Array Value} {below : List Frame} {meth : Method} {c : Code} (C : CX p s m args meth c cX11_placeOf RX11 3 (some .int) Z) {out : Int32 × Hp} : ∀ (n : Nat) (x2 : Int32) (ls : Array Slot) (H : Heap) (locs : List Loc), XW Z h g s.heap H locs → lv_has ls 3 [(0, .ref (Z.1 125)), (1, .int p1), (2, .int x2)] → Lp (F_X11_placeOf_21 p1 g) n x2 = some out → W p l e (rmD 2) s m args below meth c H locs 0 0 (MQ below (va_Qi (fun r (_ : Unit) => r = out.1) (fun _ => Wd Z h out.2) (FR Z)) args s 0 0 (FR Z)) (F0 m 21 ls []) := by
  intro n
  induction n with
  | zero => intro x2 ls H locs hW hl hf; cases hf
  | succ n ih =>
    intro x2 ls H locs hW hl hf
    rw [Lp_s] at hf
    refine lv_iload_n C.1 C.2.1 dX11_placeOf_21 rfl (lv_at hl 2 rfl) ?_
    refine lv_aload_n C.1 C.2.1 dX11_placeOf_22 rfl (lv_at hl 0 rfl) ?_
    refine xg_X11_356 C hW (k_125) dX11_placeOf_23 ?_
    refine x_cmpge (tgt := 47) C hf dX11_placeOf_26 (by decide) (fun hf => ?_) (fun hf => ?_)
    · refine lv_iconst (v := -1) C.1 C.2.1 dX11_placeOf_47 (by decide) ?_
      obtain rfl := Option.some.inj hf
      exact x_iret C hW dX11_placeOf_48 rfl
    · refine lv_aload_n C.1 C.2.1 dX11_placeOf_29 rfl (lv_at hl 0 rfl) ?_
      refine xg_X11_63 C hW (k_125) dX11_placeOf_30 ?_
      refine lv_iload_n C.1 C.2.1 dX11_placeOf_33 rfl (lv_at hl 2 rfl) ?_
      refine x_ialdM C hW a_141 hf dX11_placeOf_34 (fun hf => ?_)
      refine lv_iload_n C.1 C.2.1 dX11_placeOf_35 rfl (lv_at hl 1 rfl) ?_
      refine x_cmpne (tgt := 41) C hf dX11_placeOf_36 (by decide) (fun hf => ?_) (fun hf => ?_)
      · refine x_iinc (w := 1) C hf dX11_placeOf_41 hl (k := 2) rfl (by decide) (by decide) (fun v1 => [(2, .int v1), (0, .ref (Z.1 125)), (1, .int p1)]) (fun _ => rfl) (fun v1 ls hf hl => ?_)
        refine lv_goto (tgt := 21) C.1 C.2.1 dX11_placeOf_44 (by decide) ?_
        exact ih v1 ls _ _ hW (lv_sub hl [1, 2, 0] rfl) hf
      · refine lv_iload_n C.1 C.2.1 dX11_placeOf_39 rfl (lv_at hl 2 rfl) ?_
        obtain rfl := Option.some.inj hf
        exact x_iret C hW dX11_placeOf_40 rfl
set_option maxRecDepth 20000 in
set_option maxHeartbeats 1000000 in
theorem c_X11_placeOf {l : Launch} {Z : ZT} {h : Hp} {g : Hp} {p1 : Int32} {out : Int32 × Hp} (hf : f_X11_placeOf g p1 = some out) : Met l yX11_placeOf (wY yX11_placeOf cX11_placeOf 3 (some .int)) (rmD 2) (va_Pc [.ref (Z.1 125), .int p1] (Wd Z h g)) (va_Qi (fun r (_ : Unit) => r = out.1) (fun _ => Wd Z h out.2) (FR Z)) 0 0 (FR Z) := by
  refine metX RX11 rfl (by decide +kernel) (Nat.le_of_ble_eq_true rfl) ?_
  intro p e s m args below meth c C hW ls hl
  have hl : lv_has ls 3 [(0, .ref (Z.1 125)), (1, .int p1)] := hl
  unfold f_X11_placeOf at hf
  refine lv_aload_n C.1 C.2.1 dX11_placeOf_0 rfl (lv_at hl 0 rfl) ?_
  refine lv_iconst (v := 0) C.1 C.2.1 dX11_placeOf_1 (by decide) ?_
  refine xp_X11_3 C hW (k_125) hf dX11_placeOf_2 (fun g2 H locs hf hW => ?_)
  refine lv_aload_n C.1 C.2.1 dX11_placeOf_5 rfl (lv_at hl 0 rfl) ?_
  refine lv_iload_n C.1 C.2.1 dX11_placeOf_6 rfl (lv_at hl 1 rfl) ?_
  obtain ⟨u3, hcu3, hf⟩ := bnd_t hf
  refine x_calli hW (x_runV C hW hl (wk9 (k_125)) rfl rfl (c_X11_noWord hcu3) (cw_X11_284) ci_X11_noWord cs_X11_noWord (rm_ok (by decide) (by decide)) ⟨Nat.le_refl _, Nat.le_refl _⟩ (As := [.int p1]) rfl rfl (Nat.le_of_ble_eq_true rfl) dX11_placeOf_7) (fun H locs hW => ?_)
  refine x_ifeq (tgt := 15) C hf dX11_placeOf_10 (by decide) (fun hf => ?_) (fun hf => ?_)
  · refine lv_aload_n C.1 C.2.1 dX11_placeOf_15 rfl (lv_at hl 0 rfl) ?_
    obtain ⟨u4, hcu4, hf⟩ := bnd_t hf
    refine x_callv hW (x_runV C hW hl (wk9 (k_125)) rfl rfl (c_X11_laysRow hcu4) (cw_X11_359) ci_X11_laysRow cs_X11_laysRow (rm_ok (by decide) (by decide)) ⟨Nat.le_refl _, Nat.le_refl _⟩ (As := []) rfl rfl (Nat.le_of_ble_eq_true rfl) dX11_placeOf_16) (fun H locs hW => ?_)
    refine lv_iconst (v := 0) C.1 C.2.1 dX11_placeOf_19 (by decide) ?_
    refine lv_istore_n (lv' := [(2, .int (0 : Int32)), (0, .ref (Z.1 125)), (1, .int p1)]) C.1 C.2.1 dX11_placeOf_20 rfl hl (by decide) rfl (fun ls hl => ?_)
    exact l_X11_placeOf_21 C FU (0 : Int32) ls _ _ hW (lv_sub hl [1, 2, 0] rfl) hf
  · refine lv_iconst (v := 0) C.1 C.2.1 dX11_placeOf_13 (by decide) ?_
    obtain rfl := Option.some.inj hf
    exact x_iret C hW dX11_placeOf_14 rfl
set_option maxRecDepth 20000 in
set_option maxHeartbeats 1000000 in
theorem c_X11_startInFilm {l : Launch} {Z : ZT} {h : Hp} {g : Hp} {p1 : Int32} {out : Int32 × Hp} (hf : f_X11_startInFilm g p1 = some out) : Met l yX11_startInFilm (wY yX11_startInFilm cX11_startInFilm 3 (some .int)) (rmD 4) (va_Pc [.ref (Z.1 125), .int p1] (Wd Z h g)) (va_Qi (fun r (_ : Unit) => r = out.1) (fun _ => Wd Z h out.2) (FR Z)) 0 0 (FR Z) := by
  refine metX RX11 rfl (by decide +kernel) (Nat.le_of_ble_eq_true rfl) ?_
  intro p e s m args below meth c C hW ls hl
  have hl : lv_has ls 3 [(0, .ref (Z.1 125)), (1, .int p1)] := hl
  unfold f_X11_startInFilm at hf
  refine lv_aload_n C.1 C.2.1 dX11_startInFilm_0 rfl (lv_at hl 0 rfl) ?_
  refine lv_iconst (v := 0) C.1 C.2.1 dX11_startInFilm_1 (by decide) ?_
  refine xp_X11_3 C hW (k_125) hf dX11_startInFilm_2 (fun g1 H locs hf hW => ?_)
  refine lv_aload_n C.1 C.2.1 dX11_startInFilm_5 rfl (lv_at hl 0 rfl) ?_
  refine lv_iload_n C.1 C.2.1 dX11_startInFilm_6 rfl (lv_at hl 1 rfl) ?_
  obtain ⟨u2, hcu2, hf⟩ := bnd_t hf
  refine x_calli hW (x_runV C hW hl (wk9 (k_125)) rfl rfl (c_X11_noWord hcu2) (cw_X11_284) ci_X11_noWord cs_X11_noWord (rm_ok (by decide) (by decide)) ⟨Nat.le_refl _, Nat.le_refl _⟩ (As := [.int p1]) rfl rfl (Nat.le_of_ble_eq_true rfl) dX11_startInFilm_7) (fun H locs hW => ?_)
  refine x_ifeq (tgt := 15) C hf dX11_startInFilm_10 (by decide) (fun hf => ?_) (fun hf => ?_)
  · refine lv_aload_n C.1 C.2.1 dX11_startInFilm_15 rfl (lv_at hl 0 rfl) ?_
    refine lv_iload_n C.1 C.2.1 dX11_startInFilm_16 rfl (lv_at hl 1 rfl) ?_
    obtain ⟨u3, hcu3, hf⟩ := bnd_t hf
    refine x_calli hW (x_runV C hW hl (wk9 (k_125)) rfl rfl (c_X11_isKept hcu3) (cw_X11_275) ci_X11_isKept cs_X11_isKept (rm_ok (by decide) (by decide)) ⟨Nat.le_refl _, Nat.le_refl _⟩ (As := [.int p1]) rfl rfl (Nat.le_of_ble_eq_true rfl) dX11_startInFilm_17) (fun H locs hW => ?_)
    refine x_ifne (tgt := 25) C hf dX11_startInFilm_20 (by decide) (fun hf => ?_) (fun hf => ?_)
    · refine lv_aload_n C.1 C.2.1 dX11_startInFilm_25 rfl (lv_at hl 0 rfl) ?_
      refine xg_X11_20 C hW (k_125) dX11_startInFilm_26 ?_
      refine lv_iload_n C.1 C.2.1 dX11_startInFilm_29 rfl (lv_at hl 1 rfl) ?_
      refine x_ialdM C hW a_128 hf dX11_startInFilm_30 (fun hf => ?_)
      refine x_istn C hf dX11_startInFilm_31 rfl hl (by decide) (fun v4 => [(2, .int v4), (0, .ref (Z.1 125)), (1, .int p1)]) (fun _ => rfl) (fun v4 ls hf hl => ?_)
      refine lv_aload_n C.1 C.2.1 dX11_startInFilm_32 rfl (lv_at hl 1 rfl) ?_
      refine lv_aload_n C.1 C.2.1 dX11_startInFilm_33 rfl (lv_at hl 1 rfl) ?_
      refine lv_iload_n C.1 C.2.1 dX11_startInFilm_34 rfl (lv_at hl 0 rfl) ?_
      obtain ⟨u5, hcu5, hf⟩ := bnd_t hf
      refine x_calli hW (x_runV C hW hl (wk9 (k_125)) rfl rfl (c_X11_shotOf hcu5) (cw_X11_278) ci_X11_shotOf cs_X11_shotOf (rm_ok (by decide) (by decide)) ⟨Nat.le_refl _, Nat.le_refl _⟩ (As := [.int v4]) rfl rfl (Nat.le_of_ble_eq_true rfl) dX11_startInFilm_35) (fun H locs hW => ?_)
      obtain ⟨u6, hcu6, hf⟩ := bnd_t hf
      refine x_calli hW (x_runV C hW hl (wk9 (k_125)) rfl rfl (c_X11_filmStart hcu6) (cw_X11_317) ci_X11_filmStart cs_X11_filmStart (rm_ok (by decide) (by decide)) ⟨Nat.le_refl _, Nat.le_refl _⟩ (As := [.int u5]) rfl rfl (Nat.le_of_ble_eq_true rfl) dX11_startInFilm_38) (fun H locs hW => ?_)
      refine lv_aload_n C.1 C.2.1 dX11_startInFilm_41 rfl (lv_at hl 1 rfl) ?_
      refine lv_iload_n C.1 C.2.1 dX11_startInFilm_42 rfl (lv_at hl 2 rfl) ?_
      refine lv_iconst (v := 2) C.1 C.2.1 dX11_startInFilm_43 (by decide) ?_
      obtain ⟨u7, hcu7, hf⟩ := bnd_t hf
      refine x_calli hW (x_runV C hW hl (wk9 (k_125)) rfl rfl (c_X11_of hcu7) (cw_X11_94) ci_X11_of cs_X11_of (rm_ok (by decide) (by decide)) ⟨Nat.le_refl _, Nat.le_refl _⟩ (As := [.int p1, .int (2 : Int32)]) rfl rfl (Nat.le_of_ble_eq_true rfl) dX11_startInFilm_44) (fun H locs hW => ?_)
      refine lv_iadd C.1 C.2.1 dX11_startInFilm_47 ?_
      refine lv_aload_n C.1 C.2.1 dX11_startInFilm_48 rfl (lv_at hl 1 rfl) ?_
      refine lv_iload_n C.1 C.2.1 dX11_startInFilm_49 rfl (lv_at hl 0 rfl) ?_
      obtain ⟨u8, hcu8, hf⟩ := bnd_t hf
      refine x_calli hW (x_runV C hW hl (wk9 (k_125)) rfl rfl (c_X11_playsFrom hcu8) (cw_X11_308) ci_X11_playsFrom cs_X11_playsFrom (rm_ok (by decide) (by decide)) ⟨Nat.le_refl _, Nat.le_refl _⟩ (As := [.int v4]) rfl rfl (Nat.le_of_ble_eq_true rfl) dX11_startInFilm_50) (fun H locs hW => ?_)
      refine lv_isub C.1 C.2.1 dX11_startInFilm_53 ?_
      obtain rfl := Option.some.inj hf
      exact x_iret C hW dX11_startInFilm_54 rfl
    · refine lv_iconst (v := -1) C.1 C.2.1 dX11_startInFilm_23 (by decide) ?_
      obtain rfl := Option.some.inj hf
      exact x_iret C hW dX11_startInFilm_24 rfl
  · refine lv_iconst (v := 0) C.1 C.2.1 dX11_startInFilm_13 (by decide) ?_
    obtain rfl := Option.some.inj hf
    exact x_iret C hW dX11_startInFilm_14 rfl
set_option maxRecDepth 20000 in
set_option maxHeartbeats 1000000 in
theorem j_X11_occurrences_57 {l : Launch} {Z : ZT} {h : Hp} {p1 : Int32} {g : Hp} {r23 : Int32 × Int32 → Option (Int32 × Hp)} {x3 : Int32} {s0 : Int32} {s1 : Int32} {p : Program} {e : Env} {s : State} {m : MethodId} {args : Array Value} {below : List Frame} {meth : Method} {c : Code} (C : CX p s m args meth c cX11_occurrences RX11 4 (some .int) Z) {out : Int32 × Hp} (hr23 : ∀ (x2 : Int32) (x3 : Int32) (ls : Array Slot) (H : Heap) (locs : List Loc), XW Z h g s.heap H locs → lv_has ls 4 [(0, .ref (Z.1 125)), (1, .int p1), (2, .int x2), (3, .int x3)] → r23 (x2, x3) = some out → W p l e (rmD 2) s m args below meth c H locs 0 0 (MQ below (va_Qi (fun r (_ : Unit) => r = out.1) (fun _ => Wd Z h out.2) (FR Z)) args s 0 0 (FR Z)) (F0 m 23 ls [])) {ls : Array Slot} {H : Heap} {locs : List Loc} (hW : XW Z h g s.heap H locs) (hl : lv_has ls 4 [(0, .ref (Z.1 125)), (1, .int p1), (3, .int x3)]) (hf : J_X11_occurrences_57 p1 g r23 x3 s0 s1 = some out) : W p l e (rmD 2) s m args below meth c H locs 0 0 (MQ below (va_Qi (fun r (_ : Unit) => r = out.1) (fun _ => Wd Z h out.2) (FR Z)) args s 0 0 (FR Z)) (F0 m 57 ls [.int s1, .int s0]) := by
  rw [J_X11_occurrences_57] at hf
  refine lv_iadd C.1 C.2.1 dX11_occurrences_57 ?_
  refine x_istn C hf dX11_occurrences_58 rfl hl (by decide) (fun v1 => [(2, .int v1), (0, .ref (Z.1 125)), (1, .int p1), (3, .int x3)]) (fun _ => rfl) (fun v1 ls hf hl => ?_)
  refine x_iinc (w := 1) C hf dX11_occurrences_59 hl (k := 3) rfl (by decide) (by decide) (fun v2 => [(3, .int v2), (2, .int v1), (0, .ref (Z.1 125)), (1, .int p1)]) (fun _ => rfl) (fun v2 ls hf hl => ?_)
  refine lv_goto (tgt := 23) C.1 C.2.1 dX11_occurrences_62 (by decide) ?_
  exact hr23 v1 v2 ls _ _ hW (lv_sub hl [2, 3, 1, 0] rfl) hf
set_option maxRecDepth 20000 in
set_option maxHeartbeats 1000000 in
theorem l_X11_occurrences_23 {l : Launch} {Z : ZT} {h : Hp} {p1 : Int32} {g : Hp} {p : Program} {e : Env} {s : State} {m : MethodId} {args : Array Value} {below : List Frame} {meth : Method} {c : Code} (C : CX p s m args meth c cX11_occurrences RX11 4 (some .int) Z) {out : Int32 × Hp} : ∀ (n : Nat) (x2 : Int32) (x3 : Int32) (ls : Array Slot) (H : Heap) (locs : List Loc), XW Z h g s.heap H locs → lv_has ls 4 [(0, .ref (Z.1 125)), (1, .int p1), (2, .int x2), (3, .int x3)] → Lp (F_X11_occurrences_23 p1 g) n (x2, x3) = some out → W p l e (rmD 2) s m args below meth c H locs 0 0 (MQ below (va_Qi (fun r (_ : Unit) => r = out.1) (fun _ => Wd Z h out.2) (FR Z)) args s 0 0 (FR Z)) (F0 m 23 ls []) := by
  intro n
  induction n with
  | zero => intro x2 x3 ls H locs hW hl hf; cases hf
  | succ n ih =>
    intro x2 x3 ls H locs hW hl hf
    rw [Lp_s] at hf
    refine lv_iload_n C.1 C.2.1 dX11_occurrences_23 rfl (lv_at hl 3 rfl) ?_
    refine lv_aload_n C.1 C.2.1 dX11_occurrences_24 rfl (lv_at hl 0 rfl) ?_
    refine xg_X11_356 C hW (k_125) dX11_occurrences_25 ?_
    refine x_cmpge (tgt := 65) C hf dX11_occurrences_28 (by decide) (fun hf => ?_) (fun hf => ?_)
    · refine lv_iload_n C.1 C.2.1 dX11_occurrences_65 rfl (lv_at hl 2 rfl) ?_
      obtain rfl := Option.some.inj hf
      exact x_iret C hW dX11_occurrences_66 rfl
    · refine lv_iload_n C.1 C.2.1 dX11_occurrences_31 rfl (lv_at hl 2 rfl) ?_
      refine lv_aload_n C.1 C.2.1 dX11_occurrences_32 rfl (lv_at hl 0 rfl) ?_
      refine lv_aload_n C.1 C.2.1 dX11_occurrences_33 rfl (lv_at hl 0 rfl) ?_
      refine xg_X11_63 C hW (k_125) dX11_occurrences_34 ?_
      refine lv_iload_n C.1 C.2.1 dX11_occurrences_37 rfl (lv_at hl 3 rfl) ?_
      refine x_ialdM C hW a_141 hf dX11_occurrences_38 (fun hf => ?_)
      refine lv_iconst (v := 1) C.1 C.2.1 dX11_occurrences_39 (by decide) ?_
      obtain ⟨u3, hcu3, hf⟩ := bnd_t hf
      refine x_calli hW (x_runV C hW hl (wk9 (k_125)) rfl rfl (c_X11_of hcu3) (cw_X11_94) ci_X11_of cs_X11_of (rm_ok (by decide) (by decide)) ⟨Nat.le_refl _, Nat.le_refl _⟩ (As := [.int (g 141 (ix x3)), .int (1 : Int32)]) rfl rfl (Nat.le_of_ble_eq_true rfl) dX11_occurrences_40) (fun H locs hW => ?_)
      refine lv_aload_n C.1 C.2.1 dX11_occurrences_43 rfl (lv_at hl 0 rfl) ?_
      refine lv_iload_n C.1 C.2.1 dX11_occurrences_44 rfl (lv_at hl 1 rfl) ?_
      refine lv_iconst (v := 1) C.1 C.2.1 dX11_occurrences_45 (by decide) ?_
      obtain ⟨u4, hcu4, hf⟩ := bnd_t hf
      refine x_calli hW (x_runV C hW hl (wk9 (k_125)) rfl rfl (c_X11_of hcu4) (cw_X11_94) ci_X11_of cs_X11_of (rm_ok (by decide) (by decide)) ⟨Nat.le_refl _, Nat.le_refl _⟩ (As := [.int p1, .int (1 : Int32)]) rfl rfl (Nat.le_of_ble_eq_true rfl) dX11_occurrences_46) (fun H locs hW => ?_)
      refine x_cmpne (tgt := 56) C hf dX11_occurrences_49 (by decide) (fun hf => ?_) (fun hf => ?_)
      · refine lv_iconst (v := 0) C.1 C.2.1 dX11_occurrences_56 (by decide) ?_
        exact j_X11_occurrences_57 C (fun z0 z1 => ih z0 z1) hW (lv_sub hl [0, 1, 3] rfl) hf
      · refine lv_iconst (v := 1) C.1 C.2.1 dX11_occurrences_52 (by decide) ?_
        refine lv_goto (tgt := 57) C.1 C.2.1 dX11_occurrences_53 (by decide) ?_
        exact j_X11_occurrences_57 C (fun z0 z1 => ih z0 z1) hW (lv_sub hl [0, 1, 3] rfl) hf
set_option maxRecDepth 20000 in
set_option maxHeartbeats 1000000 in
theorem c_X11_occurrences {l : Launch} {Z : ZT} {h : Hp} {g : Hp} {p1 : Int32} {out : Int32 × Hp} (hf : f_X11_occurrences g p1 = some out) : Met l yX11_occurrences (wY yX11_occurrences cX11_occurrences 4 (some .int)) (rmD 2) (va_Pc [.ref (Z.1 125), .int p1] (Wd Z h g)) (va_Qi (fun r (_ : Unit) => r = out.1) (fun _ => Wd Z h out.2) (FR Z)) 0 0 (FR Z) := by
  refine metX RX11 rfl (by decide +kernel) (Nat.le_of_ble_eq_true rfl) ?_
  intro p e s m args below meth c C hW ls hl
  have hl : lv_has ls 4 [(0, .ref (Z.1 125)), (1, .int p1)] := hl
  unfold f_X11_occurrences at hf
  refine lv_aload_n C.1 C.2.1 dX11_occurrences_0 rfl (lv_at hl 0 rfl) ?_
  refine lv_iconst (v := 0) C.1 C.2.1 dX11_occurrences_1 (by decide) ?_
  refine xp_X11_3 C hW (k_125) hf dX11_occurrences_2 (fun g5 H locs hf hW => ?_)
  refine lv_aload_n C.1 C.2.1 dX11_occurrences_5 rfl (lv_at hl 0 rfl) ?_
  refine lv_iload_n C.1 C.2.1 dX11_occurrences_6 rfl (lv_at hl 1 rfl) ?_
  obtain ⟨u6, hcu6, hf⟩ := bnd_t hf
  refine x_calli hW (x_runV C hW hl (wk9 (k_125)) rfl rfl (c_X11_noWord hcu6) (cw_X11_284) ci_X11_noWord cs_X11_noWord (rm_ok (by decide) (by decide)) ⟨Nat.le_refl _, Nat.le_refl _⟩ (As := [.int p1]) rfl rfl (Nat.le_of_ble_eq_true rfl) dX11_occurrences_7) (fun H locs hW => ?_)
  refine x_ifeq (tgt := 15) C hf dX11_occurrences_10 (by decide) (fun hf => ?_) (fun hf => ?_)
  · refine lv_aload_n C.1 C.2.1 dX11_occurrences_15 rfl (lv_at hl 0 rfl) ?_
    obtain ⟨u7, hcu7, hf⟩ := bnd_t hf
    refine x_callv hW (x_runV C hW hl (wk9 (k_125)) rfl rfl (c_X11_laysRow hcu7) (cw_X11_359) ci_X11_laysRow cs_X11_laysRow (rm_ok (by decide) (by decide)) ⟨Nat.le_refl _, Nat.le_refl _⟩ (As := []) rfl rfl (Nat.le_of_ble_eq_true rfl) dX11_occurrences_16) (fun H locs hW => ?_)
    refine lv_iconst (v := 0) C.1 C.2.1 dX11_occurrences_19 (by decide) ?_
    refine lv_istore_n (lv' := [(2, .int (0 : Int32)), (0, .ref (Z.1 125)), (1, .int p1)]) C.1 C.2.1 dX11_occurrences_20 rfl hl (by decide) rfl (fun ls hl => ?_)
    refine lv_iconst (v := 0) C.1 C.2.1 dX11_occurrences_21 (by decide) ?_
    refine lv_istore_n (lv' := [(3, .int (0 : Int32)), (2, .int (0 : Int32)), (0, .ref (Z.1 125)), (1, .int p1)]) C.1 C.2.1 dX11_occurrences_22 rfl hl (by decide) rfl (fun ls hl => ?_)
    exact l_X11_occurrences_23 C FU (0 : Int32) (0 : Int32) ls _ _ hW (lv_sub hl [2, 3, 1, 0] rfl) hf
  · refine lv_iconst (v := 0) C.1 C.2.1 dX11_occurrences_13 (by decide) ?_
    obtain rfl := Option.some.inj hf
    exact x_iret C hW dX11_occurrences_14 rfl
set_option maxRecDepth 20000 in
set_option maxHeartbeats 1000000 in
theorem j_X11_stutters_56 {l : Launch} {Z : ZT} {h : Hp} {g : Hp} {r13 : Int32 × Int32 → Option (Int32 × Hp)} {x2 : Int32} {s0 : Int32} {s1 : Int32} {p : Program} {e : Env} {s : State} {m : MethodId} {args : Array Value} {below : List Frame} {meth : Method} {c : Code} (C : CX p s m args meth c cX11_stutters RX11 3 (some .int) Z) {out : Int32 × Hp} (hr13 : ∀ (x1 : Int32) (x2 : Int32) (ls : Array Slot) (H : Heap) (locs : List Loc), XW Z h g s.heap H locs → lv_has ls 3 [(0, .ref (Z.1 125)), (1, .int x1), (2, .int x2)] → r13 (x1, x2) = some out → W p l e (rmD 2) s m args below meth c H locs 0 0 (MQ below (va_Qi (fun r (_ : Unit) => r = out.1) (fun _ => Wd Z h out.2) (FR Z)) args s 0 0 (FR Z)) (F0 m 13 ls [])) {ls : Array Slot} {H : Heap} {locs : List Loc} (hW : XW Z h g s.heap H locs) (hl : lv_has ls 3 [(0, .ref (Z.1 125)), (2, .int x2)]) (hf : J_X11_stutters_56 g r13 x2 s0 s1 = some out) : W p l e (rmD 2) s m args below meth c H locs 0 0 (MQ below (va_Qi (fun r (_ : Unit) => r = out.1) (fun _ => Wd Z h out.2) (FR Z)) args s 0 0 (FR Z)) (F0 m 56 ls [.int s1, .int s0]) := by
  rw [J_X11_stutters_56] at hf
  refine lv_iadd C.1 C.2.1 dX11_stutters_56 ?_
  refine x_istn C hf dX11_stutters_57 rfl hl (by decide) (fun v1 => [(1, .int v1), (0, .ref (Z.1 125)), (2, .int x2)]) (fun _ => rfl) (fun v1 ls hf hl => ?_)
  refine x_iinc (w := 1) C hf dX11_stutters_58 hl (k := 2) rfl (by decide) (by decide) (fun v2 => [(2, .int v2), (1, .int v1), (0, .ref (Z.1 125))]) (fun _ => rfl) (fun v2 ls hf hl => ?_)
  refine lv_goto (tgt := 13) C.1 C.2.1 dX11_stutters_61 (by decide) ?_
  exact hr13 v1 v2 ls _ _ hW (lv_sub hl [2, 1, 0] rfl) hf
set_option maxRecDepth 20000 in
set_option maxHeartbeats 1000000 in
theorem l_X11_stutters_13 {l : Launch} {Z : ZT} {h : Hp} {g : Hp} {p : Program} {e : Env} {s : State} {m : MethodId} {args : Array Value} {below : List Frame} {meth : Method} {c : Code} (C : CX p s m args meth c cX11_stutters RX11 3 (some .int) Z) {out : Int32 × Hp} : ∀ (n : Nat) (x1 : Int32) (x2 : Int32) (ls : Array Slot) (H : Heap) (locs : List Loc), XW Z h g s.heap H locs → lv_has ls 3 [(0, .ref (Z.1 125)), (1, .int x1), (2, .int x2)] → Lp (F_X11_stutters_13 g) n (x1, x2) = some out → W p l e (rmD 2) s m args below meth c H locs 0 0 (MQ below (va_Qi (fun r (_ : Unit) => r = out.1) (fun _ => Wd Z h out.2) (FR Z)) args s 0 0 (FR Z)) (F0 m 13 ls []) := by
  intro n
  induction n with
  | zero => intro x1 x2 ls H locs hW hl hf; cases hf
  | succ n ih =>
    intro x1 x2 ls H locs hW hl hf
    rw [Lp_s] at hf
    refine lv_iload_n C.1 C.2.1 dX11_stutters_13 rfl (lv_at hl 2 rfl) ?_
    refine lv_iconst (v := 1) C.1 C.2.1 dX11_stutters_14 (by decide) ?_
    refine lv_iadd C.1 C.2.1 dX11_stutters_15 ?_
    refine lv_aload_n C.1 C.2.1 dX11_stutters_16 rfl (lv_at hl 0 rfl) ?_
    refine xg_X11_356 C hW (k_125) dX11_stutters_17 ?_
    refine x_cmpge (tgt := 64) C hf dX11_stutters_20 (by decide) (fun hf => ?_) (fun hf => ?_)
    · refine lv_iload_n C.1 C.2.1 dX11_stutters_64 rfl (lv_at hl 1 rfl) ?_
      obtain rfl := Option.some.inj hf
      exact x_iret C hW dX11_stutters_65 rfl
    · refine lv_iload_n C.1 C.2.1 dX11_stutters_23 rfl (lv_at hl 1 rfl) ?_
      refine lv_aload_n C.1 C.2.1 dX11_stutters_24 rfl (lv_at hl 0 rfl) ?_
      refine lv_aload_n C.1 C.2.1 dX11_stutters_25 rfl (lv_at hl 0 rfl) ?_
      refine xg_X11_63 C hW (k_125) dX11_stutters_26 ?_
      refine lv_iload_n C.1 C.2.1 dX11_stutters_29 rfl (lv_at hl 2 rfl) ?_
      refine x_ialdM C hW a_141 hf dX11_stutters_30 (fun hf => ?_)
      refine lv_iconst (v := 1) C.1 C.2.1 dX11_stutters_31 (by decide) ?_
      obtain ⟨u3, hcu3, hf⟩ := bnd_t hf
      refine x_calli hW (x_runV C hW hl (wk9 (k_125)) rfl rfl (c_X11_of hcu3) (cw_X11_94) ci_X11_of cs_X11_of (rm_ok (by decide) (by decide)) ⟨Nat.le_refl _, Nat.le_refl _⟩ (As := [.int (g 141 (ix x2)), .int (1 : Int32)]) rfl rfl (Nat.le_of_ble_eq_true rfl) dX11_stutters_32) (fun H locs hW => ?_)
      refine lv_aload_n C.1 C.2.1 dX11_stutters_35 rfl (lv_at hl 0 rfl) ?_
      refine lv_aload_n C.1 C.2.1 dX11_stutters_36 rfl (lv_at hl 0 rfl) ?_
      refine xg_X11_63 C hW (k_125) dX11_stutters_37 ?_
      refine lv_iload_n C.1 C.2.1 dX11_stutters_40 rfl (lv_at hl 2 rfl) ?_
      refine lv_iconst (v := 1) C.1 C.2.1 dX11_stutters_41 (by decide) ?_
      refine lv_iadd C.1 C.2.1 dX11_stutters_42 ?_
      refine x_ialdM C hW a_141 hf dX11_stutters_43 (fun hf => ?_)
      refine lv_iconst (v := 1) C.1 C.2.1 dX11_stutters_44 (by decide) ?_
      obtain ⟨u4, hcu4, hf⟩ := bnd_t hf
      refine x_calli hW (x_runV C hW hl (wk9 (k_125)) rfl rfl (c_X11_of hcu4) (cw_X11_94) ci_X11_of cs_X11_of (rm_ok (by decide) (by decide)) ⟨Nat.le_refl _, Nat.le_refl _⟩ (As := [.int (g 141 (ix (x2 + (1 : Int32)))), .int (1 : Int32)]) rfl rfl (Nat.le_of_ble_eq_true rfl) dX11_stutters_45) (fun H locs hW => ?_)
      refine x_cmpne (tgt := 55) C hf dX11_stutters_48 (by decide) (fun hf => ?_) (fun hf => ?_)
      · refine lv_iconst (v := 0) C.1 C.2.1 dX11_stutters_55 (by decide) ?_
        exact j_X11_stutters_56 C (fun z0 z1 => ih z0 z1) hW (lv_sub hl [0, 2] rfl) hf
      · refine lv_iconst (v := 1) C.1 C.2.1 dX11_stutters_51 (by decide) ?_
        refine lv_goto (tgt := 56) C.1 C.2.1 dX11_stutters_52 (by decide) ?_
        exact j_X11_stutters_56 C (fun z0 z1 => ih z0 z1) hW (lv_sub hl [0, 2] rfl) hf
set_option maxRecDepth 20000 in
set_option maxHeartbeats 1000000 in
theorem c_X11_stutters {l : Launch} {Z : ZT} {h : Hp} {g : Hp} {out : Int32 × Hp} (hf : f_X11_stutters g = some out) : Met l yX11_stutters (wY yX11_stutters cX11_stutters 3 (some .int)) (rmD 2) (va_Pc [.ref (Z.1 125)] (Wd Z h g)) (va_Qi (fun r (_ : Unit) => r = out.1) (fun _ => Wd Z h out.2) (FR Z)) 0 0 (FR Z) := by
  refine metX RX11 rfl (by decide +kernel) (Nat.le_of_ble_eq_true rfl) ?_
  intro p e s m args below meth c C hW ls hl
  have hl : lv_has ls 3 [(0, .ref (Z.1 125))] := hl
  unfold f_X11_stutters at hf
  refine lv_aload_n C.1 C.2.1 dX11_stutters_0 rfl (lv_at hl 0 rfl) ?_
  refine lv_iconst (v := 0) C.1 C.2.1 dX11_stutters_1 (by decide) ?_
  refine xp_X11_3 C hW (k_125) hf dX11_stutters_2 (fun g5 H locs hf hW => ?_)
  refine lv_aload_n C.1 C.2.1 dX11_stutters_5 rfl (lv_at hl 0 rfl) ?_
  obtain ⟨u6, hcu6, hf⟩ := bnd_t hf
  refine x_callv hW (x_runV C hW hl (wk9 (k_125)) rfl rfl (c_X11_laysRow hcu6) (cw_X11_359) ci_X11_laysRow cs_X11_laysRow (rm_ok (by decide) (by decide)) ⟨Nat.le_refl _, Nat.le_refl _⟩ (As := []) rfl rfl (Nat.le_of_ble_eq_true rfl) dX11_stutters_6) (fun H locs hW => ?_)
  refine lv_iconst (v := 0) C.1 C.2.1 dX11_stutters_9 (by decide) ?_
  refine lv_istore_n (lv' := [(1, .int (0 : Int32)), (0, .ref (Z.1 125))]) C.1 C.2.1 dX11_stutters_10 rfl hl (by decide) rfl (fun ls hl => ?_)
  refine lv_iconst (v := 0) C.1 C.2.1 dX11_stutters_11 (by decide) ?_
  refine lv_istore_n (lv' := [(2, .int (0 : Int32)), (1, .int (0 : Int32)), (0, .ref (Z.1 125))]) C.1 C.2.1 dX11_stutters_12 rfl hl (by decide) rfl (fun ls hl => ?_)
  exact l_X11_stutters_13 C FU (0 : Int32) (0 : Int32) ls _ _ hW (lv_sub hl [2, 1, 0] rfl) hf
set_option maxRecDepth 20000 in
set_option maxHeartbeats 1000000 in
theorem l_X11_takesOut_19 {l : Launch} {Z : ZT} {h : Hp} {p1 : Int32} {p : Program} {e : Env} {s : State} {m : MethodId} {args : Array Value} {below : List Frame} {meth : Method} {c : Code} (C : CX p s m args meth c cX11_takesOut RX11 3 none Z) {out : Hp} : ∀ (n : Nat) (x2 : Int32) (g : Hp) (ls : Array Slot) (H : Heap) (locs : List Loc), XW Z h g s.heap H locs → lv_has ls 3 [(0, .ref (Z.1 125)), (1, .int p1), (2, .int x2)] → Lp (F_X11_takesOut_19 p1) n (x2, g) = some out → W p l e (rmD 0) s m args below meth c H locs 0 0 (MQ below (va_Qv (fun (_ : Unit) => True) (fun _ => Wd Z h out) (FR Z)) args s 0 0 (FR Z)) (F0 m 19 ls []) := by
  intro n
  induction n with
  | zero => intro x2 g ls H locs hW hl hf; cases hf
  | succ n ih =>
    intro x2 g ls H locs hW hl hf
    rw [Lp_s] at hf
    refine lv_iload_n C.1 C.2.1 dX11_takesOut_19 rfl (lv_at hl 2 rfl) ?_
    refine lv_aload_n C.1 C.2.1 dX11_takesOut_20 rfl (lv_at hl 0 rfl) ?_
    refine xg_X11_38 C hW (k_125) dX11_takesOut_21 ?_
    refine lv_bipush (v := 40) C.1 C.2.1 dX11_takesOut_24 (by decide) ?_
    refine x_ialdM C hW a_134 hf dX11_takesOut_26 (fun hf => ?_)
    refine x_cmpge (tgt := 56) C hf dX11_takesOut_27 (by decide) (fun hf => ?_) (fun hf => ?_)
    · obtain rfl := Option.some.inj hf
      exact x_vret C hW dX11_takesOut_56 trivial
    · refine lv_aload_n C.1 C.2.1 dX11_takesOut_30 rfl (lv_at hl 0 rfl) ?_
      refine xg_X11_38 C hW (k_125) dX11_takesOut_31 ?_
      refine lv_bipush (v := 41) C.1 C.2.1 dX11_takesOut_34 (by decide) ?_
      refine lv_iload_n C.1 C.2.1 dX11_takesOut_36 rfl (lv_at hl 2 rfl) ?_
      refine lv_iadd C.1 C.2.1 dX11_takesOut_37 ?_
      refine lv_aload_n C.1 C.2.1 dX11_takesOut_38 rfl (lv_at hl 0 rfl) ?_
      refine xg_X11_38 C hW (k_125) dX11_takesOut_39 ?_
      refine lv_bipush (v := 41) C.1 C.2.1 dX11_takesOut_42 (by decide) ?_
      refine lv_iload_n C.1 C.2.1 dX11_takesOut_44 rfl (lv_at hl 2 rfl) ?_
      refine lv_iadd C.1 C.2.1 dX11_takesOut_45 ?_
      refine lv_iconst (v := 1) C.1 C.2.1 dX11_takesOut_46 (by decide) ?_
      refine lv_iadd C.1 C.2.1 dX11_takesOut_47 ?_
      refine x_ialdM C hW a_134 hf dX11_takesOut_48 (fun hf => ?_)
      refine x_iastM C hW a_134 hf dX11_takesOut_49 (fun g1 H locs hf hW => ?_)
      refine x_iinc (w := 1) C hf dX11_takesOut_50 hl (k := 2) rfl (by decide) (by decide) (fun v2 => [(2, .int v2), (0, .ref (Z.1 125)), (1, .int p1)]) (fun _ => rfl) (fun v2 ls hf hl => ?_)
      refine lv_goto (tgt := 19) C.1 C.2.1 dX11_takesOut_53 (by decide) ?_
      exact ih v2 g1 ls _ _ hW (lv_sub hl [1, 2, 0] rfl) hf
set_option maxRecDepth 20000 in
set_option maxHeartbeats 1000000 in
theorem c_X11_takesOut {l : Launch} {Z : ZT} {h : Hp} {g : Hp} {p1 : Int32} {out : Hp} (hf : f_X11_takesOut g p1 = some out) : Met l yX11_takesOut (wY yX11_takesOut cX11_takesOut 3 none) (rmD 0) (va_Pc [.ref (Z.1 125), .int p1] (Wd Z h g)) (va_Qv (fun (_ : Unit) => True) (fun _ => Wd Z h out) (FR Z)) 0 0 (FR Z) := by
  refine metX RX11 rfl (by decide +kernel) (Nat.le_of_ble_eq_true rfl) ?_
  intro p e s m args below meth c C hW ls hl
  have hl : lv_has ls 3 [(0, .ref (Z.1 125)), (1, .int p1)] := hl
  unfold f_X11_takesOut at hf
  refine lv_iload_n C.1 C.2.1 dX11_takesOut_0 rfl (lv_at hl 1 rfl) ?_
  refine lv_iconst (v := -1) C.1 C.2.1 dX11_takesOut_1 (by decide) ?_
  refine x_cmpne (tgt := 6) C hf dX11_takesOut_2 (by decide) (fun hf => ?_) (fun hf => ?_)
  · refine lv_aload_n C.1 C.2.1 dX11_takesOut_6 rfl (lv_at hl 0 rfl) ?_
    refine xg_X11_38 C hW (k_125) dX11_takesOut_7 ?_
    refine lv_bipush (v := 40) C.1 C.2.1 dX11_takesOut_10 (by decide) ?_
    refine lv_dup2_11 C.1 C.2.1 dX11_takesOut_12 rfl rfl ?_
    refine x_ialdM C hW a_134 hf dX11_takesOut_13 (fun hf => ?_)
    refine lv_iconst (v := 1) C.1 C.2.1 dX11_takesOut_14 (by decide) ?_
    refine lv_isub C.1 C.2.1 dX11_takesOut_15 ?_
    refine x_iastM C hW a_134 hf dX11_takesOut_16 (fun g3 H locs hf hW => ?_)
    refine lv_iload_n C.1 C.2.1 dX11_takesOut_17 rfl (lv_at hl 1 rfl) ?_
    refine lv_istore_n (lv' := [(2, .int p1), (0, .ref (Z.1 125)), (1, .int p1)]) C.1 C.2.1 dX11_takesOut_18 rfl hl (by decide) rfl (fun ls hl => ?_)
    exact l_X11_takesOut_19 C FU p1 g3 ls _ _ hW (lv_sub hl [1, 2, 0] rfl) hf
  · obtain rfl := Option.some.inj hf
    exact x_vret C hW dX11_takesOut_5 trivial
set_option maxRecDepth 20000 in
set_option maxHeartbeats 1000000 in
theorem c_X11_cutsWord {l : Launch} {Z : ZT} {h : Hp} {g : Hp} {p1 : Int32} {out : Hp} (hf : f_X11_cutsWord g p1 = some out) : Met l yX11_cutsWord (wY yX11_cutsWord cX11_cutsWord 3 none) (rmD 2) (va_Pc [.ref (Z.1 125), .int p1] (Wd Z h g)) (va_Qv (fun (_ : Unit) => True) (fun _ => Wd Z h out) (FR Z)) 0 0 (FR Z) := by
  refine metX RX11 rfl (by decide +kernel) (Nat.le_of_ble_eq_true rfl) ?_
  intro p e s m args below meth c C hW ls hl
  have hl : lv_has ls 3 [(0, .ref (Z.1 125)), (1, .int p1)] := hl
  unfold f_X11_cutsWord at hf
  refine lv_aload_n C.1 C.2.1 dX11_cutsWord_0 rfl (lv_at hl 0 rfl) ?_
  refine xg_X11_38 C hW (k_125) dX11_cutsWord_1 ?_
  refine lv_iconst (v := 0) C.1 C.2.1 dX11_cutsWord_4 (by decide) ?_
  refine lv_iload_n C.1 C.2.1 dX11_cutsWord_5 rfl (lv_at hl 1 rfl) ?_
  refine lv_iadd C.1 C.2.1 dX11_cutsWord_6 ?_
  refine lv_iconst (v := 1) C.1 C.2.1 dX11_cutsWord_7 (by decide) ?_
  refine x_iastM C hW a_134 hf dX11_cutsWord_8 (fun g1 H locs hf hW => ?_)
  refine lv_aload_n C.1 C.2.1 dX11_cutsWord_9 rfl (lv_at hl 0 rfl) ?_
  refine xg_X11_20 C hW (k_125) dX11_cutsWord_10 ?_
  refine lv_iload_n C.1 C.2.1 dX11_cutsWord_13 rfl (lv_at hl 1 rfl) ?_
  refine x_ialdM C hW a_128 hf dX11_cutsWord_14 (fun hf => ?_)
  refine x_istn C hf dX11_cutsWord_15 rfl hl (by decide) (fun v2 => [(2, .int v2), (0, .ref (Z.1 125)), (1, .int p1)]) (fun _ => rfl) (fun v2 ls hf hl => ?_)
  refine lv_aload_n C.1 C.2.1 dX11_cutsWord_16 rfl (lv_at hl 1 rfl) ?_
  refine lv_iload_n C.1 C.2.1 dX11_cutsWord_17 rfl (lv_at hl 0 rfl) ?_
  obtain ⟨u3, hcu3, hf⟩ := bnd_t hf
  refine x_calli hW (x_runV C hW hl (wk9 (k_125)) rfl rfl (c_X11_keptIn hcu3) (cw_X11_296) ci_X11_keptIn cs_X11_keptIn (rm_ok (by decide) (by decide)) ⟨Nat.le_refl _, Nat.le_refl _⟩ (As := [.int v2]) rfl rfl (Nat.le_of_ble_eq_true rfl) dX11_cutsWord_18) (fun H locs hW => ?_)
  refine x_ifne (tgt := 33) C hf dX11_cutsWord_21 (by decide) (fun hf => ?_) (fun hf => ?_)
  · obtain rfl := Option.some.inj hf
    exact x_vret C hW dX11_cutsWord_33 trivial
  · refine lv_aload_n C.1 C.2.1 dX11_cutsWord_24 rfl (lv_at hl 1 rfl) ?_
    refine lv_aload_n C.1 C.2.1 dX11_cutsWord_25 rfl (lv_at hl 1 rfl) ?_
    refine lv_iload_n C.1 C.2.1 dX11_cutsWord_26 rfl (lv_at hl 0 rfl) ?_
    obtain ⟨u4, hcu4, hf⟩ := bnd_t hf
    refine x_calli hW (x_runV C hW hl (wk9 (k_125)) rfl rfl (c_X11_shotOf hcu4) (cw_X11_278) ci_X11_shotOf cs_X11_shotOf (rm_ok (by decide) (by decide)) ⟨Nat.le_refl _, Nat.le_refl _⟩ (As := [.int v2]) rfl rfl (Nat.le_of_ble_eq_true rfl) dX11_cutsWord_27) (fun H locs hW => ?_)
    obtain ⟨u5, hcu5, hf⟩ := bnd_t hf
    refine x_callv hW (x_runV C hW hl (wk9 (k_125)) rfl rfl (c_X11_takesOut hcu5) (cw_X11_362) ci_X11_takesOut cs_X11_takesOut (rm_ok (by decide) (by decide)) ⟨Nat.le_refl _, Nat.le_refl _⟩ (As := [.int u4]) rfl rfl (Nat.le_of_ble_eq_true rfl) dX11_cutsWord_30) (fun H locs hW => ?_)
    obtain rfl := Option.some.inj hf
    exact x_vret C hW dX11_cutsWord_33 trivial
set_option maxRecDepth 20000 in
set_option maxHeartbeats 1000000 in
theorem j_X11_putsIn_39 {l : Launch} {Z : ZT} {h : Hp} {p1 : Int32} {p2 : Int32} {g : Hp} {p : Program} {e : Env} {s : State} {m : MethodId} {args : Array Value} {below : List Frame} {meth : Method} {c : Code} (C : CX p s m args meth c cX11_putsIn RX11 4 none Z) {out : Hp} {ls : Array Slot} {H : Heap} {locs : List Loc} (hW : XW Z h g s.heap H locs) (hl : lv_has ls 4 [(0, .ref (Z.1 125)), (1, .int p1), (2, .int p2)]) (hf : J_X11_putsIn_39 p1 p2 g = some out) : W p l e (rmD 0) s m args below meth c H locs 0 0 (MQ below (va_Qv (fun (_ : Unit) => True) (fun _ => Wd Z h out) (FR Z)) args s 0 0 (FR Z)) (F0 m 39 ls []) := by
  refine lv_aload_n C.1 C.2.1 dX11_putsIn_39 rfl (lv_at hl 0 rfl) ?_
  refine xg_X11_38 C hW (k_125) dX11_putsIn_40 ?_
  refine lv_bipush (v := 41) C.1 C.2.1 dX11_putsIn_43 (by decide) ?_
  refine lv_iload_n C.1 C.2.1 dX11_putsIn_45 rfl (lv_at hl 1 rfl) ?_
  refine lv_iadd C.1 C.2.1 dX11_putsIn_46 ?_
  refine lv_iload_n C.1 C.2.1 dX11_putsIn_47 rfl (lv_at hl 2 rfl) ?_
  refine x_iastM C hW a_134 hf dX11_putsIn_48 (fun g1 H locs hf hW => ?_)
  refine lv_aload_n C.1 C.2.1 dX11_putsIn_49 rfl (lv_at hl 0 rfl) ?_
  refine xg_X11_38 C hW (k_125) dX11_putsIn_50 ?_
  refine lv_bipush (v := 40) C.1 C.2.1 dX11_putsIn_53 (by decide) ?_
  refine lv_dup2_11 C.1 C.2.1 dX11_putsIn_55 rfl rfl ?_
  refine x_ialdM C hW a_134 hf dX11_putsIn_56 (fun hf => ?_)
  refine lv_iconst (v := 1) C.1 C.2.1 dX11_putsIn_57 (by decide) ?_
  refine lv_iadd C.1 C.2.1 dX11_putsIn_58 ?_
  refine x_iastM C hW a_134 hf dX11_putsIn_59 (fun g2 H locs hf hW => ?_)
  obtain rfl := Option.some.inj hf
  exact x_vret C hW dX11_putsIn_60 trivial
set_option maxRecDepth 20000 in
set_option maxHeartbeats 1000000 in
theorem l_X11_putsIn_8 {l : Launch} {Z : ZT} {h : Hp} {p1 : Int32} {p2 : Int32} {p : Program} {e : Env} {s : State} {m : MethodId} {args : Array Value} {below : List Frame} {meth : Method} {c : Code} (C : CX p s m args meth c cX11_putsIn RX11 4 none Z) {out : Hp} : ∀ (n : Nat) (x3 : Int32) (g : Hp) (ls : Array Slot) (H : Heap) (locs : List Loc), XW Z h g s.heap H locs → lv_has ls 4 [(0, .ref (Z.1 125)), (1, .int p1), (2, .int p2), (3, .int x3)] → Lp (F_X11_putsIn_8 p1 p2) n (x3, g) = some out → W p l e (rmD 0) s m args below meth c H locs 0 0 (MQ below (va_Qv (fun (_ : Unit) => True) (fun _ => Wd Z h out) (FR Z)) args s 0 0 (FR Z)) (F0 m 8 ls []) := by
  intro n
  induction n with
  | zero => intro x3 g ls H locs hW hl hf; cases hf
  | succ n ih =>
    intro x3 g ls H locs hW hl hf
    rw [Lp_s] at hf
    refine lv_iload_n C.1 C.2.1 dX11_putsIn_8 rfl (lv_at hl 3 rfl) ?_
    refine lv_iload_n C.1 C.2.1 dX11_putsIn_9 rfl (lv_at hl 1 rfl) ?_
    refine x_cmple (tgt := 39) C hf dX11_putsIn_10 (by decide) (fun hf => ?_) (fun hf => ?_)
    · exact j_X11_putsIn_39 C hW (lv_sub hl [0, 1, 2] rfl) hf
    · refine lv_aload_n C.1 C.2.1 dX11_putsIn_13 rfl (lv_at hl 0 rfl) ?_
      refine xg_X11_38 C hW (k_125) dX11_putsIn_14 ?_
      refine lv_bipush (v := 41) C.1 C.2.1 dX11_putsIn_17 (by decide) ?_
      refine lv_iload_n C.1 C.2.1 dX11_putsIn_19 rfl (lv_at hl 3 rfl) ?_
      refine lv_iadd C.1 C.2.1 dX11_putsIn_20 ?_
      refine lv_aload_n C.1 C.2.1 dX11_putsIn_21 rfl (lv_at hl 0 rfl) ?_
      refine xg_X11_38 C hW (k_125) dX11_putsIn_22 ?_
      refine lv_bipush (v := 41) C.1 C.2.1 dX11_putsIn_25 (by decide) ?_
      refine lv_iload_n C.1 C.2.1 dX11_putsIn_27 rfl (lv_at hl 3 rfl) ?_
      refine lv_iadd C.1 C.2.1 dX11_putsIn_28 ?_
      refine lv_iconst (v := 1) C.1 C.2.1 dX11_putsIn_29 (by decide) ?_
      refine lv_isub C.1 C.2.1 dX11_putsIn_30 ?_
      refine x_ialdM C hW a_134 hf dX11_putsIn_31 (fun hf => ?_)
      refine x_iastM C hW a_134 hf dX11_putsIn_32 (fun g3 H locs hf hW => ?_)
      refine x_iinc (w := -1) C hf dX11_putsIn_33 hl (k := 3) rfl (by decide) (by decide) (fun v4 => [(3, .int v4), (0, .ref (Z.1 125)), (1, .int p1), (2, .int p2)]) (fun _ => rfl) (fun v4 ls hf hl => ?_)
      refine lv_goto (tgt := 8) C.1 C.2.1 dX11_putsIn_36 (by decide) ?_
      exact ih v4 g3 ls _ _ hW (lv_sub hl [1, 2, 3, 0] rfl) hf
set_option maxRecDepth 20000 in
set_option maxHeartbeats 1000000 in
theorem c_X11_putsIn {l : Launch} {Z : ZT} {h : Hp} {g : Hp} {p1 : Int32} {p2 : Int32} {out : Hp} (hf : f_X11_putsIn g p1 p2 = some out) : Met l yX11_putsIn (wY yX11_putsIn cX11_putsIn 4 none) (rmD 0) (va_Pc [.ref (Z.1 125), .int p1, .int p2] (Wd Z h g)) (va_Qv (fun (_ : Unit) => True) (fun _ => Wd Z h out) (FR Z)) 0 0 (FR Z) := by
  refine metX RX11 rfl (by decide +kernel) (Nat.le_of_ble_eq_true rfl) ?_
  intro p e s m args below meth c C hW ls hl
  have hl : lv_has ls 4 [(0, .ref (Z.1 125)), (1, .int p1), (2, .int p2)] := hl
  unfold f_X11_putsIn at hf
  refine lv_aload_n C.1 C.2.1 dX11_putsIn_0 rfl (lv_at hl 0 rfl) ?_
  refine xg_X11_38 C hW (k_125) dX11_putsIn_1 ?_
  refine lv_bipush (v := 40) C.1 C.2.1 dX11_putsIn_4 (by decide) ?_
  refine x_ialdM C hW a_134 hf dX11_putsIn_6 (fun hf => ?_)
  refine x_istn C hf dX11_putsIn_7 rfl hl (by decide) (fun v5 => [(3, .int v5), (0, .ref (Z.1 125)), (1, .int p1), (2, .int p2)]) (fun _ => rfl) (fun v5 ls hf hl => ?_)
  exact l_X11_putsIn_8 C FU v5 g ls _ _ hW (lv_sub hl [1, 2, 3, 0] rfl) hf
