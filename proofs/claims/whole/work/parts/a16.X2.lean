abbrev cX2_putByte : ByteArray := prog_4_method_4_code
def yX2_putByte : MethodName := ⟨RX2, "putByte", "(I)V"⟩
theorem dX2_putByte_0 : decode cX2_putByte 0 = .ok (.aload_n 0, 1) := by decide +kernel
theorem dX2_putByte_1 : decode cX2_putByte 1 = .ok (.getfield 15, 3) := by decide +kernel
theorem dX2_putByte_4 : decode cX2_putByte 4 = .ok (.sipush 1000, 3) := by decide +kernel
theorem dX2_putByte_7 : decode cX2_putByte 7 = .ok (.if_icmp .ge 24, 3) := by decide +kernel
theorem dX2_putByte_10 : decode cX2_putByte 10 = .ok (.aload_n 0, 1) := by decide +kernel
theorem dX2_putByte_11 : decode cX2_putByte 11 = .ok (.getfield 11, 3) := by decide +kernel
theorem dX2_putByte_14 : decode cX2_putByte 14 = .ok (.aload_n 0, 1) := by decide +kernel
theorem dX2_putByte_15 : decode cX2_putByte 15 = .ok (.getfield 15, 3) := by decide +kernel
theorem dX2_putByte_18 : decode cX2_putByte 18 = .ok (.iload_n 1, 1) := by decide +kernel
theorem dX2_putByte_19 : decode cX2_putByte 19 = .ok (.i2b, 1) := by decide +kernel
theorem dX2_putByte_20 : decode cX2_putByte 20 = .ok (.bastore, 1) := by decide +kernel
theorem dX2_putByte_21 : decode cX2_putByte 21 = .ok (.aload_n 0, 1) := by decide +kernel
theorem dX2_putByte_22 : decode cX2_putByte 22 = .ok (.dup, 1) := by decide +kernel
theorem dX2_putByte_23 : decode cX2_putByte 23 = .ok (.getfield 15, 3) := by decide +kernel
theorem dX2_putByte_26 : decode cX2_putByte 26 = .ok (.iconst 1, 1) := by decide +kernel
theorem dX2_putByte_27 : decode cX2_putByte 27 = .ok (.iadd, 1) := by decide +kernel
theorem dX2_putByte_28 : decode cX2_putByte 28 = .ok (.putfield 15, 3) := by decide +kernel
theorem dX2_putByte_31 : decode cX2_putByte 31 = .ok (.return_, 1) := by decide +kernel
theorem ci_X2_putByte : Cond.instanceMethod yX2_putByte ∈ TW := TW_of 830 (by decide +kernel) (by decide +kernel)
theorem cs_X2_putByte : Cond.selects yX2_putByte.cls yX2_putByte yX2_putByte ∈ TW := TW_of 11 (by decide +kernel) (by decide +kernel)
abbrev cX2_putName : ByteArray := prog_4_method_6_code
def yX2_putName : MethodName := ⟨RX2, "putName", "(I)V"⟩
theorem dX2_putName_0 : decode cX2_putName 0 = .ok (.bipush 25, 2) := by decide +kernel
theorem dX2_putName_2 : decode cX2_putName 2 = .ok (.istore_n 2, 1) := by decide +kernel
theorem dX2_putName_3 : decode cX2_putName 3 = .ok (.iload_n 2, 1) := by decide +kernel
theorem dX2_putName_4 : decode cX2_putName 4 = .ok (.ifCond .lt 30, 3) := by decide +kernel
theorem dX2_putName_7 : decode cX2_putName 7 = .ok (.iload_n 1, 1) := by decide +kernel
theorem dX2_putName_8 : decode cX2_putName 8 = .ok (.iload_n 2, 1) := by decide +kernel
theorem dX2_putName_9 : decode cX2_putName 9 = .ok (.ishr, 1) := by decide +kernel
theorem dX2_putName_10 : decode cX2_putName 10 = .ok (.bipush 31, 2) := by decide +kernel
theorem dX2_putName_12 : decode cX2_putName 12 = .ok (.iand, 1) := by decide +kernel
theorem dX2_putName_13 : decode cX2_putName 13 = .ok (.istore_n 3, 1) := by decide +kernel
theorem dX2_putName_14 : decode cX2_putName 14 = .ok (.iload_n 3, 1) := by decide +kernel
theorem dX2_putName_15 : decode cX2_putName 15 = .ok (.ifCond .eq 13, 3) := by decide +kernel
theorem dX2_putName_18 : decode cX2_putName 18 = .ok (.aload_n 0, 1) := by decide +kernel
theorem dX2_putName_19 : decode cX2_putName 19 = .ok (.bipush 97, 2) := by decide +kernel
theorem dX2_putName_21 : decode cX2_putName 21 = .ok (.iload_n 3, 1) := by decide +kernel
theorem dX2_putName_22 : decode cX2_putName 22 = .ok (.iadd, 1) := by decide +kernel
theorem dX2_putName_23 : decode cX2_putName 23 = .ok (.iconst 1, 1) := by decide +kernel
theorem dX2_putName_24 : decode cX2_putName 24 = .ok (.isub, 1) := by decide +kernel
theorem dX2_putName_25 : decode cX2_putName 25 = .ok (.invokevirtual 104, 3) := by decide +kernel
theorem dX2_putName_28 : decode cX2_putName 28 = .ok (.iinc 2 (-5), 3) := by decide +kernel
theorem dX2_putName_31 : decode cX2_putName 31 = .ok (.goto (-28), 3) := by decide +kernel
theorem dX2_putName_34 : decode cX2_putName 34 = .ok (.return_, 1) := by decide +kernel
theorem ci_X2_putName : Cond.instanceMethod yX2_putName ∈ TW := TW_of 834 (by decide +kernel) (by decide +kernel)
theorem cs_X2_putName : Cond.selects yX2_putName.cls yX2_putName yX2_putName ∈ TW := TW_of 12 (by decide +kernel) (by decide +kernel)
abbrev cX2_putText : ByteArray := prog_4_method_5_code
def yX2_putText : MethodName := ⟨RX2, "putText", "(Ljava/lang/String;)V"⟩
theorem dX2_putText_0 : decode cX2_putText 0 = .ok (.iconst 0, 1) := by decide +kernel
theorem dX2_putText_1 : decode cX2_putText 1 = .ok (.istore_n 2, 1) := by decide +kernel
theorem dX2_putText_2 : decode cX2_putText 2 = .ok (.iload_n 2, 1) := by decide +kernel
theorem dX2_putText_3 : decode cX2_putText 3 = .ok (.aload_n 1, 1) := by decide +kernel
theorem dX2_putText_4 : decode cX2_putText 4 = .ok (.invokevirtual 95, 3) := by decide +kernel
theorem dX2_putText_7 : decode cX2_putText 7 = .ok (.if_icmp .ge 18, 3) := by decide +kernel
theorem dX2_putText_10 : decode cX2_putText 10 = .ok (.aload_n 0, 1) := by decide +kernel
theorem dX2_putText_11 : decode cX2_putText 11 = .ok (.aload_n 1, 1) := by decide +kernel
theorem dX2_putText_12 : decode cX2_putText 12 = .ok (.iload_n 2, 1) := by decide +kernel
theorem dX2_putText_13 : decode cX2_putText 13 = .ok (.invokevirtual 100, 3) := by decide +kernel
theorem dX2_putText_16 : decode cX2_putText 16 = .ok (.invokevirtual 104, 3) := by decide +kernel
theorem dX2_putText_19 : decode cX2_putText 19 = .ok (.iinc 2 1, 3) := by decide +kernel
theorem dX2_putText_22 : decode cX2_putText 22 = .ok (.goto (-20), 3) := by decide +kernel
theorem dX2_putText_25 : decode cX2_putText 25 = .ok (.return_, 1) := by decide +kernel
theorem ci_X2_putText : Cond.instanceMethod yX2_putText ∈ TW := TW_of 778 (by decide +kernel) (by decide +kernel)
theorem cs_X2_putText : Cond.selects yX2_putText.cls yX2_putText yX2_putText ∈ TW := TW_of 10 (by decide +kernel) (by decide +kernel)
abbrev cX2_writeTranscript : ByteArray := prog_4_method_2_code
def yX2_writeTranscript : MethodName := ⟨RX2, "writeTranscript", "(LTranscriptCutter$Film;)V"⟩
theorem dX2_writeTranscript_0 : decode cX2_writeTranscript 0 = .ok (.aload_n 0, 1) := by decide +kernel
theorem dX2_writeTranscript_1 : decode cX2_writeTranscript 1 = .ok (.iconst 0, 1) := by decide +kernel
theorem dX2_writeTranscript_2 : decode cX2_writeTranscript 2 = .ok (.putfield 15, 3) := by decide +kernel
theorem dX2_writeTranscript_5 : decode cX2_writeTranscript 5 = .ok (.iconst 0, 1) := by decide +kernel
theorem dX2_writeTranscript_6 : decode cX2_writeTranscript 6 = .ok (.istore_n 2, 1) := by decide +kernel
theorem dX2_writeTranscript_7 : decode cX2_writeTranscript 7 = .ok (.iload_n 2, 1) := by decide +kernel
theorem dX2_writeTranscript_8 : decode cX2_writeTranscript 8 = .ok (.aload_n 1, 1) := by decide +kernel
theorem dX2_writeTranscript_9 : decode cX2_writeTranscript 9 = .ok (.getfield 19, 3) := by decide +kernel
theorem dX2_writeTranscript_12 : decode cX2_writeTranscript 12 = .ok (.getfield 25, 3) := by decide +kernel
theorem dX2_writeTranscript_15 : decode cX2_writeTranscript 15 = .ok (.if_icmp .ge 77, 3) := by decide +kernel
theorem dX2_writeTranscript_18 : decode cX2_writeTranscript 18 = .ok (.aload_n 1, 1) := by decide +kernel
theorem dX2_writeTranscript_19 : decode cX2_writeTranscript 19 = .ok (.getfield 30, 3) := by decide +kernel
theorem dX2_writeTranscript_22 : decode cX2_writeTranscript 22 = .ok (.iload_n 2, 1) := by decide +kernel
theorem dX2_writeTranscript_23 : decode cX2_writeTranscript 23 = .ok (.iaload, 1) := by decide +kernel
theorem dX2_writeTranscript_24 : decode cX2_writeTranscript 24 = .ok (.istore_n 3, 1) := by decide +kernel
theorem dX2_writeTranscript_25 : decode cX2_writeTranscript 25 = .ok (.iload_n 3, 1) := by decide +kernel
theorem dX2_writeTranscript_26 : decode cX2_writeTranscript 26 = .ok (.aload_n 1, 1) := by decide +kernel
theorem dX2_writeTranscript_27 : decode cX2_writeTranscript 27 = .ok (.getfield 30, 3) := by decide +kernel
theorem dX2_writeTranscript_30 : decode cX2_writeTranscript 30 = .ok (.iload_n 2, 1) := by decide +kernel
theorem dX2_writeTranscript_31 : decode cX2_writeTranscript 31 = .ok (.iconst 1, 1) := by decide +kernel
theorem dX2_writeTranscript_32 : decode cX2_writeTranscript 32 = .ok (.iadd, 1) := by decide +kernel
theorem dX2_writeTranscript_33 : decode cX2_writeTranscript 33 = .ok (.iaload, 1) := by decide +kernel
theorem dX2_writeTranscript_34 : decode cX2_writeTranscript 34 = .ok (.if_icmp .ge 52, 3) := by decide +kernel
theorem dX2_writeTranscript_37 : decode cX2_writeTranscript 37 = .ok (.iload_n 3, 1) := by decide +kernel
theorem dX2_writeTranscript_38 : decode cX2_writeTranscript 38 = .ok (.ifCond .le 24, 3) := by decide +kernel
theorem dX2_writeTranscript_41 : decode cX2_writeTranscript 41 = .ok (.aload_n 0, 1) := by decide +kernel
theorem dX2_writeTranscript_42 : decode cX2_writeTranscript 42 = .ok (.iload_n 3, 1) := by decide +kernel
theorem dX2_writeTranscript_43 : decode cX2_writeTranscript 43 = .ok (.aload_n 1, 1) := by decide +kernel
theorem dX2_writeTranscript_44 : decode cX2_writeTranscript 44 = .ok (.getfield 30, 3) := by decide +kernel
theorem dX2_writeTranscript_47 : decode cX2_writeTranscript 47 = .ok (.iload_n 2, 1) := by decide +kernel
theorem dX2_writeTranscript_48 : decode cX2_writeTranscript 48 = .ok (.iaload, 1) := by decide +kernel
theorem dX2_writeTranscript_49 : decode cX2_writeTranscript 49 = .ok (.if_icmp .ne 8, 3) := by decide +kernel
theorem dX2_writeTranscript_52 : decode cX2_writeTranscript 52 = .ok (.ldc 34, 2) := by decide +kernel
theorem dX2_writeTranscript_54 : decode cX2_writeTranscript 54 = .ok (.goto 5, 3) := by decide +kernel
theorem dX2_writeTranscript_57 : decode cX2_writeTranscript 57 = .ok (.ldc 36, 2) := by decide +kernel
theorem dX2_writeTranscript_59 : decode cX2_writeTranscript 59 = .ok (.invokevirtual 38, 3) := by decide +kernel
theorem dX2_writeTranscript_62 : decode cX2_writeTranscript 62 = .ok (.aload_n 0, 1) := by decide +kernel
theorem dX2_writeTranscript_63 : decode cX2_writeTranscript 63 = .ok (.aload_n 1, 1) := by decide +kernel
theorem dX2_writeTranscript_64 : decode cX2_writeTranscript 64 = .ok (.getfield 42, 3) := by decide +kernel
theorem dX2_writeTranscript_67 : decode cX2_writeTranscript 67 = .ok (.getfield 46, 3) := by decide +kernel
theorem dX2_writeTranscript_70 : decode cX2_writeTranscript 70 = .ok (.aload_n 1, 1) := by decide +kernel
theorem dX2_writeTranscript_71 : decode cX2_writeTranscript 71 = .ok (.getfield 51, 3) := by decide +kernel
theorem dX2_writeTranscript_74 : decode cX2_writeTranscript 74 = .ok (.iload_n 3, 1) := by decide +kernel
theorem dX2_writeTranscript_75 : decode cX2_writeTranscript 75 = .ok (.iaload, 1) := by decide +kernel
theorem dX2_writeTranscript_76 : decode cX2_writeTranscript 76 = .ok (.iaload, 1) := by decide +kernel
theorem dX2_writeTranscript_77 : decode cX2_writeTranscript 77 = .ok (.invokevirtual 54, 3) := by decide +kernel
theorem dX2_writeTranscript_80 : decode cX2_writeTranscript 80 = .ok (.iinc 3 1, 3) := by decide +kernel
theorem dX2_writeTranscript_83 : decode cX2_writeTranscript 83 = .ok (.goto (-58), 3) := by decide +kernel
theorem dX2_writeTranscript_86 : decode cX2_writeTranscript 86 = .ok (.iinc 2 1, 3) := by decide +kernel
theorem dX2_writeTranscript_89 : decode cX2_writeTranscript 89 = .ok (.goto (-82), 3) := by decide +kernel
theorem dX2_writeTranscript_92 : decode cX2_writeTranscript 92 = .ok (.return_, 1) := by decide +kernel
theorem ci_X2_writeTranscript : Cond.instanceMethod yX2_writeTranscript ∈ TW := TW_of 771 (by decide +kernel) (by decide +kernel)
theorem cs_X2_writeTranscript : Cond.selects yX2_writeTranscript.cls yX2_writeTranscript yX2_writeTranscript ∈ TW := TW_of 772 (by decide +kernel) (by decide +kernel)
abbrev cX2_putNumber : ByteArray := prog_4_method_7_code
def yX2_putNumber : MethodName := ⟨RX2, "putNumber", "(I)V"⟩
theorem dX2_putNumber_0 : decode cX2_putNumber 0 = .ok (.iconst 0, 1) := by decide +kernel
theorem dX2_putNumber_1 : decode cX2_putNumber 1 = .ok (.istore_n 2, 1) := by decide +kernel
theorem dX2_putNumber_2 : decode cX2_putNumber 2 = .ok (.iload_n 1, 1) := by decide +kernel
theorem dX2_putNumber_3 : decode cX2_putNumber 3 = .ok (.istore_n 3, 1) := by decide +kernel
theorem dX2_putNumber_4 : decode cX2_putNumber 4 = .ok (.iinc 2 1, 3) := by decide +kernel
theorem dX2_putNumber_7 : decode cX2_putNumber 7 = .ok (.iload_n 3, 1) := by decide +kernel
theorem dX2_putNumber_8 : decode cX2_putNumber 8 = .ok (.bipush 10, 2) := by decide +kernel
theorem dX2_putNumber_10 : decode cX2_putNumber 10 = .ok (.idiv, 1) := by decide +kernel
theorem dX2_putNumber_11 : decode cX2_putNumber 11 = .ok (.istore_n 3, 1) := by decide +kernel
theorem dX2_putNumber_12 : decode cX2_putNumber 12 = .ok (.iload_n 3, 1) := by decide +kernel
theorem dX2_putNumber_13 : decode cX2_putNumber 13 = .ok (.ifCond .le 8, 3) := by decide +kernel
theorem dX2_putNumber_16 : decode cX2_putNumber 16 = .ok (.iload_n 2, 1) := by decide +kernel
theorem dX2_putNumber_17 : decode cX2_putNumber 17 = .ok (.iconst 5, 1) := by decide +kernel
theorem dX2_putNumber_18 : decode cX2_putNumber 18 = .ok (.if_icmp .lt (-14), 3) := by decide +kernel
theorem dX2_putNumber_21 : decode cX2_putNumber 21 = .ok (.aload_n 0, 1) := by decide +kernel
theorem dX2_putNumber_22 : decode cX2_putNumber 22 = .ok (.getfield 15, 3) := by decide +kernel
theorem dX2_putNumber_25 : decode cX2_putNumber 25 = .ok (.iload_n 2, 1) := by decide +kernel
theorem dX2_putNumber_26 : decode cX2_putNumber 26 = .ok (.iadd, 1) := by decide +kernel
theorem dX2_putNumber_27 : decode cX2_putNumber 27 = .ok (.sipush 1000, 3) := by decide +kernel
theorem dX2_putNumber_30 : decode cX2_putNumber 30 = .ok (.invokestatic 107, 3) := by decide +kernel
theorem dX2_putNumber_33 : decode cX2_putNumber 33 = .ok (.istore 4, 2) := by decide +kernel
theorem dX2_putNumber_35 : decode cX2_putNumber 35 = .ok (.iload_n 1, 1) := by decide +kernel
theorem dX2_putNumber_36 : decode cX2_putNumber 36 = .ok (.istore_n 3, 1) := by decide +kernel
theorem dX2_putNumber_37 : decode cX2_putNumber 37 = .ok (.iload 4, 2) := by decide +kernel
theorem dX2_putNumber_39 : decode cX2_putNumber 39 = .ok (.iconst 1, 1) := by decide +kernel
theorem dX2_putNumber_40 : decode cX2_putNumber 40 = .ok (.isub, 1) := by decide +kernel
theorem dX2_putNumber_41 : decode cX2_putNumber 41 = .ok (.istore 5, 2) := by decide +kernel
theorem dX2_putNumber_43 : decode cX2_putNumber 43 = .ok (.iload 5, 2) := by decide +kernel
theorem dX2_putNumber_45 : decode cX2_putNumber 45 = .ok (.aload_n 0, 1) := by decide +kernel
theorem dX2_putNumber_46 : decode cX2_putNumber 46 = .ok (.getfield 15, 3) := by decide +kernel
theorem dX2_putNumber_49 : decode cX2_putNumber 49 = .ok (.if_icmp .lt 29, 3) := by decide +kernel
theorem dX2_putNumber_52 : decode cX2_putNumber 52 = .ok (.aload_n 0, 1) := by decide +kernel
theorem dX2_putNumber_53 : decode cX2_putNumber 53 = .ok (.getfield 11, 3) := by decide +kernel
theorem dX2_putNumber_56 : decode cX2_putNumber 56 = .ok (.iload 5, 2) := by decide +kernel
theorem dX2_putNumber_58 : decode cX2_putNumber 58 = .ok (.bipush 48, 2) := by decide +kernel
theorem dX2_putNumber_60 : decode cX2_putNumber 60 = .ok (.iload_n 3, 1) := by decide +kernel
theorem dX2_putNumber_61 : decode cX2_putNumber 61 = .ok (.bipush 10, 2) := by decide +kernel
theorem dX2_putNumber_63 : decode cX2_putNumber 63 = .ok (.irem, 1) := by decide +kernel
theorem dX2_putNumber_64 : decode cX2_putNumber 64 = .ok (.iadd, 1) := by decide +kernel
theorem dX2_putNumber_65 : decode cX2_putNumber 65 = .ok (.i2b, 1) := by decide +kernel
theorem dX2_putNumber_66 : decode cX2_putNumber 66 = .ok (.bastore, 1) := by decide +kernel
theorem dX2_putNumber_67 : decode cX2_putNumber 67 = .ok (.iload_n 3, 1) := by decide +kernel
theorem dX2_putNumber_68 : decode cX2_putNumber 68 = .ok (.bipush 10, 2) := by decide +kernel
theorem dX2_putNumber_70 : decode cX2_putNumber 70 = .ok (.idiv, 1) := by decide +kernel
theorem dX2_putNumber_71 : decode cX2_putNumber 71 = .ok (.istore_n 3, 1) := by decide +kernel
theorem dX2_putNumber_72 : decode cX2_putNumber 72 = .ok (.iinc 5 (-1), 3) := by decide +kernel
theorem dX2_putNumber_75 : decode cX2_putNumber 75 = .ok (.goto (-32), 3) := by decide +kernel
theorem dX2_putNumber_78 : decode cX2_putNumber 78 = .ok (.aload_n 0, 1) := by decide +kernel
theorem dX2_putNumber_79 : decode cX2_putNumber 79 = .ok (.iload 4, 2) := by decide +kernel
theorem dX2_putNumber_81 : decode cX2_putNumber 81 = .ok (.putfield 15, 3) := by decide +kernel
theorem dX2_putNumber_84 : decode cX2_putNumber 84 = .ok (.return_, 1) := by decide +kernel
theorem ci_X2_putNumber : Cond.instanceMethod yX2_putNumber ∈ TW := TW_of 1351 (by decide +kernel) (by decide +kernel)
theorem cs_X2_putNumber : Cond.selects yX2_putNumber.cls yX2_putNumber yX2_putNumber ∈ TW := TW_of 21 (by decide +kernel) (by decide +kernel)
abbrev cX2_writeShot : ByteArray := prog_4_method_3_code
def yX2_writeShot : MethodName := ⟨RX2, "writeShot", "(LTranscriptCutter$Film;I)V"⟩
theorem dX2_writeShot_0 : decode cX2_writeShot 0 = .ok (.aload_n 0, 1) := by decide +kernel
theorem dX2_writeShot_1 : decode cX2_writeShot 1 = .ok (.iconst 0, 1) := by decide +kernel
theorem dX2_writeShot_2 : decode cX2_writeShot 2 = .ok (.putfield 15, 3) := by decide +kernel
theorem dX2_writeShot_5 : decode cX2_writeShot 5 = .ok (.aload_n 0, 1) := by decide +kernel
theorem dX2_writeShot_6 : decode cX2_writeShot 6 = .ok (.ldc 58, 2) := by decide +kernel
theorem dX2_writeShot_8 : decode cX2_writeShot 8 = .ok (.invokevirtual 38, 3) := by decide +kernel
theorem dX2_writeShot_11 : decode cX2_writeShot 11 = .ok (.aload_n 0, 1) := by decide +kernel
theorem dX2_writeShot_12 : decode cX2_writeShot 12 = .ok (.iload_n 2, 1) := by decide +kernel
theorem dX2_writeShot_13 : decode cX2_writeShot 13 = .ok (.invokevirtual 60, 3) := by decide +kernel
theorem dX2_writeShot_16 : decode cX2_writeShot 16 = .ok (.aload_n 0, 1) := by decide +kernel
theorem dX2_writeShot_17 : decode cX2_writeShot 17 = .ok (.ldc 36, 2) := by decide +kernel
theorem dX2_writeShot_19 : decode cX2_writeShot 19 = .ok (.invokevirtual 38, 3) := by decide +kernel
theorem dX2_writeShot_22 : decode cX2_writeShot 22 = .ok (.aload_n 0, 1) := by decide +kernel
theorem dX2_writeShot_23 : decode cX2_writeShot 23 = .ok (.aload_n 1, 1) := by decide +kernel
theorem dX2_writeShot_24 : decode cX2_writeShot 24 = .ok (.getfield 63, 3) := by decide +kernel
theorem dX2_writeShot_27 : decode cX2_writeShot 27 = .ok (.iload_n 2, 1) := by decide +kernel
theorem dX2_writeShot_28 : decode cX2_writeShot 28 = .ok (.iaload, 1) := by decide +kernel
theorem dX2_writeShot_29 : decode cX2_writeShot 29 = .ok (.invokevirtual 60, 3) := by decide +kernel
theorem dX2_writeShot_32 : decode cX2_writeShot 32 = .ok (.aload_n 0, 1) := by decide +kernel
theorem dX2_writeShot_33 : decode cX2_writeShot 33 = .ok (.ldc 66, 2) := by decide +kernel
theorem dX2_writeShot_35 : decode cX2_writeShot 35 = .ok (.invokevirtual 38, 3) := by decide +kernel
theorem dX2_writeShot_38 : decode cX2_writeShot 38 = .ok (.aload_n 0, 1) := by decide +kernel
theorem dX2_writeShot_39 : decode cX2_writeShot 39 = .ok (.aload_n 1, 1) := by decide +kernel
theorem dX2_writeShot_40 : decode cX2_writeShot 40 = .ok (.getfield 68, 3) := by decide +kernel
theorem dX2_writeShot_43 : decode cX2_writeShot 43 = .ok (.iload_n 2, 1) := by decide +kernel
theorem dX2_writeShot_44 : decode cX2_writeShot 44 = .ok (.iaload, 1) := by decide +kernel
theorem dX2_writeShot_45 : decode cX2_writeShot 45 = .ok (.invokevirtual 60, 3) := by decide +kernel
theorem dX2_writeShot_48 : decode cX2_writeShot 48 = .ok (.aload_n 1, 1) := by decide +kernel
theorem dX2_writeShot_49 : decode cX2_writeShot 49 = .ok (.getfield 42, 3) := by decide +kernel
theorem dX2_writeShot_52 : decode cX2_writeShot 52 = .ok (.astore_n 3, 1) := by decide +kernel
theorem dX2_writeShot_53 : decode cX2_writeShot 53 = .ok (.aload_n 1, 1) := by decide +kernel
theorem dX2_writeShot_54 : decode cX2_writeShot 54 = .ok (.getfield 19, 3) := by decide +kernel
theorem dX2_writeShot_57 : decode cX2_writeShot 57 = .ok (.getfield 71, 3) := by decide +kernel
theorem dX2_writeShot_60 : decode cX2_writeShot 60 = .ok (.iload_n 2, 1) := by decide +kernel
theorem dX2_writeShot_61 : decode cX2_writeShot 61 = .ok (.iaload, 1) := by decide +kernel
theorem dX2_writeShot_62 : decode cX2_writeShot 62 = .ok (.istore 4, 2) := by decide +kernel
theorem dX2_writeShot_64 : decode cX2_writeShot 64 = .ok (.aload_n 3, 1) := by decide +kernel
theorem dX2_writeShot_65 : decode cX2_writeShot 65 = .ok (.getfield 74, 3) := by decide +kernel
theorem dX2_writeShot_68 : decode cX2_writeShot 68 = .ok (.iload 4, 2) := by decide +kernel
theorem dX2_writeShot_70 : decode cX2_writeShot 70 = .ok (.iaload, 1) := by decide +kernel
theorem dX2_writeShot_71 : decode cX2_writeShot 71 = .ok (.istore 5, 2) := by decide +kernel
theorem dX2_writeShot_73 : decode cX2_writeShot 73 = .ok (.iload 5, 2) := by decide +kernel
theorem dX2_writeShot_75 : decode cX2_writeShot 75 = .ok (.aload_n 3, 1) := by decide +kernel
theorem dX2_writeShot_76 : decode cX2_writeShot 76 = .ok (.getfield 74, 3) := by decide +kernel
theorem dX2_writeShot_79 : decode cX2_writeShot 79 = .ok (.iload 4, 2) := by decide +kernel
theorem dX2_writeShot_81 : decode cX2_writeShot 81 = .ok (.iconst 1, 1) := by decide +kernel
theorem dX2_writeShot_82 : decode cX2_writeShot 82 = .ok (.iadd, 1) := by decide +kernel
theorem dX2_writeShot_83 : decode cX2_writeShot 83 = .ok (.iaload, 1) := by decide +kernel
theorem dX2_writeShot_84 : decode cX2_writeShot 84 = .ok (.if_icmp .ge 90, 3) := by decide +kernel
theorem dX2_writeShot_87 : decode cX2_writeShot 87 = .ok (.aload_n 0, 1) := by decide +kernel
theorem dX2_writeShot_88 : decode cX2_writeShot 88 = .ok (.ldc 36, 2) := by decide +kernel
theorem dX2_writeShot_90 : decode cX2_writeShot 90 = .ok (.invokevirtual 38, 3) := by decide +kernel
theorem dX2_writeShot_93 : decode cX2_writeShot 93 = .ok (.aload_n 0, 1) := by decide +kernel
theorem dX2_writeShot_94 : decode cX2_writeShot 94 = .ok (.aload_n 3, 1) := by decide +kernel
theorem dX2_writeShot_95 : decode cX2_writeShot 95 = .ok (.getfield 77, 3) := by decide +kernel
theorem dX2_writeShot_98 : decode cX2_writeShot 98 = .ok (.aload_n 3, 1) := by decide +kernel
theorem dX2_writeShot_99 : decode cX2_writeShot 99 = .ok (.getfield 80, 3) := by decide +kernel
theorem dX2_writeShot_102 : decode cX2_writeShot 102 = .ok (.iload 5, 2) := by decide +kernel
theorem dX2_writeShot_104 : decode cX2_writeShot 104 = .ok (.iaload, 1) := by decide +kernel
theorem dX2_writeShot_105 : decode cX2_writeShot 105 = .ok (.iaload, 1) := by decide +kernel
theorem dX2_writeShot_106 : decode cX2_writeShot 106 = .ok (.invokevirtual 54, 3) := by decide +kernel
theorem dX2_writeShot_109 : decode cX2_writeShot 109 = .ok (.aload_n 0, 1) := by decide +kernel
theorem dX2_writeShot_110 : decode cX2_writeShot 110 = .ok (.aload_n 1, 1) := by decide +kernel
theorem dX2_writeShot_111 : decode cX2_writeShot 111 = .ok (.getfield 19, 3) := by decide +kernel
theorem dX2_writeShot_114 : decode cX2_writeShot 114 = .ok (.getfield 83, 3) := by decide +kernel
theorem dX2_writeShot_117 : decode cX2_writeShot 117 = .ok (.iload 5, 2) := by decide +kernel
theorem dX2_writeShot_119 : decode cX2_writeShot 119 = .ok (.baload, 1) := by decide +kernel
theorem dX2_writeShot_120 : decode cX2_writeShot 120 = .ok (.ifCond .eq 8, 3) := by decide +kernel
theorem dX2_writeShot_123 : decode cX2_writeShot 123 = .ok (.ldc 87, 2) := by decide +kernel
theorem dX2_writeShot_125 : decode cX2_writeShot 125 = .ok (.goto 5, 3) := by decide +kernel
theorem dX2_writeShot_128 : decode cX2_writeShot 128 = .ok (.ldc 89, 2) := by decide +kernel
theorem dX2_writeShot_130 : decode cX2_writeShot 130 = .ok (.invokevirtual 38, 3) := by decide +kernel
theorem dX2_writeShot_133 : decode cX2_writeShot 133 = .ok (.aload_n 0, 1) := by decide +kernel
theorem dX2_writeShot_134 : decode cX2_writeShot 134 = .ok (.aload_n 3, 1) := by decide +kernel
theorem dX2_writeShot_135 : decode cX2_writeShot 135 = .ok (.getfield 46, 3) := by decide +kernel
theorem dX2_writeShot_138 : decode cX2_writeShot 138 = .ok (.iload 5, 2) := by decide +kernel
theorem dX2_writeShot_140 : decode cX2_writeShot 140 = .ok (.iaload, 1) := by decide +kernel
theorem dX2_writeShot_141 : decode cX2_writeShot 141 = .ok (.invokevirtual 54, 3) := by decide +kernel
theorem dX2_writeShot_144 : decode cX2_writeShot 144 = .ok (.aload_n 0, 1) := by decide +kernel
theorem dX2_writeShot_145 : decode cX2_writeShot 145 = .ok (.aload_n 1, 1) := by decide +kernel
theorem dX2_writeShot_146 : decode cX2_writeShot 146 = .ok (.getfield 19, 3) := by decide +kernel
theorem dX2_writeShot_149 : decode cX2_writeShot 149 = .ok (.getfield 83, 3) := by decide +kernel
theorem dX2_writeShot_152 : decode cX2_writeShot 152 = .ok (.iload 5, 2) := by decide +kernel
theorem dX2_writeShot_154 : decode cX2_writeShot 154 = .ok (.baload, 1) := by decide +kernel
theorem dX2_writeShot_155 : decode cX2_writeShot 155 = .ok (.ifCond .eq 8, 3) := by decide +kernel
theorem dX2_writeShot_158 : decode cX2_writeShot 158 = .ok (.ldc 91, 2) := by decide +kernel
theorem dX2_writeShot_160 : decode cX2_writeShot 160 = .ok (.goto 5, 3) := by decide +kernel
theorem dX2_writeShot_163 : decode cX2_writeShot 163 = .ok (.ldc 93, 2) := by decide +kernel
theorem dX2_writeShot_165 : decode cX2_writeShot 165 = .ok (.invokevirtual 38, 3) := by decide +kernel
theorem dX2_writeShot_168 : decode cX2_writeShot 168 = .ok (.iinc 5 1, 3) := by decide +kernel
theorem dX2_writeShot_171 : decode cX2_writeShot 171 = .ok (.goto (-98), 3) := by decide +kernel
theorem dX2_writeShot_174 : decode cX2_writeShot 174 = .ok (.return_, 1) := by decide +kernel
theorem ci_X2_writeShot : Cond.instanceMethod yX2_writeShot ∈ TW := TW_of 1345 (by decide +kernel) (by decide +kernel)
theorem cs_X2_writeShot : Cond.selects yX2_writeShot.cls yX2_writeShot yX2_writeShot ∈ TW := TW_of 1346 (by decide +kernel) (by decide +kernel)
theorem cw_X2_104 : CWd RX2 104 yX2_putByte cX2_putByte 2 none 1 := ⟨TW_of 828 (by decide +kernel) (by decide +kernel), TW_of 831 (by decide +kernel) (by decide +kernel), TW_of 111 (by decide +kernel) (by decide +kernel), by decide +kernel⟩
theorem cw_X2_38 : CWd RX2 38 yX2_putText cX2_putText 3 none 1 := ⟨TW_of 776 (by decide +kernel) (by decide +kernel), TW_of 779 (by decide +kernel) (by decide +kernel), TW_of 111 (by decide +kernel) (by decide +kernel), by decide +kernel⟩
theorem cw_X2_54 : CWd RX2 54 yX2_putName cX2_putName 4 none 1 := ⟨TW_of 832 (by decide +kernel) (by decide +kernel), TW_of 835 (by decide +kernel) (by decide +kernel), TW_of 111 (by decide +kernel) (by decide +kernel), by decide +kernel⟩
theorem ml_X2_107 : Cond.methodLink RX2 107 Lib.Math.min.name ∈ TW := TW_of 1353 (by decide +kernel) (by decide +kernel)
theorem cw_X2_60 : CWd RX2 60 yX2_putNumber cX2_putNumber 6 none 1 := ⟨TW_of 1349 (by decide +kernel) (by decide +kernel), TW_of 1352 (by decide +kernel) (by decide +kernel), TW_of 111 (by decide +kernel) (by decide +kernel), by decide +kernel⟩
set_option maxRecDepth 20000 in
set_option maxHeartbeats 1000000 in
theorem c_X2_putByte {l : Launch} {Z : ZT} {g : Hp} {h : Hp} {p1 : Int32} {out : Hp} (hf : f_X2_putByte h p1 = some out) : Met l yX2_putByte (wY yX2_putByte cX2_putByte 2 none) (rmD 0) (va_Pc [.ref (Z.1 16), .int p1] (Wd Z h g)) (va_Qv (fun (_ : Unit) => True) (fun _ => Wd Z out g) (FR Z)) 0 0 (FR Z) := by
  refine metX RX2 rfl (by decide +kernel) (Nat.le_of_ble_eq_true rfl) ?_
  intro p e s m args below meth c C hW ls hl
  have hl : lv_has ls 2 [(0, .ref (Z.1 16)), (1, .int p1)] := hl
  unfold f_X2_putByte at hf
  refine lv_aload_n C.1 C.2.1 dX2_putByte_0 rfl (lv_at hl 0 rfl) ?_
  refine xg_X2_15 C hW (k_16) dX2_putByte_1 ?_
  refine lv_sipush (v := 1000) C.1 C.2.1 dX2_putByte_4 (by decide) ?_
  refine x_cmpge (tgt := 31) C hf dX2_putByte_7 (by decide) (fun hf => ?_) (fun hf => ?_)
  · obtain rfl := Option.some.inj hf
    exact x_vret C hW dX2_putByte_31 trivial
  · refine lv_aload_n C.1 C.2.1 dX2_putByte_10 rfl (lv_at hl 0 rfl) ?_
    refine xg_X2_11 C hW (k_16) dX2_putByte_11 ?_
    refine lv_aload_n C.1 C.2.1 dX2_putByte_14 rfl (lv_at hl 0 rfl) ?_
    refine xg_X2_15 C hW (k_16) dX2_putByte_15 ?_
    refine lv_iload_n C.1 C.2.1 dX2_putByte_18 rfl (lv_at hl 1 rfl) ?_
    refine lv_i2b (v := i2b p1) C.1 C.2.1 dX2_putByte_19 rfl ?_
    refine x_bastC C hW a_17 hf dX2_putByte_20 (fun h1 H locs hf hW => ?_)
    refine lv_aload_n C.1 C.2.1 dX2_putByte_21 rfl (lv_at hl 0 rfl) ?_
    refine lv_dup C.1 C.2.1 dX2_putByte_22 rfl ?_
    refine xg_X2_15 C hW (k_16) dX2_putByte_23 ?_
    refine lv_iconst (v := 1) C.1 C.2.1 dX2_putByte_26 (by decide) ?_
    refine lv_iadd C.1 C.2.1 dX2_putByte_27 ?_
    refine xp_X2_15 C hW (k_16) hf dX2_putByte_28 (fun h2 H locs hf hW => ?_)
    obtain rfl := Option.some.inj hf
    exact x_vret C hW dX2_putByte_31 trivial
set_option maxRecDepth 20000 in
set_option maxHeartbeats 1000000 in
theorem j_X2_putName_28 {l : Launch} {Z : ZT} {g : Hp} {p1 : Int32} {h : Hp} {r3 : Int32 × Hp → Option (Hp)} {x2 : Int32} {p : Program} {e : Env} {s : State} {m : MethodId} {args : Array Value} {below : List Frame} {meth : Method} {c : Code} (C : CX p s m args meth c cX2_putName RX2 4 none Z) {out : Hp} (hr3 : ∀ (x2 : Int32) (h : Hp) (ls : Array Slot) (H : Heap) (locs : List Loc), XW Z h g s.heap H locs → lv_has ls 4 [(0, .ref (Z.1 16)), (1, .int p1), (2, .int x2)] → r3 (x2, h) = some out → W p l e (rmD 1) s m args below meth c H locs 0 0 (MQ below (va_Qv (fun (_ : Unit) => True) (fun _ => Wd Z out g) (FR Z)) args s 0 0 (FR Z)) (F0 m 3 ls [])) {ls : Array Slot} {H : Heap} {locs : List Loc} (hW : XW Z h g s.heap H locs) (hl : lv_has ls 4 [(0, .ref (Z.1 16)), (1, .int p1), (2, .int x2)]) (hf : J_X2_putName_28 p1 h r3 x2 = some out) : W p l e (rmD 1) s m args below meth c H locs 0 0 (MQ below (va_Qv (fun (_ : Unit) => True) (fun _ => Wd Z out g) (FR Z)) args s 0 0 (FR Z)) (F0 m 28 ls []) := by
  rw [J_X2_putName_28] at hf
  refine x_iinc (w := -5) C hf dX2_putName_28 hl (k := 2) rfl (by decide) (by decide) (fun v1 => [(2, .int v1), (0, .ref (Z.1 16)), (1, .int p1)]) (fun _ => rfl) (fun v1 ls hf hl => ?_)
  refine lv_goto (tgt := 3) C.1 C.2.1 dX2_putName_31 (by decide) ?_
  exact hr3 v1 h ls _ _ hW (lv_sub hl [1, 2, 0] rfl) hf
set_option maxRecDepth 20000 in
set_option maxHeartbeats 1000000 in
theorem l_X2_putName_3 {l : Launch} {Z : ZT} {g : Hp} {p1 : Int32} {p : Program} {e : Env} {s : State} {m : MethodId} {args : Array Value} {below : List Frame} {meth : Method} {c : Code} (C : CX p s m args meth c cX2_putName RX2 4 none Z) {out : Hp} : ∀ (n : Nat) (x2 : Int32) (h : Hp) (ls : Array Slot) (H : Heap) (locs : List Loc), XW Z h g s.heap H locs → lv_has ls 4 [(0, .ref (Z.1 16)), (1, .int p1), (2, .int x2)] → Lp (F_X2_putName_3 p1) n (x2, h) = some out → W p l e (rmD 1) s m args below meth c H locs 0 0 (MQ below (va_Qv (fun (_ : Unit) => True) (fun _ => Wd Z out g) (FR Z)) args s 0 0 (FR Z)) (F0 m 3 ls []) := by
  intro n
  induction n with
  | zero => intro x2 h ls H locs hW hl hf; cases hf
  | succ n ih =>
    intro x2 h ls H locs hW hl hf
    rw [Lp_s] at hf
    refine lv_iload_n C.1 C.2.1 dX2_putName_3 rfl (lv_at hl 2 rfl) ?_
    refine x_iflt (tgt := 34) C hf dX2_putName_4 (by decide) (fun hf => ?_) (fun hf => ?_)
    · obtain rfl := Option.some.inj hf
      exact x_vret C hW dX2_putName_34 trivial
    · refine lv_iload_n C.1 C.2.1 dX2_putName_7 rfl (lv_at hl 1 rfl) ?_
      refine lv_iload_n C.1 C.2.1 dX2_putName_8 rfl (lv_at hl 2 rfl) ?_
      refine lv_ishr C.1 C.2.1 dX2_putName_9 ?_
      refine lv_bipush (v := 31) C.1 C.2.1 dX2_putName_10 (by decide) ?_
      refine lv_iand C.1 C.2.1 dX2_putName_12 ?_
      refine x_istn C hf dX2_putName_13 rfl hl (by decide) (fun v2 => [(3, .int v2), (0, .ref (Z.1 16)), (1, .int p1), (2, .int x2)]) (fun _ => rfl) (fun v2 ls hf hl => ?_)
      refine lv_iload_n C.1 C.2.1 dX2_putName_14 rfl (lv_at hl 0 rfl) ?_
      refine x_ifeq (tgt := 28) C hf dX2_putName_15 (by decide) (fun hf => ?_) (fun hf => ?_)
      · exact j_X2_putName_28 C (fun z0 z1 => ih z0 z1) hW (lv_sub hl [1, 2, 3] rfl) hf
      · refine lv_aload_n C.1 C.2.1 dX2_putName_18 rfl (lv_at hl 1 rfl) ?_
        refine lv_bipush (v := 97) C.1 C.2.1 dX2_putName_19 (by decide) ?_
        refine lv_iload_n C.1 C.2.1 dX2_putName_21 rfl (lv_at hl 0 rfl) ?_
        refine lv_iadd C.1 C.2.1 dX2_putName_22 ?_
        refine lv_iconst (v := 1) C.1 C.2.1 dX2_putName_23 (by decide) ?_
        refine lv_isub C.1 C.2.1 dX2_putName_24 ?_
        obtain ⟨u3, hcu3, hf⟩ := bnd_t hf
        refine x_callv hW (x_runV C hW hl (wk2 (k_16)) rfl rfl (c_X2_putByte hcu3) (cw_X2_104) ci_X2_putByte cs_X2_putByte (rm_ok (by decide) (by decide)) ⟨Nat.le_refl _, Nat.le_refl _⟩ (As := [.int (((97 : Int32) + v2) - (1 : Int32))]) rfl rfl (Nat.le_of_ble_eq_true rfl) dX2_putName_25) (fun H locs hW => ?_)
        exact j_X2_putName_28 C (fun z0 z1 => ih z0 z1) hW (lv_sub hl [1, 2, 3] rfl) hf
set_option maxRecDepth 20000 in
set_option maxHeartbeats 1000000 in
theorem c_X2_putName {l : Launch} {Z : ZT} {g : Hp} {h : Hp} {p1 : Int32} {out : Hp} (hf : f_X2_putName h p1 = some out) : Met l yX2_putName (wY yX2_putName cX2_putName 4 none) (rmD 1) (va_Pc [.ref (Z.1 16), .int p1] (Wd Z h g)) (va_Qv (fun (_ : Unit) => True) (fun _ => Wd Z out g) (FR Z)) 0 0 (FR Z) := by
  refine metX RX2 rfl (by decide +kernel) (Nat.le_of_ble_eq_true rfl) ?_
  intro p e s m args below meth c C hW ls hl
  have hl : lv_has ls 4 [(0, .ref (Z.1 16)), (1, .int p1)] := hl
  unfold f_X2_putName at hf
  refine lv_bipush (v := 25) C.1 C.2.1 dX2_putName_0 (by decide) ?_
  refine lv_istore_n (lv' := [(2, .int (25 : Int32)), (0, .ref (Z.1 16)), (1, .int p1)]) C.1 C.2.1 dX2_putName_2 rfl hl (by decide) rfl (fun ls hl => ?_)
  exact l_X2_putName_3 C FU (25 : Int32) h ls _ _ hW (lv_sub hl [1, 2, 0] rfl) hf
set_option maxRecDepth 20000 in
set_option maxHeartbeats 1000000 in
theorem l_X2_putText_2 {l : Launch} {Z : ZT} {g : Hp} {p1 : Nat} (hk_p1 : p1 < NS) {p : Program} {e : Env} {s : State} {m : MethodId} {args : Array Value} {below : List Frame} {meth : Method} {c : Code} (C : CX p s m args meth c cX2_putText RX2 3 none Z) {out : Hp} : ∀ (n : Nat) (x2 : Int32) (h : Hp) (ls : Array Slot) (H : Heap) (locs : List Loc), XW Z h g s.heap H locs → lv_has ls 3 [(0, .ref (Z.1 16)), (1, .ref (Z.2.2.2.2 (2 * p1))), (2, .int x2)] → Lp (F_X2_putText_2 p1) n (x2, h) = some out → W p l e (rmD 8) s m args below meth c H locs 0 0 (MQ below (va_Qv (fun (_ : Unit) => True) (fun _ => Wd Z out g) (FR Z)) args s 0 0 (FR Z)) (F0 m 2 ls []) := by
  intro n
  induction n with
  | zero => intro x2 h ls H locs hW hl hf; cases hf
  | succ n ih =>
    intro x2 h ls H locs hW hl hf
    rw [Lp_s] at hf
    refine lv_iload_n C.1 C.2.1 dX2_putText_2 rfl (lv_at hl 2 rfl) ?_
    refine lv_aload_n C.1 C.2.1 dX2_putText_3 rfl (lv_at hl 1 rfl) ?_
    refine x_calli hW (x_runT C hW hl hk_p1 rfl (c_length hk_p1) cw_X2_95 tin_length tse_length (rm_ok (by decide) (by decide)) ⟨Nat.le_refl _, Nat.le_refl _⟩ (As := []) rfl rfl (Nat.le_of_ble_eq_true rfl) dX2_putText_4) (fun H locs hW => ?_)
    refine x_cmpge (tgt := 25) C hf dX2_putText_7 (by decide) (fun hf => ?_) (fun hf => ?_)
    · obtain rfl := Option.some.inj hf
      exact x_vret C hW dX2_putText_25 trivial
    · refine lv_aload_n C.1 C.2.1 dX2_putText_10 rfl (lv_at hl 0 rfl) ?_
      refine lv_aload_n C.1 C.2.1 dX2_putText_11 rfl (lv_at hl 1 rfl) ?_
      refine lv_iload_n C.1 C.2.1 dX2_putText_12 rfl (lv_at hl 2 rfl) ?_
      obtain ⟨hx, hf⟩ := ck_t hf
      refine x_calli hW (x_runT C hW hl hk_p1 rfl (c_charAtX hk_p1 hx) cw_X2_100 tin_charAt tse_charAt (rm_ok (by decide) (by decide)) ⟨Nat.le_refl _, Nat.le_refl _⟩ (As := [.int x2]) rfl rfl (Nat.le_of_ble_eq_true rfl) dX2_putText_13) (fun H locs hW => ?_)
      obtain ⟨u1, hcu1, hf⟩ := bnd_t hf
      refine x_callv hW (x_runV C hW hl (wk2 (k_16)) rfl rfl (c_X2_putByte hcu1) (cw_X2_104) ci_X2_putByte cs_X2_putByte (rm_ok (by decide) (by decide)) ⟨Nat.le_refl _, Nat.le_refl _⟩ (As := [.int (tb p1 (ix x2))]) rfl rfl (Nat.le_of_ble_eq_true rfl) dX2_putText_16) (fun H locs hW => ?_)
      refine x_iinc (w := 1) C hf dX2_putText_19 hl (k := 2) rfl (by decide) (by decide) (fun v2 => [(2, .int v2), (0, .ref (Z.1 16)), (1, .ref (Z.2.2.2.2 (2 * p1)))]) (fun _ => rfl) (fun v2 ls hf hl => ?_)
      refine lv_goto (tgt := 2) C.1 C.2.1 dX2_putText_22 (by decide) ?_
      exact ih v2 u1 ls _ _ hW (lv_sub hl [1, 2, 0] rfl) hf
set_option maxRecDepth 20000 in
set_option maxHeartbeats 1000000 in
theorem c_X2_putText {l : Launch} {Z : ZT} {g : Hp} {h : Hp} {p1 : Nat} (hk_p1 : p1 < NS) {out : Hp} (hf : f_X2_putText h p1 = some out) : Met l yX2_putText (wY yX2_putText cX2_putText 3 none) (rmD 8) (va_Pc [.ref (Z.1 16), .ref (Z.2.2.2.2 (2 * p1))] (Wd Z h g)) (va_Qv (fun (_ : Unit) => True) (fun _ => Wd Z out g) (FR Z)) 0 0 (FR Z) := by
  refine metX RX2 rfl (by decide +kernel) (Nat.le_of_ble_eq_true rfl) ?_
  intro p e s m args below meth c C hW ls hl
  have hl : lv_has ls 3 [(0, .ref (Z.1 16)), (1, .ref (Z.2.2.2.2 (2 * p1)))] := hl
  unfold f_X2_putText at hf
  refine lv_iconst (v := 0) C.1 C.2.1 dX2_putText_0 (by decide) ?_
  refine lv_istore_n (lv' := [(2, .int (0 : Int32)), (0, .ref (Z.1 16)), (1, .ref (Z.2.2.2.2 (2 * p1)))]) C.1 C.2.1 dX2_putText_1 rfl hl (by decide) rfl (fun ls hl => ?_)
  exact l_X2_putText_2 hk_p1 C FU (0 : Int32) h ls _ _ hW (lv_sub hl [1, 2, 0] rfl) hf
set_option maxRecDepth 20000 in
set_option maxHeartbeats 1000000 in
theorem j_X2_writeTranscript_86 {l : Launch} {Z : ZT} {g : Hp} {h : Hp} {r7 : Int32 × Hp → Option (Hp)} {x2 : Int32} {p : Program} {e : Env} {s : State} {m : MethodId} {args : Array Value} {below : List Frame} {meth : Method} {c : Code} (C : CX p s m args meth c cX2_writeTranscript RX2 4 none Z) {out : Hp} (hr7 : ∀ (x2 : Int32) (h : Hp) (ls : Array Slot) (H : Heap) (locs : List Loc), XW Z h g s.heap H locs → lv_has ls 4 [(0, .ref (Z.1 16)), (1, .ref (Z.1 3)), (2, .int x2)] → r7 (x2, h) = some out → W p l e (rmD 9) s m args below meth c H locs 0 0 (MQ below (va_Qv (fun (_ : Unit) => True) (fun _ => Wd Z out g) (FR Z)) args s 0 0 (FR Z)) (F0 m 7 ls [])) {ls : Array Slot} {H : Heap} {locs : List Loc} (hW : XW Z h g s.heap H locs) (hl : lv_has ls 4 [(0, .ref (Z.1 16)), (1, .ref (Z.1 3)), (2, .int x2)]) (hf : J_X2_writeTranscript_86 h r7 x2 = some out) : W p l e (rmD 9) s m args below meth c H locs 0 0 (MQ below (va_Qv (fun (_ : Unit) => True) (fun _ => Wd Z out g) (FR Z)) args s 0 0 (FR Z)) (F0 m 86 ls []) := by
  rw [J_X2_writeTranscript_86] at hf
  refine x_iinc (w := 1) C hf dX2_writeTranscript_86 hl (k := 2) rfl (by decide) (by decide) (fun v1 => [(2, .int v1), (0, .ref (Z.1 16)), (1, .ref (Z.1 3))]) (fun _ => rfl) (fun v1 ls hf hl => ?_)
  refine lv_goto (tgt := 7) C.1 C.2.1 dX2_writeTranscript_89 (by decide) ?_
  exact hr7 v1 h ls _ _ hW (lv_sub hl [1, 2, 0] rfl) hf
set_option maxRecDepth 20000 in
set_option maxHeartbeats 1000000 in
theorem j_X2_writeTranscript_62 {l : Launch} {Z : ZT} {g : Hp} {h : Hp} {r7 : Int32 × Hp → Option (Hp)} {r25 : Int32 × Hp → Option (Hp)} {x2 : Int32} {x3 : Int32} {p : Program} {e : Env} {s : State} {m : MethodId} {args : Array Value} {below : List Frame} {meth : Method} {c : Code} (C : CX p s m args meth c cX2_writeTranscript RX2 4 none Z) {out : Hp} (hr7 : ∀ (x2 : Int32) (h : Hp) (ls : Array Slot) (H : Heap) (locs : List Loc), XW Z h g s.heap H locs → lv_has ls 4 [(0, .ref (Z.1 16)), (1, .ref (Z.1 3)), (2, .int x2)] → r7 (x2, h) = some out → W p l e (rmD 9) s m args below meth c H locs 0 0 (MQ below (va_Qv (fun (_ : Unit) => True) (fun _ => Wd Z out g) (FR Z)) args s 0 0 (FR Z)) (F0 m 7 ls [])) (hr25 : ∀ (x3 : Int32) (h : Hp) (ls : Array Slot) (H : Heap) (locs : List Loc), XW Z h g s.heap H locs → lv_has ls 4 [(0, .ref (Z.1 16)), (1, .ref (Z.1 3)), (2, .int x2), (3, .int x3)] → r25 (x3, h) = some out → W p l e (rmD 9) s m args below meth c H locs 0 0 (MQ below (va_Qv (fun (_ : Unit) => True) (fun _ => Wd Z out g) (FR Z)) args s 0 0 (FR Z)) (F0 m 25 ls [])) {ls : Array Slot} {H : Heap} {locs : List Loc} (hW : XW Z h g s.heap H locs) (hl : lv_has ls 4 [(0, .ref (Z.1 16)), (1, .ref (Z.1 3)), (2, .int x2), (3, .int x3)]) (hf : J_X2_writeTranscript_62 h r7 r25 x2 x3 = some out) : W p l e (rmD 9) s m args below meth c H locs 0 0 (MQ below (va_Qv (fun (_ : Unit) => True) (fun _ => Wd Z out g) (FR Z)) args s 0 0 (FR Z)) (F0 m 62 ls []) := by
  rw [J_X2_writeTranscript_62] at hf
  refine lv_aload_n C.1 C.2.1 dX2_writeTranscript_62 rfl (lv_at hl 0 rfl) ?_
  refine lv_aload_n C.1 C.2.1 dX2_writeTranscript_63 rfl (lv_at hl 1 rfl) ?_
  refine xg_X2_42 C hW (k_3) hf dX2_writeTranscript_64 (fun q2 hk_q2 hf => ?_)
  refine xg_X2_46 C hW hk_q2 dX2_writeTranscript_67 ?_
  refine lv_aload_n C.1 C.2.1 dX2_writeTranscript_70 rfl (lv_at hl 1 rfl) ?_
  refine xg_X2_51 C hW (k_3) dX2_writeTranscript_71 ?_
  refine lv_iload_n C.1 C.2.1 dX2_writeTranscript_74 rfl (lv_at hl 3 rfl) ?_
  refine x_ialdC C hW a_9 hf dX2_writeTranscript_75 (fun hf => ?_)
  refine x_ialdC C hW (o_X4_5 hk_q2) hf dX2_writeTranscript_76 (fun hf => ?_)
  obtain ⟨u3, hcu3, hf⟩ := bnd_t hf
  refine x_callv hW (x_runV C hW hl (wk2 (k_16)) rfl rfl (c_X2_putName hcu3) (cw_X2_54) ci_X2_putName cs_X2_putName (rm_ok (by decide) (by decide)) ⟨Nat.le_refl _, Nat.le_refl _⟩ (As := [.int (h (q2 + 2) (ix (h 9 (ix x3))))]) rfl rfl (Nat.le_of_ble_eq_true rfl) dX2_writeTranscript_77) (fun H locs hW => ?_)
  refine x_iinc (w := 1) C hf dX2_writeTranscript_80 hl (k := 3) rfl (by decide) (by decide) (fun v4 => [(3, .int v4), (0, .ref (Z.1 16)), (1, .ref (Z.1 3)), (2, .int x2)]) (fun _ => rfl) (fun v4 ls hf hl => ?_)
  refine lv_goto (tgt := 25) C.1 C.2.1 dX2_writeTranscript_83 (by decide) ?_
  exact hr25 v4 u3 ls _ _ hW (lv_sub hl [1, 2, 3, 0] rfl) hf
set_option maxRecDepth 20000 in
set_option maxHeartbeats 1000000 in
theorem j_X2_writeTranscript_59 {l : Launch} {Z : ZT} {g : Hp} {h : Hp} {r7 : Int32 × Hp → Option (Hp)} {r25 : Int32 × Hp → Option (Hp)} {x2 : Int32} {x3 : Int32} {s1 : Nat} (hk_s1 : s1 < NS) {p : Program} {e : Env} {s : State} {m : MethodId} {args : Array Value} {below : List Frame} {meth : Method} {c : Code} (C : CX p s m args meth c cX2_writeTranscript RX2 4 none Z) {out : Hp} (hr7 : ∀ (x2 : Int32) (h : Hp) (ls : Array Slot) (H : Heap) (locs : List Loc), XW Z h g s.heap H locs → lv_has ls 4 [(0, .ref (Z.1 16)), (1, .ref (Z.1 3)), (2, .int x2)] → r7 (x2, h) = some out → W p l e (rmD 9) s m args below meth c H locs 0 0 (MQ below (va_Qv (fun (_ : Unit) => True) (fun _ => Wd Z out g) (FR Z)) args s 0 0 (FR Z)) (F0 m 7 ls [])) (hr25 : ∀ (x3 : Int32) (h : Hp) (ls : Array Slot) (H : Heap) (locs : List Loc), XW Z h g s.heap H locs → lv_has ls 4 [(0, .ref (Z.1 16)), (1, .ref (Z.1 3)), (2, .int x2), (3, .int x3)] → r25 (x3, h) = some out → W p l e (rmD 9) s m args below meth c H locs 0 0 (MQ below (va_Qv (fun (_ : Unit) => True) (fun _ => Wd Z out g) (FR Z)) args s 0 0 (FR Z)) (F0 m 25 ls [])) {ls : Array Slot} {H : Heap} {locs : List Loc} (hW : XW Z h g s.heap H locs) (hl : lv_has ls 4 [(0, .ref (Z.1 16)), (1, .ref (Z.1 3)), (2, .int x2), (3, .int x3)]) (hf : J_X2_writeTranscript_59 h r7 r25 x2 x3 s1 = some out) : W p l e (rmD 9) s m args below meth c H locs 0 0 (MQ below (va_Qv (fun (_ : Unit) => True) (fun _ => Wd Z out g) (FR Z)) args s 0 0 (FR Z)) (F0 m 59 ls [.ref (Z.2.2.2.2 (2 * s1)), .ref (Z.1 16)]) := by
  rw [J_X2_writeTranscript_59] at hf
  obtain ⟨u5, hcu5, hf⟩ := bnd_t hf
  refine x_callv hW (x_runV C hW hl (wk2 (k_16)) rfl rfl (c_X2_putText hk_s1 hcu5) (cw_X2_38) ci_X2_putText cs_X2_putText (rm_ok (by decide) (by decide)) ⟨Nat.le_refl _, Nat.le_refl _⟩ (As := [.ref (Z.2.2.2.2 (2 * s1))]) rfl rfl (Nat.le_of_ble_eq_true rfl) dX2_writeTranscript_59) (fun H locs hW => ?_)
  exact j_X2_writeTranscript_62 C hr7 hr25 hW (lv_sub hl [0, 1, 2, 3] rfl) hf
set_option maxRecDepth 20000 in
set_option maxHeartbeats 1000000 in
theorem l_X2_writeTranscript_25 {l : Launch} {Z : ZT} {g : Hp} {r7 : Int32 × Hp → Option (Hp)} {x2 : Int32} {p : Program} {e : Env} {s : State} {m : MethodId} {args : Array Value} {below : List Frame} {meth : Method} {c : Code} (C : CX p s m args meth c cX2_writeTranscript RX2 4 none Z) {out : Hp} (hr7 : ∀ (x2 : Int32) (h : Hp) (ls : Array Slot) (H : Heap) (locs : List Loc), XW Z h g s.heap H locs → lv_has ls 4 [(0, .ref (Z.1 16)), (1, .ref (Z.1 3)), (2, .int x2)] → r7 (x2, h) = some out → W p l e (rmD 9) s m args below meth c H locs 0 0 (MQ below (va_Qv (fun (_ : Unit) => True) (fun _ => Wd Z out g) (FR Z)) args s 0 0 (FR Z)) (F0 m 7 ls [])) : ∀ (n : Nat) (x3 : Int32) (h : Hp) (ls : Array Slot) (H : Heap) (locs : List Loc), XW Z h g s.heap H locs → lv_has ls 4 [(0, .ref (Z.1 16)), (1, .ref (Z.1 3)), (2, .int x2), (3, .int x3)] → Lp (F_X2_writeTranscript_25 r7 x2) n (x3, h) = some out → W p l e (rmD 9) s m args below meth c H locs 0 0 (MQ below (va_Qv (fun (_ : Unit) => True) (fun _ => Wd Z out g) (FR Z)) args s 0 0 (FR Z)) (F0 m 25 ls []) := by
  intro n
  induction n with
  | zero => intro x3 h ls H locs hW hl hf; cases hf
  | succ n ih =>
    intro x3 h ls H locs hW hl hf
    rw [Lp_s] at hf
    refine lv_iload_n C.1 C.2.1 dX2_writeTranscript_25 rfl (lv_at hl 3 rfl) ?_
    refine lv_aload_n C.1 C.2.1 dX2_writeTranscript_26 rfl (lv_at hl 1 rfl) ?_
    refine xg_X2_30 C hW (k_3) dX2_writeTranscript_27 ?_
    refine lv_iload_n C.1 C.2.1 dX2_writeTranscript_30 rfl (lv_at hl 2 rfl) ?_
    refine lv_iconst (v := 1) C.1 C.2.1 dX2_writeTranscript_31 (by decide) ?_
    refine lv_iadd C.1 C.2.1 dX2_writeTranscript_32 ?_
    refine x_ialdC C hW a_7 hf dX2_writeTranscript_33 (fun hf => ?_)
    refine x_cmpge (tgt := 86) C hf dX2_writeTranscript_34 (by decide) (fun hf => ?_) (fun hf => ?_)
    · exact j_X2_writeTranscript_86 C hr7 hW (lv_sub hl [0, 1, 2] rfl) hf
    · refine lv_iload_n C.1 C.2.1 dX2_writeTranscript_37 rfl (lv_at hl 3 rfl) ?_
      refine x_ifle (tgt := 62) C hf dX2_writeTranscript_38 (by decide) (fun hf => ?_) (fun hf => ?_)
      · exact j_X2_writeTranscript_62 C hr7 (fun z0 z1 => ih z0 z1) hW (lv_sub hl [0, 1, 2, 3] rfl) hf
      · refine lv_aload_n C.1 C.2.1 dX2_writeTranscript_41 rfl (lv_at hl 0 rfl) ?_
        refine lv_iload_n C.1 C.2.1 dX2_writeTranscript_42 rfl (lv_at hl 3 rfl) ?_
        refine lv_aload_n C.1 C.2.1 dX2_writeTranscript_43 rfl (lv_at hl 1 rfl) ?_
        refine xg_X2_30 C hW (k_3) dX2_writeTranscript_44 ?_
        refine lv_iload_n C.1 C.2.1 dX2_writeTranscript_47 rfl (lv_at hl 2 rfl) ?_
        refine x_ialdC C hW a_7 hf dX2_writeTranscript_48 (fun hf => ?_)
        refine x_cmpne (tgt := 57) C hf dX2_writeTranscript_49 (by decide) (fun hf => ?_) (fun hf => ?_)
        · refine x_ldcS C ms_X2_36 dX2_writeTranscript_57 ?_
          exact j_X2_writeTranscript_59 (by decide) C hr7 (fun z0 z1 => ih z0 z1) hW (lv_sub hl [0, 1, 2, 3] rfl) hf
        · refine x_ldcS C ms_X2_34 dX2_writeTranscript_52 ?_
          refine lv_goto (tgt := 59) C.1 C.2.1 dX2_writeTranscript_54 (by decide) ?_
          exact j_X2_writeTranscript_59 (by decide) C hr7 (fun z0 z1 => ih z0 z1) hW (lv_sub hl [0, 1, 2, 3] rfl) hf
set_option maxRecDepth 20000 in
set_option maxHeartbeats 1000000 in
theorem l_X2_writeTranscript_7 {l : Launch} {Z : ZT} {g : Hp} {p : Program} {e : Env} {s : State} {m : MethodId} {args : Array Value} {below : List Frame} {meth : Method} {c : Code} (C : CX p s m args meth c cX2_writeTranscript RX2 4 none Z) {out : Hp} : ∀ (n : Nat) (x2 : Int32) (h : Hp) (ls : Array Slot) (H : Heap) (locs : List Loc), XW Z h g s.heap H locs → lv_has ls 4 [(0, .ref (Z.1 16)), (1, .ref (Z.1 3)), (2, .int x2)] → Lp (F_X2_writeTranscript_7) n (x2, h) = some out → W p l e (rmD 9) s m args below meth c H locs 0 0 (MQ below (va_Qv (fun (_ : Unit) => True) (fun _ => Wd Z out g) (FR Z)) args s 0 0 (FR Z)) (F0 m 7 ls []) := by
  intro n
  induction n with
  | zero => intro x2 h ls H locs hW hl hf; cases hf
  | succ n ih =>
    intro x2 h ls H locs hW hl hf
    rw [Lp_s] at hf
    refine lv_iload_n C.1 C.2.1 dX2_writeTranscript_7 rfl (lv_at hl 2 rfl) ?_
    refine lv_aload_n C.1 C.2.1 dX2_writeTranscript_8 rfl (lv_at hl 1 rfl) ?_
    refine xg_X2_19 C hW (k_3) dX2_writeTranscript_9 ?_
    refine xg_X2_25 C hW (k_18) dX2_writeTranscript_12 ?_
    refine x_cmpge (tgt := 92) C hf dX2_writeTranscript_15 (by decide) (fun hf => ?_) (fun hf => ?_)
    · obtain rfl := Option.some.inj hf
      exact x_vret C hW dX2_writeTranscript_92 trivial
    · refine lv_aload_n C.1 C.2.1 dX2_writeTranscript_18 rfl (lv_at hl 1 rfl) ?_
      refine xg_X2_30 C hW (k_3) dX2_writeTranscript_19 ?_
      refine lv_iload_n C.1 C.2.1 dX2_writeTranscript_22 rfl (lv_at hl 2 rfl) ?_
      refine x_ialdC C hW a_7 hf dX2_writeTranscript_23 (fun hf => ?_)
      refine x_istn C hf dX2_writeTranscript_24 rfl hl (by decide) (fun v6 => [(3, .int v6), (0, .ref (Z.1 16)), (1, .ref (Z.1 3)), (2, .int x2)]) (fun _ => rfl) (fun v6 ls hf hl => ?_)
      exact l_X2_writeTranscript_25 C (fun z0 z1 => ih z0 z1) FU v6 h ls _ _ hW (lv_sub hl [1, 2, 3, 0] rfl) hf
set_option maxRecDepth 20000 in
set_option maxHeartbeats 1000000 in
theorem c_X2_writeTranscript {l : Launch} {Z : ZT} {g : Hp} {h : Hp} {out : Hp} (hf : f_X2_writeTranscript h = some out) : Met l yX2_writeTranscript (wY yX2_writeTranscript cX2_writeTranscript 4 none) (rmD 9) (va_Pc [.ref (Z.1 16), .ref (Z.1 3)] (Wd Z h g)) (va_Qv (fun (_ : Unit) => True) (fun _ => Wd Z out g) (FR Z)) 0 0 (FR Z) := by
  refine metX RX2 rfl (by decide +kernel) (Nat.le_of_ble_eq_true rfl) ?_
  intro p e s m args below meth c C hW ls hl
  have hl : lv_has ls 4 [(0, .ref (Z.1 16)), (1, .ref (Z.1 3))] := hl
  unfold f_X2_writeTranscript at hf
  refine lv_aload_n C.1 C.2.1 dX2_writeTranscript_0 rfl (lv_at hl 0 rfl) ?_
  refine lv_iconst (v := 0) C.1 C.2.1 dX2_writeTranscript_1 (by decide) ?_
  refine xp_X2_15 C hW (k_16) hf dX2_writeTranscript_2 (fun h7 H locs hf hW => ?_)
  refine lv_iconst (v := 0) C.1 C.2.1 dX2_writeTranscript_5 (by decide) ?_
  refine lv_istore_n (lv' := [(2, .int (0 : Int32)), (0, .ref (Z.1 16)), (1, .ref (Z.1 3))]) C.1 C.2.1 dX2_writeTranscript_6 rfl hl (by decide) rfl (fun ls hl => ?_)
  exact l_X2_writeTranscript_7 C FU (0 : Int32) h7 ls _ _ hW (lv_sub hl [1, 2, 0] rfl) hf
set_option maxRecDepth 20000 in
set_option maxHeartbeats 1000000 in
theorem j_X2_putNumber_78 {l : Launch} {Z : ZT} {g : Hp} {p1 : Int32} {h : Hp} {x4 : Int32} {p : Program} {e : Env} {s : State} {m : MethodId} {args : Array Value} {below : List Frame} {meth : Method} {c : Code} (C : CX p s m args meth c cX2_putNumber RX2 6 none Z) {out : Hp} {ls : Array Slot} {H : Heap} {locs : List Loc} (hW : XW Z h g s.heap H locs) (hl : lv_has ls 6 [(0, .ref (Z.1 16)), (1, .int p1), (4, .int x4)]) (hf : J_X2_putNumber_78 p1 h x4 = some out) : W p l e (rmD 0) s m args below meth c H locs 0 0 (MQ below (va_Qv (fun (_ : Unit) => True) (fun _ => Wd Z out g) (FR Z)) args s 0 0 (FR Z)) (F0 m 78 ls []) := by
  rw [J_X2_putNumber_78] at hf
  refine lv_aload_n C.1 C.2.1 dX2_putNumber_78 rfl (lv_at hl 0 rfl) ?_
  refine lv_iload C.1 C.2.1 dX2_putNumber_79 (lv_at hl 2 rfl) ?_
  refine xp_X2_15 C hW (k_16) hf dX2_putNumber_81 (fun h1 H locs hf hW => ?_)
  obtain rfl := Option.some.inj hf
  exact x_vret C hW dX2_putNumber_84 trivial
set_option maxRecDepth 20000 in
set_option maxHeartbeats 1000000 in
theorem l_X2_putNumber_43 {l : Launch} {Z : ZT} {g : Hp} {p1 : Int32} {x4 : Int32} {p : Program} {e : Env} {s : State} {m : MethodId} {args : Array Value} {below : List Frame} {meth : Method} {c : Code} (C : CX p s m args meth c cX2_putNumber RX2 6 none Z) {out : Hp} : ∀ (n : Nat) (x3 : Int32) (x5 : Int32) (h : Hp) (ls : Array Slot) (H : Heap) (locs : List Loc), XW Z h g s.heap H locs → lv_has ls 6 [(0, .ref (Z.1 16)), (1, .int p1), (3, .int x3), (4, .int x4), (5, .int x5)] → Lp (F_X2_putNumber_43 p1 x4) n (x3, x5, h) = some out → W p l e (rmD 0) s m args below meth c H locs 0 0 (MQ below (va_Qv (fun (_ : Unit) => True) (fun _ => Wd Z out g) (FR Z)) args s 0 0 (FR Z)) (F0 m 43 ls []) := by
  intro n
  induction n with
  | zero => intro x3 x5 h ls H locs hW hl hf; cases hf
  | succ n ih =>
    intro x3 x5 h ls H locs hW hl hf
    rw [Lp_s] at hf
    refine lv_iload C.1 C.2.1 dX2_putNumber_43 (lv_at hl 4 rfl) ?_
    refine lv_aload_n C.1 C.2.1 dX2_putNumber_45 rfl (lv_at hl 0 rfl) ?_
    refine xg_X2_15 C hW (k_16) dX2_putNumber_46 ?_
    refine x_cmplt (tgt := 78) C hf dX2_putNumber_49 (by decide) (fun hf => ?_) (fun hf => ?_)
    · exact j_X2_putNumber_78 C hW (lv_sub hl [0, 1, 3] rfl) hf
    · refine lv_aload_n C.1 C.2.1 dX2_putNumber_52 rfl (lv_at hl 0 rfl) ?_
      refine xg_X2_11 C hW (k_16) dX2_putNumber_53 ?_
      refine lv_iload C.1 C.2.1 dX2_putNumber_56 (lv_at hl 4 rfl) ?_
      refine lv_bipush (v := 48) C.1 C.2.1 dX2_putNumber_58 (by decide) ?_
      refine lv_iload_n C.1 C.2.1 dX2_putNumber_60 rfl (lv_at hl 2 rfl) ?_
      refine lv_bipush (v := 10) C.1 C.2.1 dX2_putNumber_61 (by decide) ?_
      refine lv_irem C.1 C.2.1 dX2_putNumber_63 (by decide) ?_
      refine lv_iadd C.1 C.2.1 dX2_putNumber_64 ?_
      refine lv_i2b (v := i2b ((48 : Int32) + (irem x3 (10 : Int32)))) C.1 C.2.1 dX2_putNumber_65 rfl ?_
      refine x_bastC C hW a_17 hf dX2_putNumber_66 (fun h2 H locs hf hW => ?_)
      refine lv_iload_n C.1 C.2.1 dX2_putNumber_67 rfl (lv_at hl 2 rfl) ?_
      refine lv_bipush (v := 10) C.1 C.2.1 dX2_putNumber_68 (by decide) ?_
      refine lv_idiv C.1 C.2.1 dX2_putNumber_70 (by decide) ?_
      refine x_istn C hf dX2_putNumber_71 rfl hl (by decide) (fun v3 => [(3, .int v3), (0, .ref (Z.1 16)), (1, .int p1), (4, .int x4), (5, .int x5)]) (fun _ => rfl) (fun v3 ls hf hl => ?_)
      refine x_iinc (w := -1) C hf dX2_putNumber_72 hl (k := 4) rfl (by decide) (by decide) (fun v4 => [(5, .int v4), (3, .int v3), (0, .ref (Z.1 16)), (1, .int p1), (4, .int x4)]) (fun _ => rfl) (fun v4 ls hf hl => ?_)
      refine lv_goto (tgt := 43) C.1 C.2.1 dX2_putNumber_75 (by decide) ?_
      exact ih v3 v4 h2 ls _ _ hW (lv_sub hl [2, 3, 1, 4, 0] rfl) hf
set_option maxRecDepth 20000 in
set_option maxHeartbeats 1000000 in
theorem j_X2_putNumber_21 {l : Launch} {Z : ZT} {g : Hp} {p1 : Int32} {h : Hp} {x2 : Int32} {p : Program} {e : Env} {s : State} {m : MethodId} {args : Array Value} {below : List Frame} {meth : Method} {c : Code} (C : CX p s m args meth c cX2_putNumber RX2 6 none Z) {out : Hp} {ls : Array Slot} {H : Heap} {locs : List Loc} (hW : XW Z h g s.heap H locs) (hl : lv_has ls 6 [(0, .ref (Z.1 16)), (1, .int p1), (2, .int x2)]) (hf : J_X2_putNumber_21 p1 h x2 = some out) : W p l e (rmD 0) s m args below meth c H locs 0 0 (MQ below (va_Qv (fun (_ : Unit) => True) (fun _ => Wd Z out g) (FR Z)) args s 0 0 (FR Z)) (F0 m 21 ls []) := by
  rw [J_X2_putNumber_21] at hf
  refine lv_aload_n C.1 C.2.1 dX2_putNumber_21 rfl (lv_at hl 0 rfl) ?_
  refine xg_X2_15 C hW (k_16) dX2_putNumber_22 ?_
  refine lv_iload_n C.1 C.2.1 dX2_putNumber_25 rfl (lv_at hl 2 rfl) ?_
  refine lv_iadd C.1 C.2.1 dX2_putNumber_26 ?_
  refine lv_sipush (v := 1000) C.1 C.2.1 dX2_putNumber_27 (by decide) ?_
  refine x_min C hl (ml_X2_107) (by decide) ⟨Nat.le_refl _, Nat.le_refl _⟩ (Nat.le_of_ble_eq_true rfl) dX2_putNumber_30 ?_
  refine x_ist C hf dX2_putNumber_33 hl (by decide) (fun v5 => [(4, .int v5), (0, .ref (Z.1 16)), (1, .int p1), (2, .int x2)]) (fun _ => rfl) (fun v5 ls hf hl => ?_)
  refine lv_iload_n C.1 C.2.1 dX2_putNumber_35 rfl (lv_at hl 2 rfl) ?_
  refine lv_istore_n (lv' := [(3, .int p1), (4, .int v5), (0, .ref (Z.1 16)), (1, .int p1), (2, .int x2)]) C.1 C.2.1 dX2_putNumber_36 rfl hl (by decide) rfl (fun ls hl => ?_)
  refine lv_iload C.1 C.2.1 dX2_putNumber_37 (lv_at hl 1 rfl) ?_
  refine lv_iconst (v := 1) C.1 C.2.1 dX2_putNumber_39 (by decide) ?_
  refine lv_isub C.1 C.2.1 dX2_putNumber_40 ?_
  refine x_ist C hf dX2_putNumber_41 hl (by decide) (fun v6 => [(5, .int v6), (3, .int p1), (4, .int v5), (0, .ref (Z.1 16)), (1, .int p1), (2, .int x2)]) (fun _ => rfl) (fun v6 ls hf hl => ?_)
  exact l_X2_putNumber_43 C FU p1 v6 h ls _ _ hW (lv_sub hl [3, 4, 1, 2, 0] rfl) hf
set_option maxRecDepth 20000 in
set_option maxHeartbeats 1000000 in
theorem l_X2_putNumber_4 {l : Launch} {Z : ZT} {g : Hp} {p1 : Int32} {h : Hp} {p : Program} {e : Env} {s : State} {m : MethodId} {args : Array Value} {below : List Frame} {meth : Method} {c : Code} (C : CX p s m args meth c cX2_putNumber RX2 6 none Z) {out : Hp} : ∀ (n : Nat) (x2 : Int32) (x3 : Int32) (ls : Array Slot) (H : Heap) (locs : List Loc), XW Z h g s.heap H locs → lv_has ls 6 [(0, .ref (Z.1 16)), (1, .int p1), (2, .int x2), (3, .int x3)] → Lp (F_X2_putNumber_4 p1 h) n (x2, x3) = some out → W p l e (rmD 0) s m args below meth c H locs 0 0 (MQ below (va_Qv (fun (_ : Unit) => True) (fun _ => Wd Z out g) (FR Z)) args s 0 0 (FR Z)) (F0 m 4 ls []) := by
  intro n
  induction n with
  | zero => intro x2 x3 ls H locs hW hl hf; cases hf
  | succ n ih =>
    intro x2 x3 ls H locs hW hl hf
    rw [Lp_s] at hf
    rw [F_X2_putNumber_4] at hf
    try dsimp only at hf
    refine x_iinc (w := 1) C hf dX2_putNumber_4 hl (k := 2) rfl (by decide) (by decide) (fun v7 => [(2, .int v7), (0, .ref (Z.1 16)), (1, .int p1), (3, .int x3)]) (fun _ => rfl) (fun v7 ls hf hl => ?_)
    refine lv_iload_n C.1 C.2.1 dX2_putNumber_7 rfl (lv_at hl 3 rfl) ?_
    refine lv_bipush (v := 10) C.1 C.2.1 dX2_putNumber_8 (by decide) ?_
    refine lv_idiv C.1 C.2.1 dX2_putNumber_10 (by decide) ?_
    refine x_istn C hf dX2_putNumber_11 rfl hl (by decide) (fun v8 => [(3, .int v8), (2, .int v7), (0, .ref (Z.1 16)), (1, .int p1)]) (fun _ => rfl) (fun v8 ls hf hl => ?_)
    refine lv_iload_n C.1 C.2.1 dX2_putNumber_12 rfl (lv_at hl 0 rfl) ?_
    refine x_ifle (tgt := 21) C hf dX2_putNumber_13 (by decide) (fun hf => ?_) (fun hf => ?_)
    · exact j_X2_putNumber_21 C hW (lv_sub hl [2, 3, 1] rfl) hf
    · refine lv_iload_n C.1 C.2.1 dX2_putNumber_16 rfl (lv_at hl 1 rfl) ?_
      refine lv_iconst (v := 5) C.1 C.2.1 dX2_putNumber_17 (by decide) ?_
      refine x_cmplt (tgt := 4) C hf dX2_putNumber_18 (by decide) (fun hf => ?_) (fun hf => ?_)
      · exact ih v7 v8 ls _ _ hW (lv_sub hl [2, 3, 1, 0] rfl) hf
      · exact j_X2_putNumber_21 C hW (lv_sub hl [2, 3, 1] rfl) hf
set_option maxRecDepth 20000 in
set_option maxHeartbeats 1000000 in
theorem c_X2_putNumber {l : Launch} {Z : ZT} {g : Hp} {h : Hp} {p1 : Int32} {out : Hp} (hf : f_X2_putNumber h p1 = some out) : Met l yX2_putNumber (wY yX2_putNumber cX2_putNumber 6 none) (rmD 0) (va_Pc [.ref (Z.1 16), .int p1] (Wd Z h g)) (va_Qv (fun (_ : Unit) => True) (fun _ => Wd Z out g) (FR Z)) 0 0 (FR Z) := by
  refine metX RX2 rfl (by decide +kernel) (Nat.le_of_ble_eq_true rfl) ?_
  intro p e s m args below meth c C hW ls hl
  have hl : lv_has ls 6 [(0, .ref (Z.1 16)), (1, .int p1)] := hl
  unfold f_X2_putNumber at hf
  refine lv_iconst (v := 0) C.1 C.2.1 dX2_putNumber_0 (by decide) ?_
  refine lv_istore_n (lv' := [(2, .int (0 : Int32)), (0, .ref (Z.1 16)), (1, .int p1)]) C.1 C.2.1 dX2_putNumber_1 rfl hl (by decide) rfl (fun ls hl => ?_)
  refine lv_iload_n C.1 C.2.1 dX2_putNumber_2 rfl (lv_at hl 2 rfl) ?_
  refine lv_istore_n (lv' := [(3, .int p1), (2, .int (0 : Int32)), (0, .ref (Z.1 16)), (1, .int p1)]) C.1 C.2.1 dX2_putNumber_3 rfl hl (by decide) rfl (fun ls hl => ?_)
  exact l_X2_putNumber_4 C FU (0 : Int32) p1 ls _ _ hW (lv_sub hl [2, 3, 1, 0] rfl) hf
set_option maxRecDepth 20000 in
set_option maxHeartbeats 1000000 in
theorem j_X2_writeShot_165 {l : Launch} {Z : ZT} {g : Hp} {p2 : Int32} {h : Hp} {r73 : Int32 × Hp → Option (Hp)} {x3 : Nat} {x4 : Int32} {x5 : Int32} {s1 : Nat} (hk_s1 : s1 < NS) (hk_x3 : knd x3 = 4) {p : Program} {e : Env} {s : State} {m : MethodId} {args : Array Value} {below : List Frame} {meth : Method} {c : Code} (C : CX p s m args meth c cX2_writeShot RX2 6 none Z) {out : Hp} (hr73 : ∀ (x5 : Int32) (h : Hp) (ls : Array Slot) (H : Heap) (locs : List Loc), XW Z h g s.heap H locs → lv_has ls 6 [(0, .ref (Z.1 16)), (1, .ref (Z.1 3)), (2, .int p2), (3, .ref (Z.1 x3)), (4, .int x4), (5, .int x5)] → r73 (x5, h) = some out → W p l e (rmD 9) s m args below meth c H locs 0 0 (MQ below (va_Qv (fun (_ : Unit) => True) (fun _ => Wd Z out g) (FR Z)) args s 0 0 (FR Z)) (F0 m 73 ls [])) {ls : Array Slot} {H : Heap} {locs : List Loc} (hW : XW Z h g s.heap H locs) (hl : lv_has ls 6 [(0, .ref (Z.1 16)), (1, .ref (Z.1 3)), (2, .int p2), (3, .ref (Z.1 x3)), (4, .int x4), (5, .int x5)]) (hf : J_X2_writeShot_165 p2 h r73 x3 x4 x5 s1 = some out) : W p l e (rmD 9) s m args below meth c H locs 0 0 (MQ below (va_Qv (fun (_ : Unit) => True) (fun _ => Wd Z out g) (FR Z)) args s 0 0 (FR Z)) (F0 m 165 ls [.ref (Z.2.2.2.2 (2 * s1)), .ref (Z.1 16)]) := by
  rw [J_X2_writeShot_165] at hf
  obtain ⟨u1, hcu1, hf⟩ := bnd_t hf
  refine x_callv hW (x_runV C hW hl (wk2 (k_16)) rfl rfl (c_X2_putText hk_s1 hcu1) (cw_X2_38) ci_X2_putText cs_X2_putText (rm_ok (by decide) (by decide)) ⟨Nat.le_refl _, Nat.le_refl _⟩ (As := [.ref (Z.2.2.2.2 (2 * s1))]) rfl rfl (Nat.le_of_ble_eq_true rfl) dX2_writeShot_165) (fun H locs hW => ?_)
  refine x_iinc (w := 1) C hf dX2_writeShot_168 hl (k := 5) rfl (by decide) (by decide) (fun v2 => [(5, .int v2), (0, .ref (Z.1 16)), (1, .ref (Z.1 3)), (2, .int p2), (3, .ref (Z.1 x3)), (4, .int x4)]) (fun _ => rfl) (fun v2 ls hf hl => ?_)
  refine lv_goto (tgt := 73) C.1 C.2.1 dX2_writeShot_171 (by decide) ?_
  exact hr73 v2 u1 ls _ _ hW (lv_sub hl [1, 2, 3, 4, 5, 0] rfl) hf
set_option maxRecDepth 20000 in
set_option maxHeartbeats 1000000 in
theorem j_X2_writeShot_130 {l : Launch} {Z : ZT} {g : Hp} {p2 : Int32} {h : Hp} {r73 : Int32 × Hp → Option (Hp)} {x3 : Nat} {x4 : Int32} {x5 : Int32} {s1 : Nat} (hk_s1 : s1 < NS) (hk_x3 : knd x3 = 4) {p : Program} {e : Env} {s : State} {m : MethodId} {args : Array Value} {below : List Frame} {meth : Method} {c : Code} (C : CX p s m args meth c cX2_writeShot RX2 6 none Z) {out : Hp} (hr73 : ∀ (x5 : Int32) (h : Hp) (ls : Array Slot) (H : Heap) (locs : List Loc), XW Z h g s.heap H locs → lv_has ls 6 [(0, .ref (Z.1 16)), (1, .ref (Z.1 3)), (2, .int p2), (3, .ref (Z.1 x3)), (4, .int x4), (5, .int x5)] → r73 (x5, h) = some out → W p l e (rmD 9) s m args below meth c H locs 0 0 (MQ below (va_Qv (fun (_ : Unit) => True) (fun _ => Wd Z out g) (FR Z)) args s 0 0 (FR Z)) (F0 m 73 ls [])) {ls : Array Slot} {H : Heap} {locs : List Loc} (hW : XW Z h g s.heap H locs) (hl : lv_has ls 6 [(0, .ref (Z.1 16)), (1, .ref (Z.1 3)), (2, .int p2), (3, .ref (Z.1 x3)), (4, .int x4), (5, .int x5)]) (hf : J_X2_writeShot_130 p2 h r73 x3 x4 x5 s1 = some out) : W p l e (rmD 9) s m args below meth c H locs 0 0 (MQ below (va_Qv (fun (_ : Unit) => True) (fun _ => Wd Z out g) (FR Z)) args s 0 0 (FR Z)) (F0 m 130 ls [.ref (Z.2.2.2.2 (2 * s1)), .ref (Z.1 16)]) := by
  rw [J_X2_writeShot_130] at hf
  obtain ⟨u3, hcu3, hf⟩ := bnd_t hf
  refine x_callv hW (x_runV C hW hl (wk2 (k_16)) rfl rfl (c_X2_putText hk_s1 hcu3) (cw_X2_38) ci_X2_putText cs_X2_putText (rm_ok (by decide) (by decide)) ⟨Nat.le_refl _, Nat.le_refl _⟩ (As := [.ref (Z.2.2.2.2 (2 * s1))]) rfl rfl (Nat.le_of_ble_eq_true rfl) dX2_writeShot_130) (fun H locs hW => ?_)
  refine lv_aload_n C.1 C.2.1 dX2_writeShot_133 rfl (lv_at hl 0 rfl) ?_
  refine lv_aload_n C.1 C.2.1 dX2_writeShot_134 rfl (lv_at hl 3 rfl) ?_
  refine xg_X2_46 C hW hk_x3 dX2_writeShot_135 ?_
  refine lv_iload C.1 C.2.1 dX2_writeShot_138 (lv_at hl 5 rfl) ?_
  refine x_ialdC C hW (o_X4_5 hk_x3) hf dX2_writeShot_140 (fun hf => ?_)
  obtain ⟨u4, hcu4, hf⟩ := bnd_t hf
  refine x_callv hW (x_runV C hW hl (wk2 (k_16)) rfl rfl (c_X2_putName hcu4) (cw_X2_54) ci_X2_putName cs_X2_putName (rm_ok (by decide) (by decide)) ⟨Nat.le_refl _, Nat.le_refl _⟩ (As := [.int (u3 (x3 + 2) (ix x5))]) rfl rfl (Nat.le_of_ble_eq_true rfl) dX2_writeShot_141) (fun H locs hW => ?_)
  refine lv_aload_n C.1 C.2.1 dX2_writeShot_144 rfl (lv_at hl 0 rfl) ?_
  refine lv_aload_n C.1 C.2.1 dX2_writeShot_145 rfl (lv_at hl 1 rfl) ?_
  refine xg_X2_19 C hW (k_3) dX2_writeShot_146 ?_
  refine xg_X2_83 C hW (k_18) dX2_writeShot_149 ?_
  refine lv_iload C.1 C.2.1 dX2_writeShot_152 (lv_at hl 5 rfl) ?_
  refine x_zaldC C hW (o_X0_0 (by decide)) hf dX2_writeShot_154 (fun hf => ?_)
  refine x_ifeq (tgt := 163) C hf dX2_writeShot_155 (by decide) (fun hf => ?_) (fun hf => ?_)
  · refine x_ldcS C ms_X2_93 dX2_writeShot_163 ?_
    exact j_X2_writeShot_165 (by decide) hk_x3 C hr73 hW (lv_sub hl [0, 1, 2, 3, 4, 5] rfl) hf
  · refine x_ldcS C ms_X2_91 dX2_writeShot_158 ?_
    refine lv_goto (tgt := 165) C.1 C.2.1 dX2_writeShot_160 (by decide) ?_
    exact j_X2_writeShot_165 (by decide) hk_x3 C hr73 hW (lv_sub hl [0, 1, 2, 3, 4, 5] rfl) hf
set_option maxRecDepth 20000 in
set_option maxHeartbeats 1000000 in
theorem l_X2_writeShot_73 {l : Launch} {Z : ZT} {g : Hp} {p2 : Int32} {x3 : Nat} {x4 : Int32} (hk_x3 : knd x3 = 4) {p : Program} {e : Env} {s : State} {m : MethodId} {args : Array Value} {below : List Frame} {meth : Method} {c : Code} (C : CX p s m args meth c cX2_writeShot RX2 6 none Z) {out : Hp} : ∀ (n : Nat) (x5 : Int32) (h : Hp) (ls : Array Slot) (H : Heap) (locs : List Loc), XW Z h g s.heap H locs → lv_has ls 6 [(0, .ref (Z.1 16)), (1, .ref (Z.1 3)), (2, .int p2), (3, .ref (Z.1 x3)), (4, .int x4), (5, .int x5)] → Lp (F_X2_writeShot_73 p2 x3 x4) n (x5, h) = some out → W p l e (rmD 9) s m args below meth c H locs 0 0 (MQ below (va_Qv (fun (_ : Unit) => True) (fun _ => Wd Z out g) (FR Z)) args s 0 0 (FR Z)) (F0 m 73 ls []) := by
  intro n
  induction n with
  | zero => intro x5 h ls H locs hW hl hf; cases hf
  | succ n ih =>
    intro x5 h ls H locs hW hl hf
    rw [Lp_s] at hf
    refine lv_iload C.1 C.2.1 dX2_writeShot_73 (lv_at hl 5 rfl) ?_
    refine lv_aload_n C.1 C.2.1 dX2_writeShot_75 rfl (lv_at hl 3 rfl) ?_
    refine xg_X2_74 C hW hk_x3 dX2_writeShot_76 ?_
    refine lv_iload C.1 C.2.1 dX2_writeShot_79 (lv_at hl 4 rfl) ?_
    refine lv_iconst (v := 1) C.1 C.2.1 dX2_writeShot_81 (by decide) ?_
    refine lv_iadd C.1 C.2.1 dX2_writeShot_82 ?_
    refine x_ialdC C hW (o_X4_14 hk_x3) hf dX2_writeShot_83 (fun hf => ?_)
    refine x_cmpge (tgt := 174) C hf dX2_writeShot_84 (by decide) (fun hf => ?_) (fun hf => ?_)
    · obtain rfl := Option.some.inj hf
      exact x_vret C hW dX2_writeShot_174 trivial
    · refine lv_aload_n C.1 C.2.1 dX2_writeShot_87 rfl (lv_at hl 0 rfl) ?_
      refine x_ldcS C ms_X2_36 dX2_writeShot_88 ?_
      obtain ⟨u5, hcu5, hf⟩ := bnd_t hf
      refine x_callv hW (x_runV C hW hl (wk2 (k_16)) rfl rfl (c_X2_putText (by decide) hcu5) (cw_X2_38) ci_X2_putText cs_X2_putText (rm_ok (by decide) (by decide)) ⟨Nat.le_refl _, Nat.le_refl _⟩ (As := [.ref (Z.2.2.2.2 (2 * 1))]) rfl rfl (Nat.le_of_ble_eq_true rfl) dX2_writeShot_90) (fun H locs hW => ?_)
      refine lv_aload_n C.1 C.2.1 dX2_writeShot_93 rfl (lv_at hl 0 rfl) ?_
      refine lv_aload_n C.1 C.2.1 dX2_writeShot_94 rfl (lv_at hl 3 rfl) ?_
      refine xg_X2_77 C hW hk_x3 dX2_writeShot_95 ?_
      refine lv_aload_n C.1 C.2.1 dX2_writeShot_98 rfl (lv_at hl 3 rfl) ?_
      refine xg_X2_80 C hW hk_x3 dX2_writeShot_99 ?_
      refine lv_iload C.1 C.2.1 dX2_writeShot_102 (lv_at hl 5 rfl) ?_
      refine x_ialdC C hW (o_X4_6 hk_x3) hf dX2_writeShot_104 (fun hf => ?_)
      refine x_ialdC C hW (o_X4_3 hk_x3) hf dX2_writeShot_105 (fun hf => ?_)
      obtain ⟨u6, hcu6, hf⟩ := bnd_t hf
      refine x_callv hW (x_runV C hW hl (wk2 (k_16)) rfl rfl (c_X2_putName hcu6) (cw_X2_54) ci_X2_putName cs_X2_putName (rm_ok (by decide) (by decide)) ⟨Nat.le_refl _, Nat.le_refl _⟩ (As := [.int (u5 (x3 + 1) (ix (u5 (x3 + 3) (ix x5))))]) rfl rfl (Nat.le_of_ble_eq_true rfl) dX2_writeShot_106) (fun H locs hW => ?_)
      refine lv_aload_n C.1 C.2.1 dX2_writeShot_109 rfl (lv_at hl 0 rfl) ?_
      refine lv_aload_n C.1 C.2.1 dX2_writeShot_110 rfl (lv_at hl 1 rfl) ?_
      refine xg_X2_19 C hW (k_3) dX2_writeShot_111 ?_
      refine xg_X2_83 C hW (k_18) dX2_writeShot_114 ?_
      refine lv_iload C.1 C.2.1 dX2_writeShot_117 (lv_at hl 5 rfl) ?_
      refine x_zaldC C hW (o_X0_0 (by decide)) hf dX2_writeShot_119 (fun hf => ?_)
      refine x_ifeq (tgt := 128) C hf dX2_writeShot_120 (by decide) (fun hf => ?_) (fun hf => ?_)
      · refine x_ldcS C ms_X2_89 dX2_writeShot_128 ?_
        exact j_X2_writeShot_130 (by decide) hk_x3 C (fun z0 z1 => ih z0 z1) hW (lv_sub hl [0, 1, 2, 3, 4, 5] rfl) hf
      · refine x_ldcS C ms_X2_87 dX2_writeShot_123 ?_
        refine lv_goto (tgt := 130) C.1 C.2.1 dX2_writeShot_125 (by decide) ?_
        exact j_X2_writeShot_130 (by decide) hk_x3 C (fun z0 z1 => ih z0 z1) hW (lv_sub hl [0, 1, 2, 3, 4, 5] rfl) hf
set_option maxRecDepth 20000 in
set_option maxHeartbeats 1000000 in
theorem c_X2_writeShot {l : Launch} {Z : ZT} {g : Hp} {h : Hp} {p2 : Int32} {out : Hp} (hf : f_X2_writeShot h p2 = some out) : Met l yX2_writeShot (wY yX2_writeShot cX2_writeShot 6 none) (rmD 9) (va_Pc [.ref (Z.1 16), .ref (Z.1 3), .int p2] (Wd Z h g)) (va_Qv (fun (_ : Unit) => True) (fun _ => Wd Z out g) (FR Z)) 0 0 (FR Z) := by
  refine metX RX2 rfl (by decide +kernel) (Nat.le_of_ble_eq_true rfl) ?_
  intro p e s m args below meth c C hW ls hl
  have hl : lv_has ls 6 [(0, .ref (Z.1 16)), (1, .ref (Z.1 3)), (2, .int p2)] := hl
  unfold f_X2_writeShot at hf
  refine lv_aload_n C.1 C.2.1 dX2_writeShot_0 rfl (lv_at hl 0 rfl) ?_
  refine lv_iconst (v := 0) C.1 C.2.1 dX2_writeShot_1 (by decide) ?_
  refine xp_X2_15 C hW (k_16) hf dX2_writeShot_2 (fun h7 H locs hf hW => ?_)
  refine lv_aload_n C.1 C.2.1 dX2_writeShot_5 rfl (lv_at hl 0 rfl) ?_
  refine x_ldcS C ms_X2_58 dX2_writeShot_6 ?_
  obtain ⟨u8, hcu8, hf⟩ := bnd_t hf
  refine x_callv hW (x_runV C hW hl (wk2 (k_16)) rfl rfl (c_X2_putText (by decide) hcu8) (cw_X2_38) ci_X2_putText cs_X2_putText (rm_ok (by decide) (by decide)) ⟨Nat.le_refl _, Nat.le_refl _⟩ (As := [.ref (Z.2.2.2.2 (2 * 28))]) rfl rfl (Nat.le_of_ble_eq_true rfl) dX2_writeShot_8) (fun H locs hW => ?_)
  refine lv_aload_n C.1 C.2.1 dX2_writeShot_11 rfl (lv_at hl 0 rfl) ?_
  refine lv_iload_n C.1 C.2.1 dX2_writeShot_12 rfl (lv_at hl 2 rfl) ?_
  obtain ⟨u9, hcu9, hf⟩ := bnd_t hf
  refine x_callv hW (x_runV C hW hl (wk2 (k_16)) rfl rfl (c_X2_putNumber hcu9) (cw_X2_60) ci_X2_putNumber cs_X2_putNumber (rm_ok (by decide) (by decide)) ⟨Nat.le_refl _, Nat.le_refl _⟩ (As := [.int p2]) rfl rfl (Nat.le_of_ble_eq_true rfl) dX2_writeShot_13) (fun H locs hW => ?_)
  refine lv_aload_n C.1 C.2.1 dX2_writeShot_16 rfl (lv_at hl 0 rfl) ?_
  refine x_ldcS C ms_X2_36 dX2_writeShot_17 ?_
  obtain ⟨u10, hcu10, hf⟩ := bnd_t hf
  refine x_callv hW (x_runV C hW hl (wk2 (k_16)) rfl rfl (c_X2_putText (by decide) hcu10) (cw_X2_38) ci_X2_putText cs_X2_putText (rm_ok (by decide) (by decide)) ⟨Nat.le_refl _, Nat.le_refl _⟩ (As := [.ref (Z.2.2.2.2 (2 * 1))]) rfl rfl (Nat.le_of_ble_eq_true rfl) dX2_writeShot_19) (fun H locs hW => ?_)
  refine lv_aload_n C.1 C.2.1 dX2_writeShot_22 rfl (lv_at hl 0 rfl) ?_
  refine lv_aload_n C.1 C.2.1 dX2_writeShot_23 rfl (lv_at hl 1 rfl) ?_
  refine xg_X2_63 C hW (k_3) dX2_writeShot_24 ?_
  refine lv_iload_n C.1 C.2.1 dX2_writeShot_27 rfl (lv_at hl 2 rfl) ?_
  refine x_ialdC C hW a_4 hf dX2_writeShot_28 (fun hf => ?_)
  obtain ⟨u11, hcu11, hf⟩ := bnd_t hf
  refine x_callv hW (x_runV C hW hl (wk2 (k_16)) rfl rfl (c_X2_putNumber hcu11) (cw_X2_60) ci_X2_putNumber cs_X2_putNumber (rm_ok (by decide) (by decide)) ⟨Nat.le_refl _, Nat.le_refl _⟩ (As := [.int (u10 4 (ix p2))]) rfl rfl (Nat.le_of_ble_eq_true rfl) dX2_writeShot_29) (fun H locs hW => ?_)
  refine lv_aload_n C.1 C.2.1 dX2_writeShot_32 rfl (lv_at hl 0 rfl) ?_
  refine x_ldcS C ms_X2_66 dX2_writeShot_33 ?_
  obtain ⟨u12, hcu12, hf⟩ := bnd_t hf
  refine x_callv hW (x_runV C hW hl (wk2 (k_16)) rfl rfl (c_X2_putText (by decide) hcu12) (cw_X2_38) ci_X2_putText cs_X2_putText (rm_ok (by decide) (by decide)) ⟨Nat.le_refl _, Nat.le_refl _⟩ (As := [.ref (Z.2.2.2.2 (2 * 29))]) rfl rfl (Nat.le_of_ble_eq_true rfl) dX2_writeShot_35) (fun H locs hW => ?_)
  refine lv_aload_n C.1 C.2.1 dX2_writeShot_38 rfl (lv_at hl 0 rfl) ?_
  refine lv_aload_n C.1 C.2.1 dX2_writeShot_39 rfl (lv_at hl 1 rfl) ?_
  refine xg_X2_68 C hW (k_3) dX2_writeShot_40 ?_
  refine lv_iload_n C.1 C.2.1 dX2_writeShot_43 rfl (lv_at hl 2 rfl) ?_
  refine x_ialdC C hW a_5 hf dX2_writeShot_44 (fun hf => ?_)
  obtain ⟨u13, hcu13, hf⟩ := bnd_t hf
  refine x_callv hW (x_runV C hW hl (wk2 (k_16)) rfl rfl (c_X2_putNumber hcu13) (cw_X2_60) ci_X2_putNumber cs_X2_putNumber (rm_ok (by decide) (by decide)) ⟨Nat.le_refl _, Nat.le_refl _⟩ (As := [.int (u12 5 (ix p2))]) rfl rfl (Nat.le_of_ble_eq_true rfl) dX2_writeShot_45) (fun H locs hW => ?_)
  refine lv_aload_n C.1 C.2.1 dX2_writeShot_48 rfl (lv_at hl 1 rfl) ?_
  refine xg_X2_42 C hW (k_3) hf dX2_writeShot_49 (fun q14 hk_q14 hf => ?_)
  refine lv_astore_n (lv' := [(3, .ref (Z.1 q14)), (0, .ref (Z.1 16)), (1, .ref (Z.1 3)), (2, .int p2)]) C.1 C.2.1 dX2_writeShot_52 rfl hl (by decide) rfl (fun ls hl => ?_)
  refine lv_aload_n C.1 C.2.1 dX2_writeShot_53 rfl (lv_at hl 2 rfl) ?_
  refine xg_X2_19 C hW (k_3) dX2_writeShot_54 ?_
  refine xg_X2_71 C hW (k_18) dX2_writeShot_57 ?_
  refine lv_iload_n C.1 C.2.1 dX2_writeShot_60 rfl (lv_at hl 3 rfl) ?_
  refine x_ialdC C hW (o_X0_2 (by decide)) hf dX2_writeShot_61 (fun hf => ?_)
  refine x_ist C hf dX2_writeShot_62 hl (by decide) (fun v15 => [(4, .int v15), (3, .ref (Z.1 q14)), (0, .ref (Z.1 16)), (1, .ref (Z.1 3)), (2, .int p2)]) (fun _ => rfl) (fun v15 ls hf hl => ?_)
  refine lv_aload_n C.1 C.2.1 dX2_writeShot_64 rfl (lv_at hl 1 rfl) ?_
  refine xg_X2_74 C hW hk_q14 dX2_writeShot_65 ?_
  refine lv_iload C.1 C.2.1 dX2_writeShot_68 (lv_at hl 0 rfl) ?_
  refine x_ialdC C hW (o_X4_14 hk_q14) hf dX2_writeShot_70 (fun hf => ?_)
  refine x_ist C hf dX2_writeShot_71 hl (by decide) (fun v16 => [(5, .int v16), (4, .int v15), (3, .ref (Z.1 q14)), (0, .ref (Z.1 16)), (1, .ref (Z.1 3)), (2, .int p2)]) (fun _ => rfl) (fun v16 ls hf hl => ?_)
  exact l_X2_writeShot_73 hk_q14 C FU v16 u13 ls _ _ hW (lv_sub hl [3, 4, 5, 2, 1, 0] rfl) hf
