/-! the pool's methods: their code, their words (printed) -/
abbrev cL_asks : ByteArray := method_2_code
def yL_asks : MethodName := ⟨RL, "asks", "(LTranscriptCutter;IIII)I"⟩
def hhA : List (Nat × Nat × Nat × Nat) := [(0, 96, 240, 75), (97, 103, 240, 75), (104, 110, 240, 75), (111, 116, 240, 75), (117, 123, 240, 75), (124, 130, 240, 75), (131, 136, 240, 75), (137, 142, 240, 75), (143, 148, 240, 75), (149, 154, 240, 75), (155, 161, 240, 75), (162, 167, 240, 75), (168, 174, 240, 75), (175, 180, 240, 75), (181, 187, 240, 75), (188, 196, 240, 75), (197, 205, 240, 75), (206, 210, 240, 75), (211, 224, 240, 75), (225, 239, 240, 75), (0, 96, 245, 78), (97, 103, 245, 78), (104, 110, 245, 78), (111, 116, 245, 78), (117, 123, 245, 78), (124, 130, 245, 78), (131, 136, 245, 78), (137, 142, 245, 78), (143, 148, 245, 78), (149, 154, 245, 78), (155, 161, 245, 78), (162, 167, 245, 78), (168, 174, 245, 78), (175, 180, 245, 78), (181, 187, 245, 78), (188, 196, 245, 78), (197, 205, 245, 78), (206, 210, 245, 78), (211, 224, 245, 78), (225, 239, 245, 78), (0, 96, 250, 81), (97, 103, 250, 81), (104, 110, 250, 81), (111, 116, 250, 81), (117, 123, 250, 81), (124, 130, 250, 81), (131, 136, 250, 81), (137, 142, 250, 81), (143, 148, 250, 81), (149, 154, 250, 81), (155, 161, 250, 81), (162, 167, 250, 81), (168, 174, 250, 81), (175, 180, 250, 81), (181, 187, 250, 81), (188, 196, 250, 81), (197, 205, 250, 81), (206, 210, 250, 81), (211, 224, 250, 81), (225, 239, 250, 81)]
theorem cX_asks : Cond.codeWith yL_asks cL_asks 6 (some .int) hhA ∈ TW := TW_of 832 (by decide +kernel) (by decide +kernel)
theorem ct_asks : Cond.static yL_asks ∈ TW := TW_of 831 (by decide +kernel) (by decide +kernel)
abbrev cX12_next : ByteArray := prog_14_method_2_code
def yX12_next : MethodName := ⟨RX12, "next", "(I)I"⟩
theorem dX12_next_0 : decode cX12_next 0 = .ok (.aload_n 0, 1) := by decide +kernel
theorem dX12_next_1 : decode cX12_next 1 = .ok (.aload_n 0, 1) := by decide +kernel
theorem dX12_next_2 : decode cX12_next 2 = .ok (.getfield 7, 3) := by decide +kernel
theorem dX12_next_5 : decode cX12_next 5 = .ok (.ldc 13, 2) := by decide +kernel
theorem dX12_next_7 : decode cX12_next 7 = .ok (.imul, 1) := by decide +kernel
theorem dX12_next_8 : decode cX12_next 8 = .ok (.sipush 12345, 3) := by decide +kernel
theorem dX12_next_11 : decode cX12_next 11 = .ok (.iadd, 1) := by decide +kernel
theorem dX12_next_12 : decode cX12_next 12 = .ok (.putfield 7, 3) := by decide +kernel
theorem dX12_next_15 : decode cX12_next 15 = .ok (.aload_n 0, 1) := by decide +kernel
theorem dX12_next_16 : decode cX12_next 16 = .ok (.getfield 7, 3) := by decide +kernel
theorem dX12_next_19 : decode cX12_next 19 = .ok (.bipush 16, 2) := by decide +kernel
theorem dX12_next_21 : decode cX12_next 21 = .ok (.iushr, 1) := by decide +kernel
theorem dX12_next_22 : decode cX12_next 22 = .ok (.sipush 32767, 3) := by decide +kernel
theorem dX12_next_25 : decode cX12_next 25 = .ok (.iand, 1) := by decide +kernel
theorem dX12_next_26 : decode cX12_next 26 = .ok (.iload_n 1, 1) := by decide +kernel
theorem dX12_next_27 : decode cX12_next 27 = .ok (.irem, 1) := by decide +kernel
theorem dX12_next_28 : decode cX12_next 28 = .ok (.ireturn, 1) := by decide +kernel
theorem ci_X12_next : Cond.instanceMethod yX12_next ∈ TW := TW_of 400 (by decide +kernel) (by decide +kernel)
theorem cs_X12_next : Cond.selects yX12_next.cls yX12_next yX12_next ∈ TW := TW_of 401 (by decide +kernel) (by decide +kernel)
abbrev cJ8_newLength_cabcc : ByteArray := prog_33_method_27_code
def yJ8_newLength_cabcc : MethodName := ⟨RJ8, "newLength", "(III)I"⟩
theorem dJ8_newLength_cabcc_0 : decode cJ8_newLength_cabcc 0 = .ok (.iload_n 0, 1) := by decide +kernel
theorem dJ8_newLength_cabcc_1 : decode cJ8_newLength_cabcc 1 = .ok (.iload_n 1, 1) := by decide +kernel
theorem dJ8_newLength_cabcc_2 : decode cJ8_newLength_cabcc 2 = .ok (.iload_n 2, 1) := by decide +kernel
theorem dJ8_newLength_cabcc_3 : decode cJ8_newLength_cabcc 3 = .ok (.invokestatic 194, 3) := by decide +kernel
theorem dJ8_newLength_cabcc_6 : decode cJ8_newLength_cabcc 6 = .ok (.iadd, 1) := by decide +kernel
theorem dJ8_newLength_cabcc_7 : decode cJ8_newLength_cabcc 7 = .ok (.istore_n 3, 1) := by decide +kernel
theorem dJ8_newLength_cabcc_8 : decode cJ8_newLength_cabcc 8 = .ok (.iconst 0, 1) := by decide +kernel
theorem dJ8_newLength_cabcc_9 : decode cJ8_newLength_cabcc 9 = .ok (.iload_n 3, 1) := by decide +kernel
theorem dJ8_newLength_cabcc_10 : decode cJ8_newLength_cabcc 10 = .ok (.if_icmp .ge 11, 3) := by decide +kernel
theorem dJ8_newLength_cabcc_13 : decode cJ8_newLength_cabcc 13 = .ok (.iload_n 3, 1) := by decide +kernel
theorem dJ8_newLength_cabcc_14 : decode cJ8_newLength_cabcc 14 = .ok (.ldc 200, 2) := by decide +kernel
theorem dJ8_newLength_cabcc_16 : decode cJ8_newLength_cabcc 16 = .ok (.if_icmp .gt 5, 3) := by decide +kernel
theorem dJ8_newLength_cabcc_19 : decode cJ8_newLength_cabcc 19 = .ok (.iload_n 3, 1) := by decide +kernel
theorem dJ8_newLength_cabcc_20 : decode cJ8_newLength_cabcc 20 = .ok (.ireturn, 1) := by decide +kernel
theorem dJ8_newLength_cabcc_21 : decode cJ8_newLength_cabcc 21 = .ok (.iload_n 0, 1) := by decide +kernel
theorem dJ8_newLength_cabcc_22 : decode cJ8_newLength_cabcc 22 = .ok (.iload_n 1, 1) := by decide +kernel
theorem dJ8_newLength_cabcc_23 : decode cJ8_newLength_cabcc 23 = .ok (.invokestatic 201, 3) := by decide +kernel
theorem ct_J8_newLength_cabcc : Cond.static yJ8_newLength_cabcc ∈ TW := TW_of 455 (by decide +kernel) (by decide +kernel)
abbrev cJ5_newCapacity_0f7a4 : ByteArray := prog_16_method_10_code
def yJ5_newCapacity_0f7a4 : MethodName := ⟨RJ5, "newCapacity", "(I)I"⟩
theorem dJ5_newCapacity_0f7a4_0 : decode cJ5_newCapacity_0f7a4 0 = .ok (.aload_n 0, 1) := by decide +kernel
theorem dJ5_newCapacity_0f7a4_1 : decode cJ5_newCapacity_0f7a4 1 = .ok (.getfield 15, 3) := by decide +kernel
theorem dJ5_newCapacity_0f7a4_4 : decode cJ5_newCapacity_0f7a4 4 = .ok (.arraylength, 1) := by decide +kernel
theorem dJ5_newCapacity_0f7a4_5 : decode cJ5_newCapacity_0f7a4 5 = .ok (.istore_n 2, 1) := by decide +kernel
theorem dJ5_newCapacity_0f7a4_6 : decode cJ5_newCapacity_0f7a4 6 = .ok (.iload_n 1, 1) := by decide +kernel
theorem dJ5_newCapacity_0f7a4_7 : decode cJ5_newCapacity_0f7a4 7 = .ok (.aload_n 0, 1) := by decide +kernel
theorem dJ5_newCapacity_0f7a4_8 : decode cJ5_newCapacity_0f7a4 8 = .ok (.getfield 22, 3) := by decide +kernel
theorem dJ5_newCapacity_0f7a4_11 : decode cJ5_newCapacity_0f7a4 11 = .ok (.ishl, 1) := by decide +kernel
theorem dJ5_newCapacity_0f7a4_12 : decode cJ5_newCapacity_0f7a4 12 = .ok (.istore_n 3, 1) := by decide +kernel
theorem dJ5_newCapacity_0f7a4_13 : decode cJ5_newCapacity_0f7a4 13 = .ok (.iload_n 3, 1) := by decide +kernel
theorem dJ5_newCapacity_0f7a4_14 : decode cJ5_newCapacity_0f7a4 14 = .ok (.iload_n 2, 1) := by decide +kernel
theorem dJ5_newCapacity_0f7a4_15 : decode cJ5_newCapacity_0f7a4 15 = .ok (.isub, 1) := by decide +kernel
theorem dJ5_newCapacity_0f7a4_16 : decode cJ5_newCapacity_0f7a4 16 = .ok (.istore 4, 2) := by decide +kernel
theorem dJ5_newCapacity_0f7a4_18 : decode cJ5_newCapacity_0f7a4 18 = .ok (.iload_n 2, 1) := by decide +kernel
theorem dJ5_newCapacity_0f7a4_19 : decode cJ5_newCapacity_0f7a4 19 = .ok (.iload 4, 2) := by decide +kernel
theorem dJ5_newCapacity_0f7a4_21 : decode cJ5_newCapacity_0f7a4 21 = .ok (.iload_n 2, 1) := by decide +kernel
theorem dJ5_newCapacity_0f7a4_22 : decode cJ5_newCapacity_0f7a4 22 = .ok (.iconst 2, 1) := by decide +kernel
theorem dJ5_newCapacity_0f7a4_23 : decode cJ5_newCapacity_0f7a4 23 = .ok (.aload_n 0, 1) := by decide +kernel
theorem dJ5_newCapacity_0f7a4_24 : decode cJ5_newCapacity_0f7a4 24 = .ok (.getfield 22, 3) := by decide +kernel
theorem dJ5_newCapacity_0f7a4_27 : decode cJ5_newCapacity_0f7a4 27 = .ok (.ishl, 1) := by decide +kernel
theorem dJ5_newCapacity_0f7a4_28 : decode cJ5_newCapacity_0f7a4 28 = .ok (.iadd, 1) := by decide +kernel
theorem dJ5_newCapacity_0f7a4_29 : decode cJ5_newCapacity_0f7a4 29 = .ok (.invokestatic 114, 3) := by decide +kernel
theorem dJ5_newCapacity_0f7a4_32 : decode cJ5_newCapacity_0f7a4 32 = .ok (.istore 5, 2) := by decide +kernel
theorem dJ5_newCapacity_0f7a4_34 : decode cJ5_newCapacity_0f7a4 34 = .ok (.iload 5, 2) := by decide +kernel
theorem dJ5_newCapacity_0f7a4_36 : decode cJ5_newCapacity_0f7a4 36 = .ok (.ldc 39, 2) := by decide +kernel
theorem dJ5_newCapacity_0f7a4_38 : decode cJ5_newCapacity_0f7a4 38 = .ok (.if_icmp .ne 13, 3) := by decide +kernel
theorem dJ5_newCapacity_0f7a4_41 : decode cJ5_newCapacity_0f7a4 41 = .ok (.new 120, 3) := by decide +kernel
theorem dJ5_newCapacity_0f7a4_51 : decode cJ5_newCapacity_0f7a4 51 = .ok (.iload 5, 2) := by decide +kernel
theorem dJ5_newCapacity_0f7a4_53 : decode cJ5_newCapacity_0f7a4 53 = .ok (.aload_n 0, 1) := by decide +kernel
theorem dJ5_newCapacity_0f7a4_54 : decode cJ5_newCapacity_0f7a4 54 = .ok (.getfield 22, 3) := by decide +kernel
theorem dJ5_newCapacity_0f7a4_57 : decode cJ5_newCapacity_0f7a4 57 = .ok (.ishr, 1) := by decide +kernel
theorem dJ5_newCapacity_0f7a4_58 : decode cJ5_newCapacity_0f7a4 58 = .ok (.ireturn, 1) := by decide +kernel
theorem ci_J5_newCapacity_0f7a4 : Cond.instanceMethod yJ5_newCapacity_0f7a4 ∈ TW := TW_of 452 (by decide +kernel) (by decide +kernel)
theorem sm_J5_newCapacity_0f7a4 : Cond.sameMethod yJ5_newCapacity_0f7a4.cls yJ5_newCapacity_0f7a4.cls yJ5_newCapacity_0f7a4.name yJ5_newCapacity_0f7a4.desc ∈ TW := TW_of 1386 (by decide +kernel) (by decide +kernel)
theorem cx_J5_newCapacity_0f7a4 : Cond.selects RJ4 yJ5_newCapacity_0f7a4 yJ5_newCapacity_0f7a4 ∈ TW := TW_x 1 (by decide +kernel) (by decide +kernel)
abbrev cJ7_copyOf_9075b : ByteArray := prog_32_method_121_code
def yJ7_copyOf_9075b : MethodName := ⟨RJ7, "copyOf", "([BI)[B"⟩
theorem dJ7_copyOf_9075b_0 : decode cJ7_copyOf_9075b 0 = .ok (.iload_n 1, 1) := by decide +kernel
theorem dJ7_copyOf_9075b_1 : decode cJ7_copyOf_9075b 1 = .ok (.aload_n 0, 1) := by decide +kernel
theorem dJ7_copyOf_9075b_2 : decode cJ7_copyOf_9075b 2 = .ok (.arraylength, 1) := by decide +kernel
theorem dJ7_copyOf_9075b_3 : decode cJ7_copyOf_9075b 3 = .ok (.if_icmp .ne 11, 3) := by decide +kernel
theorem dJ7_copyOf_9075b_6 : decode cJ7_copyOf_9075b 6 = .ok (.aload_n 0, 1) := by decide +kernel
theorem dJ7_copyOf_9075b_7 : decode cJ7_copyOf_9075b 7 = .ok (.invokevirtual 310, 3) := by decide +kernel
theorem dJ7_copyOf_9075b_10 : decode cJ7_copyOf_9075b 10 = .ok (.checkcast 311, 3) := by decide +kernel
theorem dJ7_copyOf_9075b_13 : decode cJ7_copyOf_9075b 13 = .ok (.areturn, 1) := by decide +kernel
theorem dJ7_copyOf_9075b_14 : decode cJ7_copyOf_9075b 14 = .ok (.iload_n 1, 1) := by decide +kernel
theorem dJ7_copyOf_9075b_15 : decode cJ7_copyOf_9075b 15 = .ok (.newarray .byte, 2) := by decide +kernel
theorem dJ7_copyOf_9075b_17 : decode cJ7_copyOf_9075b 17 = .ok (.astore_n 2, 1) := by decide +kernel
theorem dJ7_copyOf_9075b_18 : decode cJ7_copyOf_9075b 18 = .ok (.aload_n 0, 1) := by decide +kernel
theorem dJ7_copyOf_9075b_19 : decode cJ7_copyOf_9075b 19 = .ok (.iconst 0, 1) := by decide +kernel
theorem dJ7_copyOf_9075b_20 : decode cJ7_copyOf_9075b 20 = .ok (.aload_n 2, 1) := by decide +kernel
theorem dJ7_copyOf_9075b_21 : decode cJ7_copyOf_9075b 21 = .ok (.iconst 0, 1) := by decide +kernel
theorem dJ7_copyOf_9075b_22 : decode cJ7_copyOf_9075b 22 = .ok (.aload_n 0, 1) := by decide +kernel
theorem dJ7_copyOf_9075b_23 : decode cJ7_copyOf_9075b 23 = .ok (.arraylength, 1) := by decide +kernel
theorem dJ7_copyOf_9075b_24 : decode cJ7_copyOf_9075b 24 = .ok (.iload_n 1, 1) := by decide +kernel
theorem dJ7_copyOf_9075b_25 : decode cJ7_copyOf_9075b 25 = .ok (.invokestatic 304, 3) := by decide +kernel
theorem dJ7_copyOf_9075b_28 : decode cJ7_copyOf_9075b 28 = .ok (.invokestatic 150, 3) := by decide +kernel
theorem dJ7_copyOf_9075b_31 : decode cJ7_copyOf_9075b 31 = .ok (.aload_n 2, 1) := by decide +kernel
theorem dJ7_copyOf_9075b_32 : decode cJ7_copyOf_9075b 32 = .ok (.areturn, 1) := by decide +kernel
theorem ct_J7_copyOf_9075b : Cond.static yJ7_copyOf_9075b ∈ TW := TW_of 466 (by decide +kernel) (by decide +kernel)
abbrev cJ5_ensureCapacityInternal_d00df : ByteArray := prog_16_method_9_code
def yJ5_ensureCapacityInternal_d00df : MethodName := ⟨RJ5, "ensureCapacityInternal", "(I)V"⟩
theorem dJ5_ensureCapacityInternal_d00df_0 : decode cJ5_ensureCapacityInternal_d00df 0 = .ok (.aload_n 0, 1) := by decide +kernel
theorem dJ5_ensureCapacityInternal_d00df_1 : decode cJ5_ensureCapacityInternal_d00df 1 = .ok (.getfield 15, 3) := by decide +kernel
theorem dJ5_ensureCapacityInternal_d00df_4 : decode cJ5_ensureCapacityInternal_d00df 4 = .ok (.arraylength, 1) := by decide +kernel
theorem dJ5_ensureCapacityInternal_d00df_5 : decode cJ5_ensureCapacityInternal_d00df 5 = .ok (.aload_n 0, 1) := by decide +kernel
theorem dJ5_ensureCapacityInternal_d00df_6 : decode cJ5_ensureCapacityInternal_d00df 6 = .ok (.getfield 22, 3) := by decide +kernel
theorem dJ5_ensureCapacityInternal_d00df_9 : decode cJ5_ensureCapacityInternal_d00df 9 = .ok (.ishr, 1) := by decide +kernel
theorem dJ5_ensureCapacityInternal_d00df_10 : decode cJ5_ensureCapacityInternal_d00df 10 = .ok (.istore_n 2, 1) := by decide +kernel
theorem dJ5_ensureCapacityInternal_d00df_11 : decode cJ5_ensureCapacityInternal_d00df 11 = .ok (.iload_n 1, 1) := by decide +kernel
theorem dJ5_ensureCapacityInternal_d00df_12 : decode cJ5_ensureCapacityInternal_d00df 12 = .ok (.iload_n 2, 1) := by decide +kernel
theorem dJ5_ensureCapacityInternal_d00df_13 : decode cJ5_ensureCapacityInternal_d00df 13 = .ok (.isub, 1) := by decide +kernel
theorem dJ5_ensureCapacityInternal_d00df_14 : decode cJ5_ensureCapacityInternal_d00df 14 = .ok (.ifCond .le 24, 3) := by decide +kernel
theorem dJ5_ensureCapacityInternal_d00df_17 : decode cJ5_ensureCapacityInternal_d00df 17 = .ok (.aload_n 0, 1) := by decide +kernel
theorem dJ5_ensureCapacityInternal_d00df_18 : decode cJ5_ensureCapacityInternal_d00df 18 = .ok (.aload_n 0, 1) := by decide +kernel
theorem dJ5_ensureCapacityInternal_d00df_19 : decode cJ5_ensureCapacityInternal_d00df 19 = .ok (.getfield 15, 3) := by decide +kernel
theorem dJ5_ensureCapacityInternal_d00df_22 : decode cJ5_ensureCapacityInternal_d00df 22 = .ok (.aload_n 0, 1) := by decide +kernel
theorem dJ5_ensureCapacityInternal_d00df_23 : decode cJ5_ensureCapacityInternal_d00df 23 = .ok (.iload_n 1, 1) := by decide +kernel
theorem dJ5_ensureCapacityInternal_d00df_24 : decode cJ5_ensureCapacityInternal_d00df 24 = .ok (.invokevirtual 104, 3) := by decide +kernel
theorem dJ5_ensureCapacityInternal_d00df_27 : decode cJ5_ensureCapacityInternal_d00df 27 = .ok (.aload_n 0, 1) := by decide +kernel
theorem dJ5_ensureCapacityInternal_d00df_28 : decode cJ5_ensureCapacityInternal_d00df 28 = .ok (.getfield 22, 3) := by decide +kernel
theorem dJ5_ensureCapacityInternal_d00df_31 : decode cJ5_ensureCapacityInternal_d00df 31 = .ok (.ishl, 1) := by decide +kernel
theorem dJ5_ensureCapacityInternal_d00df_32 : decode cJ5_ensureCapacityInternal_d00df 32 = .ok (.invokestatic 108, 3) := by decide +kernel
theorem dJ5_ensureCapacityInternal_d00df_35 : decode cJ5_ensureCapacityInternal_d00df 35 = .ok (.putfield 15, 3) := by decide +kernel
theorem dJ5_ensureCapacityInternal_d00df_38 : decode cJ5_ensureCapacityInternal_d00df 38 = .ok (.return_, 1) := by decide +kernel
theorem ci_J5_ensureCapacityInternal_d00df : Cond.instanceMethod yJ5_ensureCapacityInternal_d00df ∈ TW := TW_of 448 (by decide +kernel) (by decide +kernel)
theorem sm_J5_ensureCapacityInternal_d00df : Cond.sameMethod yJ5_ensureCapacityInternal_d00df.cls yJ5_ensureCapacityInternal_d00df.cls yJ5_ensureCapacityInternal_d00df.name yJ5_ensureCapacityInternal_d00df.desc ∈ TW := TW_of 1385 (by decide +kernel) (by decide +kernel)
theorem cx_J5_ensureCapacityInternal_d00df : Cond.selects RJ4 yJ5_ensureCapacityInternal_d00df yJ5_ensureCapacityInternal_d00df ∈ TW := TW_x 0 (by decide +kernel) (by decide +kernel)
abbrev cJ5_inflateIfNeededFor_a7421 : ByteArray := prog_16_method_71_code
def yJ5_inflateIfNeededFor_a7421 : MethodName := ⟨RJ5, "inflateIfNeededFor", "(Ljava/lang/String;)V"⟩
theorem dJ5_inflateIfNeededFor_a7421_0 : decode cJ5_inflateIfNeededFor_a7421 0 = .ok (.getstatic 18, 3) := by decide +kernel
theorem dJ5_inflateIfNeededFor_a7421_3 : decode cJ5_inflateIfNeededFor_a7421 3 = .ok (.ifCond .eq 18, 3) := by decide +kernel
theorem dJ5_inflateIfNeededFor_a7421_6 : decode cJ5_inflateIfNeededFor_a7421 6 = .ok (.aload_n 0, 1) := by decide +kernel
theorem dJ5_inflateIfNeededFor_a7421_7 : decode cJ5_inflateIfNeededFor_a7421 7 = .ok (.getfield 22, 3) := by decide +kernel
theorem dJ5_inflateIfNeededFor_a7421_10 : decode cJ5_inflateIfNeededFor_a7421 10 = .ok (.aload_n 1, 1) := by decide +kernel
theorem dJ5_inflateIfNeededFor_a7421_11 : decode cJ5_inflateIfNeededFor_a7421 11 = .ok (.invokevirtual 40, 3) := by decide +kernel
theorem dJ5_inflateIfNeededFor_a7421_14 : decode cJ5_inflateIfNeededFor_a7421 14 = .ok (.if_icmp .eq 7, 3) := by decide +kernel
theorem dJ5_inflateIfNeededFor_a7421_17 : decode cJ5_inflateIfNeededFor_a7421 17 = .ok (.aload_n 0, 1) := by decide +kernel
theorem dJ5_inflateIfNeededFor_a7421_18 : decode cJ5_inflateIfNeededFor_a7421 18 = .ok (.invokevirtual 195, 3) := by decide +kernel
theorem dJ5_inflateIfNeededFor_a7421_21 : decode cJ5_inflateIfNeededFor_a7421 21 = .ok (.return_, 1) := by decide +kernel
theorem ci_J5_inflateIfNeededFor_a7421 : Cond.instanceMethod yJ5_inflateIfNeededFor_a7421 ∈ TW := TW_of 527 (by decide +kernel) (by decide +kernel)
theorem sm_J5_inflateIfNeededFor_a7421 : Cond.sameMethod yJ5_inflateIfNeededFor_a7421.cls yJ5_inflateIfNeededFor_a7421.cls yJ5_inflateIfNeededFor_a7421.name yJ5_inflateIfNeededFor_a7421.desc ∈ TW := TW_of 1388 (by decide +kernel) (by decide +kernel)
theorem cx_J5_inflateIfNeededFor_a7421 : Cond.selects RJ4 yJ5_inflateIfNeededFor_a7421 yJ5_inflateIfNeededFor_a7421 ∈ TW := TW_x 3 (by decide +kernel) (by decide +kernel)
abbrev cJ5_putStringAt_47b60 : ByteArray := prog_16_method_73_code
def yJ5_putStringAt_47b60 : MethodName := ⟨RJ5, "putStringAt", "(ILjava/lang/String;)V"⟩
theorem dJ5_putStringAt_47b60_0 : decode cJ5_putStringAt_47b60 0 = .ok (.aload_n 0, 1) := by decide +kernel
theorem dJ5_putStringAt_47b60_1 : decode cJ5_putStringAt_47b60 1 = .ok (.aload_n 2, 1) := by decide +kernel
theorem dJ5_putStringAt_47b60_2 : decode cJ5_putStringAt_47b60 2 = .ok (.invokevirtual 397, 3) := by decide +kernel
theorem dJ5_putStringAt_47b60_5 : decode cJ5_putStringAt_47b60 5 = .ok (.aload_n 2, 1) := by decide +kernel
theorem dJ5_putStringAt_47b60_6 : decode cJ5_putStringAt_47b60 6 = .ok (.aload_n 0, 1) := by decide +kernel
theorem dJ5_putStringAt_47b60_7 : decode cJ5_putStringAt_47b60 7 = .ok (.getfield 15, 3) := by decide +kernel
theorem dJ5_putStringAt_47b60_10 : decode cJ5_putStringAt_47b60 10 = .ok (.iload_n 1, 1) := by decide +kernel
theorem dJ5_putStringAt_47b60_11 : decode cJ5_putStringAt_47b60 11 = .ok (.aload_n 0, 1) := by decide +kernel
theorem dJ5_putStringAt_47b60_12 : decode cJ5_putStringAt_47b60 12 = .ok (.getfield 22, 3) := by decide +kernel
theorem dJ5_putStringAt_47b60_15 : decode cJ5_putStringAt_47b60 15 = .ok (.invokevirtual 399, 3) := by decide +kernel
theorem dJ5_putStringAt_47b60_18 : decode cJ5_putStringAt_47b60 18 = .ok (.return_, 1) := by decide +kernel
theorem ci_J5_putStringAt_47b60 : Cond.instanceMethod yJ5_putStringAt_47b60 ∈ TW := TW_of 523 (by decide +kernel) (by decide +kernel)
theorem sm_J5_putStringAt_47b60 : Cond.sameMethod yJ5_putStringAt_47b60.cls yJ5_putStringAt_47b60.cls yJ5_putStringAt_47b60.name yJ5_putStringAt_47b60.desc ∈ TW := TW_of 1387 (by decide +kernel) (by decide +kernel)
theorem cx_J5_putStringAt_47b60 : Cond.selects RJ4 yJ5_putStringAt_47b60 yJ5_putStringAt_47b60 ∈ TW := TW_x 2 (by decide +kernel) (by decide +kernel)
abbrev cJ5_append_cf1ce : ByteArray := prog_16_method_22_code
def yJ5_append_cf1ce : MethodName := ⟨RJ5, "append", "(Ljava/lang/String;)Ljava/lang/AbstractStringBuilder;"⟩
theorem dJ5_append_cf1ce_0 : decode cJ5_append_cf1ce 0 = .ok (.aload_n 1, 1) := by decide +kernel
theorem dJ5_append_cf1ce_1 : decode cJ5_append_cf1ce 1 = .ok (.ifnonnull 8, 3) := by decide +kernel
theorem dJ5_append_cf1ce_9 : decode cJ5_append_cf1ce 9 = .ok (.aload_n 1, 1) := by decide +kernel
theorem dJ5_append_cf1ce_10 : decode cJ5_append_cf1ce 10 = .ok (.invokevirtual 32, 3) := by decide +kernel
theorem dJ5_append_cf1ce_13 : decode cJ5_append_cf1ce 13 = .ok (.istore_n 2, 1) := by decide +kernel
theorem dJ5_append_cf1ce_14 : decode cJ5_append_cf1ce 14 = .ok (.aload_n 0, 1) := by decide +kernel
theorem dJ5_append_cf1ce_15 : decode cJ5_append_cf1ce 15 = .ok (.aload_n 0, 1) := by decide +kernel
theorem dJ5_append_cf1ce_16 : decode cJ5_append_cf1ce 16 = .ok (.getfield 79, 3) := by decide +kernel
theorem dJ5_append_cf1ce_19 : decode cJ5_append_cf1ce 19 = .ok (.iload_n 2, 1) := by decide +kernel
theorem dJ5_append_cf1ce_20 : decode cJ5_append_cf1ce 20 = .ok (.iadd, 1) := by decide +kernel
theorem dJ5_append_cf1ce_21 : decode cJ5_append_cf1ce 21 = .ok (.invokevirtual 100, 3) := by decide +kernel
theorem dJ5_append_cf1ce_24 : decode cJ5_append_cf1ce 24 = .ok (.aload_n 0, 1) := by decide +kernel
theorem dJ5_append_cf1ce_25 : decode cJ5_append_cf1ce 25 = .ok (.aload_n 0, 1) := by decide +kernel
theorem dJ5_append_cf1ce_26 : decode cJ5_append_cf1ce 26 = .ok (.getfield 79, 3) := by decide +kernel
theorem dJ5_append_cf1ce_29 : decode cJ5_append_cf1ce 29 = .ok (.aload_n 1, 1) := by decide +kernel
theorem dJ5_append_cf1ce_30 : decode cJ5_append_cf1ce 30 = .ok (.invokevirtual 208, 3) := by decide +kernel
theorem dJ5_append_cf1ce_33 : decode cJ5_append_cf1ce 33 = .ok (.aload_n 0, 1) := by decide +kernel
theorem dJ5_append_cf1ce_34 : decode cJ5_append_cf1ce 34 = .ok (.dup, 1) := by decide +kernel
theorem dJ5_append_cf1ce_35 : decode cJ5_append_cf1ce 35 = .ok (.getfield 79, 3) := by decide +kernel
theorem dJ5_append_cf1ce_38 : decode cJ5_append_cf1ce 38 = .ok (.iload_n 2, 1) := by decide +kernel
theorem dJ5_append_cf1ce_39 : decode cJ5_append_cf1ce 39 = .ok (.iadd, 1) := by decide +kernel
theorem dJ5_append_cf1ce_40 : decode cJ5_append_cf1ce 40 = .ok (.putfield 79, 3) := by decide +kernel
theorem dJ5_append_cf1ce_43 : decode cJ5_append_cf1ce 43 = .ok (.aload_n 0, 1) := by decide +kernel
theorem dJ5_append_cf1ce_44 : decode cJ5_append_cf1ce 44 = .ok (.areturn, 1) := by decide +kernel
theorem ci_J5_append_cf1ce : Cond.instanceMethod yJ5_append_cf1ce ∈ TW := TW_of 440 (by decide +kernel) (by decide +kernel)
theorem sm_J5_append_cf1ce : Cond.sameMethod yJ5_append_cf1ce.cls yJ5_append_cf1ce.cls yJ5_append_cf1ce.name yJ5_append_cf1ce.desc ∈ TW := TW_of 1383 (by decide +kernel) (by decide +kernel)
abbrev cJ4_append_15ec4 : ByteArray := prog_27_method_7_code
def yJ4_append_15ec4 : MethodName := ⟨RJ4, "append", "(Ljava/lang/String;)Ljava/lang/StringBuilder;"⟩
theorem dJ4_append_15ec4_0 : decode cJ4_append_15ec4 0 = .ok (.aload_n 0, 1) := by decide +kernel
theorem dJ4_append_15ec4_1 : decode cJ4_append_15ec4 1 = .ok (.aload_n 1, 1) := by decide +kernel
theorem dJ4_append_15ec4_2 : decode cJ4_append_15ec4 2 = .ok (.invokespecial 29, 3) := by decide +kernel
theorem dJ4_append_15ec4_5 : decode cJ4_append_15ec4 5 = .ok (.pop, 1) := by decide +kernel
theorem dJ4_append_15ec4_6 : decode cJ4_append_15ec4 6 = .ok (.aload_n 0, 1) := by decide +kernel
theorem dJ4_append_15ec4_7 : decode cJ4_append_15ec4 7 = .ok (.areturn, 1) := by decide +kernel
theorem ci_J4_append_15ec4 : Cond.instanceMethod yJ4_append_15ec4 ∈ TW := TW_of 436 (by decide +kernel) (by decide +kernel)
theorem cs_J4_append_15ec4 : Cond.selects yJ4_append_15ec4.cls yJ4_append_15ec4 yJ4_append_15ec4 ∈ TW := TW_of 437 (by decide +kernel) (by decide +kernel)
abbrev cJ5_isLatin1_aae02 : ByteArray := prog_16_method_68_code
def yJ5_isLatin1_aae02 : MethodName := ⟨RJ5, "isLatin1", "()Z"⟩
theorem dJ5_isLatin1_aae02_0 : decode cJ5_isLatin1_aae02 0 = .ok (.getstatic 18, 3) := by decide +kernel
theorem dJ5_isLatin1_aae02_3 : decode cJ5_isLatin1_aae02 3 = .ok (.ifCond .eq 14, 3) := by decide +kernel
theorem dJ5_isLatin1_aae02_6 : decode cJ5_isLatin1_aae02 6 = .ok (.aload_n 0, 1) := by decide +kernel
theorem dJ5_isLatin1_aae02_7 : decode cJ5_isLatin1_aae02 7 = .ok (.getfield 22, 3) := by decide +kernel
theorem dJ5_isLatin1_aae02_10 : decode cJ5_isLatin1_aae02 10 = .ok (.ifCond .ne 7, 3) := by decide +kernel
theorem dJ5_isLatin1_aae02_13 : decode cJ5_isLatin1_aae02 13 = .ok (.iconst 1, 1) := by decide +kernel
theorem dJ5_isLatin1_aae02_14 : decode cJ5_isLatin1_aae02 14 = .ok (.goto 4, 3) := by decide +kernel
theorem dJ5_isLatin1_aae02_17 : decode cJ5_isLatin1_aae02 17 = .ok (.iconst 0, 1) := by decide +kernel
theorem dJ5_isLatin1_aae02_18 : decode cJ5_isLatin1_aae02 18 = .ok (.ireturn, 1) := by decide +kernel
theorem ci_J5_isLatin1_aae02 : Cond.instanceMethod yJ5_isLatin1_aae02 ∈ TW := TW_of 482 (by decide +kernel) (by decide +kernel)
theorem sm_J5_isLatin1_aae02 : Cond.sameMethod yJ5_isLatin1_aae02.cls yJ5_isLatin1_aae02.cls yJ5_isLatin1_aae02.name yJ5_isLatin1_aae02.desc ∈ TW := TW_of 483 (by decide +kernel) (by decide +kernel)
theorem cx_J5_isLatin1_aae02 : Cond.selects RJ4 yJ5_isLatin1_aae02 yJ5_isLatin1_aae02 ∈ TW := TW_of 484 (by decide +kernel) (by decide +kernel)
abbrev cJ6_getChars_ba4f3 : ByteArray := prog_22_method_12_code
def yJ6_getChars_ba4f3 : MethodName := ⟨RJ6, "getChars", "(II[B)I"⟩
theorem dJ6_getChars_ba4f3_0 : decode cJ6_getChars_ba4f3 0 = .ok (.iload_n 1, 1) := by decide +kernel
theorem dJ6_getChars_ba4f3_1 : decode cJ6_getChars_ba4f3 1 = .ok (.istore 5, 2) := by decide +kernel
theorem dJ6_getChars_ba4f3_3 : decode cJ6_getChars_ba4f3 3 = .ok (.iload_n 0, 1) := by decide +kernel
theorem dJ6_getChars_ba4f3_4 : decode cJ6_getChars_ba4f3 4 = .ok (.ifCond .ge 7, 3) := by decide +kernel
theorem dJ6_getChars_ba4f3_7 : decode cJ6_getChars_ba4f3 7 = .ok (.iconst 1, 1) := by decide +kernel
theorem dJ6_getChars_ba4f3_8 : decode cJ6_getChars_ba4f3 8 = .ok (.goto 4, 3) := by decide +kernel
theorem dJ6_getChars_ba4f3_11 : decode cJ6_getChars_ba4f3 11 = .ok (.iconst 0, 1) := by decide +kernel
theorem dJ6_getChars_ba4f3_12 : decode cJ6_getChars_ba4f3 12 = .ok (.istore 6, 2) := by decide +kernel
theorem dJ6_getChars_ba4f3_14 : decode cJ6_getChars_ba4f3 14 = .ok (.iload 6, 2) := by decide +kernel
theorem dJ6_getChars_ba4f3_16 : decode cJ6_getChars_ba4f3 16 = .ok (.ifCond .ne 6, 3) := by decide +kernel
theorem dJ6_getChars_ba4f3_19 : decode cJ6_getChars_ba4f3 19 = .ok (.iload_n 0, 1) := by decide +kernel
theorem dJ6_getChars_ba4f3_20 : decode cJ6_getChars_ba4f3 20 = .ok (.ineg, 1) := by decide +kernel
theorem dJ6_getChars_ba4f3_21 : decode cJ6_getChars_ba4f3 21 = .ok (.istore_n 0, 1) := by decide +kernel
theorem dJ6_getChars_ba4f3_22 : decode cJ6_getChars_ba4f3 22 = .ok (.iload_n 0, 1) := by decide +kernel
theorem dJ6_getChars_ba4f3_23 : decode cJ6_getChars_ba4f3 23 = .ok (.bipush (-100), 2) := by decide +kernel
theorem dJ6_getChars_ba4f3_25 : decode cJ6_getChars_ba4f3 25 = .ok (.if_icmp .gt 47, 3) := by decide +kernel
theorem dJ6_getChars_ba4f3_28 : decode cJ6_getChars_ba4f3 28 = .ok (.iload_n 0, 1) := by decide +kernel
theorem dJ6_getChars_ba4f3_29 : decode cJ6_getChars_ba4f3 29 = .ok (.bipush 100, 2) := by decide +kernel
theorem dJ6_getChars_ba4f3_31 : decode cJ6_getChars_ba4f3 31 = .ok (.idiv, 1) := by decide +kernel
theorem dJ6_getChars_ba4f3_32 : decode cJ6_getChars_ba4f3 32 = .ok (.istore_n 3, 1) := by decide +kernel
theorem dJ6_getChars_ba4f3_33 : decode cJ6_getChars_ba4f3 33 = .ok (.iload_n 3, 1) := by decide +kernel
theorem dJ6_getChars_ba4f3_34 : decode cJ6_getChars_ba4f3 34 = .ok (.bipush 100, 2) := by decide +kernel
theorem dJ6_getChars_ba4f3_36 : decode cJ6_getChars_ba4f3 36 = .ok (.imul, 1) := by decide +kernel
theorem dJ6_getChars_ba4f3_37 : decode cJ6_getChars_ba4f3 37 = .ok (.iload_n 0, 1) := by decide +kernel
theorem dJ6_getChars_ba4f3_38 : decode cJ6_getChars_ba4f3 38 = .ok (.isub, 1) := by decide +kernel
theorem dJ6_getChars_ba4f3_39 : decode cJ6_getChars_ba4f3 39 = .ok (.istore 4, 2) := by decide +kernel
theorem dJ6_getChars_ba4f3_41 : decode cJ6_getChars_ba4f3 41 = .ok (.iload_n 3, 1) := by decide +kernel
theorem dJ6_getChars_ba4f3_42 : decode cJ6_getChars_ba4f3 42 = .ok (.istore_n 0, 1) := by decide +kernel
theorem dJ6_getChars_ba4f3_43 : decode cJ6_getChars_ba4f3 43 = .ok (.aload_n 2, 1) := by decide +kernel
theorem dJ6_getChars_ba4f3_44 : decode cJ6_getChars_ba4f3 44 = .ok (.iinc 5 (-1), 3) := by decide +kernel
theorem dJ6_getChars_ba4f3_47 : decode cJ6_getChars_ba4f3 47 = .ok (.iload 5, 2) := by decide +kernel
theorem dJ6_getChars_ba4f3_49 : decode cJ6_getChars_ba4f3 49 = .ok (.getstatic 83, 3) := by decide +kernel
theorem dJ6_getChars_ba4f3_52 : decode cJ6_getChars_ba4f3 52 = .ok (.iload 4, 2) := by decide +kernel
theorem dJ6_getChars_ba4f3_54 : decode cJ6_getChars_ba4f3 54 = .ok (.baload, 1) := by decide +kernel
theorem dJ6_getChars_ba4f3_55 : decode cJ6_getChars_ba4f3 55 = .ok (.bastore, 1) := by decide +kernel
theorem dJ6_getChars_ba4f3_56 : decode cJ6_getChars_ba4f3 56 = .ok (.aload_n 2, 1) := by decide +kernel
theorem dJ6_getChars_ba4f3_57 : decode cJ6_getChars_ba4f3 57 = .ok (.iinc 5 (-1), 3) := by decide +kernel
theorem dJ6_getChars_ba4f3_60 : decode cJ6_getChars_ba4f3 60 = .ok (.iload 5, 2) := by decide +kernel
theorem dJ6_getChars_ba4f3_62 : decode cJ6_getChars_ba4f3 62 = .ok (.getstatic 87, 3) := by decide +kernel
theorem dJ6_getChars_ba4f3_65 : decode cJ6_getChars_ba4f3 65 = .ok (.iload 4, 2) := by decide +kernel
theorem dJ6_getChars_ba4f3_67 : decode cJ6_getChars_ba4f3 67 = .ok (.baload, 1) := by decide +kernel
theorem dJ6_getChars_ba4f3_68 : decode cJ6_getChars_ba4f3 68 = .ok (.bastore, 1) := by decide +kernel
theorem dJ6_getChars_ba4f3_69 : decode cJ6_getChars_ba4f3 69 = .ok (.goto (-47), 3) := by decide +kernel
theorem dJ6_getChars_ba4f3_72 : decode cJ6_getChars_ba4f3 72 = .ok (.aload_n 2, 1) := by decide +kernel
theorem dJ6_getChars_ba4f3_73 : decode cJ6_getChars_ba4f3 73 = .ok (.iinc 5 (-1), 3) := by decide +kernel
theorem dJ6_getChars_ba4f3_76 : decode cJ6_getChars_ba4f3 76 = .ok (.iload 5, 2) := by decide +kernel
theorem dJ6_getChars_ba4f3_78 : decode cJ6_getChars_ba4f3 78 = .ok (.getstatic 83, 3) := by decide +kernel
theorem dJ6_getChars_ba4f3_81 : decode cJ6_getChars_ba4f3 81 = .ok (.iload_n 0, 1) := by decide +kernel
theorem dJ6_getChars_ba4f3_82 : decode cJ6_getChars_ba4f3 82 = .ok (.ineg, 1) := by decide +kernel
theorem dJ6_getChars_ba4f3_83 : decode cJ6_getChars_ba4f3 83 = .ok (.baload, 1) := by decide +kernel
theorem dJ6_getChars_ba4f3_84 : decode cJ6_getChars_ba4f3 84 = .ok (.bastore, 1) := by decide +kernel
theorem dJ6_getChars_ba4f3_85 : decode cJ6_getChars_ba4f3 85 = .ok (.iload_n 0, 1) := by decide +kernel
theorem dJ6_getChars_ba4f3_86 : decode cJ6_getChars_ba4f3 86 = .ok (.bipush (-9), 2) := by decide +kernel
theorem dJ6_getChars_ba4f3_88 : decode cJ6_getChars_ba4f3 88 = .ok (.if_icmp .ge 16, 3) := by decide +kernel
theorem dJ6_getChars_ba4f3_91 : decode cJ6_getChars_ba4f3 91 = .ok (.aload_n 2, 1) := by decide +kernel
theorem dJ6_getChars_ba4f3_92 : decode cJ6_getChars_ba4f3 92 = .ok (.iinc 5 (-1), 3) := by decide +kernel
theorem dJ6_getChars_ba4f3_95 : decode cJ6_getChars_ba4f3 95 = .ok (.iload 5, 2) := by decide +kernel
theorem dJ6_getChars_ba4f3_97 : decode cJ6_getChars_ba4f3 97 = .ok (.getstatic 87, 3) := by decide +kernel
theorem dJ6_getChars_ba4f3_100 : decode cJ6_getChars_ba4f3 100 = .ok (.iload_n 0, 1) := by decide +kernel
theorem dJ6_getChars_ba4f3_101 : decode cJ6_getChars_ba4f3 101 = .ok (.ineg, 1) := by decide +kernel
theorem dJ6_getChars_ba4f3_102 : decode cJ6_getChars_ba4f3 102 = .ok (.baload, 1) := by decide +kernel
theorem dJ6_getChars_ba4f3_103 : decode cJ6_getChars_ba4f3 103 = .ok (.bastore, 1) := by decide +kernel
theorem dJ6_getChars_ba4f3_104 : decode cJ6_getChars_ba4f3 104 = .ok (.iload 6, 2) := by decide +kernel
theorem dJ6_getChars_ba4f3_106 : decode cJ6_getChars_ba4f3 106 = .ok (.ifCond .eq 12, 3) := by decide +kernel
theorem dJ6_getChars_ba4f3_109 : decode cJ6_getChars_ba4f3 109 = .ok (.aload_n 2, 1) := by decide +kernel
theorem dJ6_getChars_ba4f3_110 : decode cJ6_getChars_ba4f3 110 = .ok (.iinc 5 (-1), 3) := by decide +kernel
theorem dJ6_getChars_ba4f3_113 : decode cJ6_getChars_ba4f3 113 = .ok (.iload 5, 2) := by decide +kernel
theorem dJ6_getChars_ba4f3_115 : decode cJ6_getChars_ba4f3 115 = .ok (.bipush 45, 2) := by decide +kernel
theorem dJ6_getChars_ba4f3_117 : decode cJ6_getChars_ba4f3 117 = .ok (.bastore, 1) := by decide +kernel
theorem dJ6_getChars_ba4f3_118 : decode cJ6_getChars_ba4f3 118 = .ok (.iload 5, 2) := by decide +kernel
theorem dJ6_getChars_ba4f3_120 : decode cJ6_getChars_ba4f3 120 = .ok (.ireturn, 1) := by decide +kernel
theorem ct_J6_getChars_ba4f3 : Cond.static yJ6_getChars_ba4f3 ∈ TW := TW_of 669 (by decide +kernel) (by decide +kernel)
abbrev cJ6_stringSize_0f7a4 : ByteArray := prog_22_method_13_code
def yJ6_stringSize_0f7a4 : MethodName := ⟨RJ6, "stringSize", "(I)I"⟩
theorem dJ6_stringSize_0f7a4_0 : decode cJ6_stringSize_0f7a4 0 = .ok (.iconst 1, 1) := by decide +kernel
theorem dJ6_stringSize_0f7a4_1 : decode cJ6_stringSize_0f7a4 1 = .ok (.istore_n 1, 1) := by decide +kernel
theorem dJ6_stringSize_0f7a4_2 : decode cJ6_stringSize_0f7a4 2 = .ok (.iload_n 0, 1) := by decide +kernel
theorem dJ6_stringSize_0f7a4_3 : decode cJ6_stringSize_0f7a4 3 = .ok (.ifCond .lt 8, 3) := by decide +kernel
theorem dJ6_stringSize_0f7a4_6 : decode cJ6_stringSize_0f7a4 6 = .ok (.iconst 0, 1) := by decide +kernel
theorem dJ6_stringSize_0f7a4_7 : decode cJ6_stringSize_0f7a4 7 = .ok (.istore_n 1, 1) := by decide +kernel
theorem dJ6_stringSize_0f7a4_8 : decode cJ6_stringSize_0f7a4 8 = .ok (.iload_n 0, 1) := by decide +kernel
theorem dJ6_stringSize_0f7a4_9 : decode cJ6_stringSize_0f7a4 9 = .ok (.ineg, 1) := by decide +kernel
theorem dJ6_stringSize_0f7a4_10 : decode cJ6_stringSize_0f7a4 10 = .ok (.istore_n 0, 1) := by decide +kernel
theorem dJ6_stringSize_0f7a4_11 : decode cJ6_stringSize_0f7a4 11 = .ok (.bipush (-10), 2) := by decide +kernel
theorem dJ6_stringSize_0f7a4_13 : decode cJ6_stringSize_0f7a4 13 = .ok (.istore_n 2, 1) := by decide +kernel
theorem dJ6_stringSize_0f7a4_14 : decode cJ6_stringSize_0f7a4 14 = .ok (.iconst 1, 1) := by decide +kernel
theorem dJ6_stringSize_0f7a4_15 : decode cJ6_stringSize_0f7a4 15 = .ok (.istore_n 3, 1) := by decide +kernel
theorem dJ6_stringSize_0f7a4_16 : decode cJ6_stringSize_0f7a4 16 = .ok (.iload_n 3, 1) := by decide +kernel
theorem dJ6_stringSize_0f7a4_17 : decode cJ6_stringSize_0f7a4 17 = .ok (.bipush 10, 2) := by decide +kernel
theorem dJ6_stringSize_0f7a4_19 : decode cJ6_stringSize_0f7a4 19 = .ok (.if_icmp .ge 23, 3) := by decide +kernel
theorem dJ6_stringSize_0f7a4_22 : decode cJ6_stringSize_0f7a4 22 = .ok (.iload_n 0, 1) := by decide +kernel
theorem dJ6_stringSize_0f7a4_23 : decode cJ6_stringSize_0f7a4 23 = .ok (.iload_n 2, 1) := by decide +kernel
theorem dJ6_stringSize_0f7a4_24 : decode cJ6_stringSize_0f7a4 24 = .ok (.if_icmp .le 7, 3) := by decide +kernel
theorem dJ6_stringSize_0f7a4_27 : decode cJ6_stringSize_0f7a4 27 = .ok (.iload_n 3, 1) := by decide +kernel
theorem dJ6_stringSize_0f7a4_28 : decode cJ6_stringSize_0f7a4 28 = .ok (.iload_n 1, 1) := by decide +kernel
theorem dJ6_stringSize_0f7a4_29 : decode cJ6_stringSize_0f7a4 29 = .ok (.iadd, 1) := by decide +kernel
theorem dJ6_stringSize_0f7a4_30 : decode cJ6_stringSize_0f7a4 30 = .ok (.ireturn, 1) := by decide +kernel
theorem dJ6_stringSize_0f7a4_31 : decode cJ6_stringSize_0f7a4 31 = .ok (.bipush 10, 2) := by decide +kernel
theorem dJ6_stringSize_0f7a4_33 : decode cJ6_stringSize_0f7a4 33 = .ok (.iload_n 2, 1) := by decide +kernel
theorem dJ6_stringSize_0f7a4_34 : decode cJ6_stringSize_0f7a4 34 = .ok (.imul, 1) := by decide +kernel
theorem dJ6_stringSize_0f7a4_35 : decode cJ6_stringSize_0f7a4 35 = .ok (.istore_n 2, 1) := by decide +kernel
theorem dJ6_stringSize_0f7a4_36 : decode cJ6_stringSize_0f7a4 36 = .ok (.iinc 3 1, 3) := by decide +kernel
theorem dJ6_stringSize_0f7a4_39 : decode cJ6_stringSize_0f7a4 39 = .ok (.goto (-23), 3) := by decide +kernel
theorem dJ6_stringSize_0f7a4_42 : decode cJ6_stringSize_0f7a4 42 = .ok (.bipush 10, 2) := by decide +kernel
theorem dJ6_stringSize_0f7a4_44 : decode cJ6_stringSize_0f7a4 44 = .ok (.iload_n 1, 1) := by decide +kernel
theorem dJ6_stringSize_0f7a4_45 : decode cJ6_stringSize_0f7a4 45 = .ok (.iadd, 1) := by decide +kernel
theorem dJ6_stringSize_0f7a4_46 : decode cJ6_stringSize_0f7a4 46 = .ok (.ireturn, 1) := by decide +kernel
theorem ct_J6_stringSize_0f7a4 : Cond.static yJ6_stringSize_0f7a4 ∈ TW := TW_of 666 (by decide +kernel) (by decide +kernel)
abbrev cJ5_append_c97b9 : ByteArray := prog_16_method_32_code
def yJ5_append_c97b9 : MethodName := ⟨RJ5, "append", "(I)Ljava/lang/AbstractStringBuilder;"⟩
theorem dJ5_append_c97b9_0 : decode cJ5_append_c97b9 0 = .ok (.aload_n 0, 1) := by decide +kernel
theorem dJ5_append_c97b9_1 : decode cJ5_append_c97b9 1 = .ok (.getfield 79, 3) := by decide +kernel
theorem dJ5_append_c97b9_4 : decode cJ5_append_c97b9 4 = .ok (.istore_n 2, 1) := by decide +kernel
theorem dJ5_append_c97b9_5 : decode cJ5_append_c97b9 5 = .ok (.iload_n 2, 1) := by decide +kernel
theorem dJ5_append_c97b9_6 : decode cJ5_append_c97b9 6 = .ok (.iload_n 1, 1) := by decide +kernel
theorem dJ5_append_c97b9_7 : decode cJ5_append_c97b9 7 = .ok (.invokestatic 245, 3) := by decide +kernel
theorem dJ5_append_c97b9_10 : decode cJ5_append_c97b9 10 = .ok (.iadd, 1) := by decide +kernel
theorem dJ5_append_c97b9_11 : decode cJ5_append_c97b9 11 = .ok (.istore_n 3, 1) := by decide +kernel
theorem dJ5_append_c97b9_12 : decode cJ5_append_c97b9 12 = .ok (.aload_n 0, 1) := by decide +kernel
theorem dJ5_append_c97b9_13 : decode cJ5_append_c97b9 13 = .ok (.iload_n 3, 1) := by decide +kernel
theorem dJ5_append_c97b9_14 : decode cJ5_append_c97b9 14 = .ok (.invokevirtual 100, 3) := by decide +kernel
theorem dJ5_append_c97b9_17 : decode cJ5_append_c97b9 17 = .ok (.aload_n 0, 1) := by decide +kernel
theorem dJ5_append_c97b9_18 : decode cJ5_append_c97b9 18 = .ok (.invokevirtual 83, 3) := by decide +kernel
theorem dJ5_append_c97b9_21 : decode cJ5_append_c97b9 21 = .ok (.ifCond .eq 16, 3) := by decide +kernel
theorem dJ5_append_c97b9_24 : decode cJ5_append_c97b9 24 = .ok (.iload_n 1, 1) := by decide +kernel
theorem dJ5_append_c97b9_25 : decode cJ5_append_c97b9 25 = .ok (.iload_n 3, 1) := by decide +kernel
theorem dJ5_append_c97b9_26 : decode cJ5_append_c97b9 26 = .ok (.aload_n 0, 1) := by decide +kernel
theorem dJ5_append_c97b9_27 : decode cJ5_append_c97b9 27 = .ok (.getfield 15, 3) := by decide +kernel
theorem dJ5_append_c97b9_30 : decode cJ5_append_c97b9 30 = .ok (.invokestatic 248, 3) := by decide +kernel
theorem dJ5_append_c97b9_33 : decode cJ5_append_c97b9 33 = .ok (.pop, 1) := by decide +kernel
theorem dJ5_append_c97b9_34 : decode cJ5_append_c97b9 34 = .ok (.goto 14, 3) := by decide +kernel
theorem dJ5_append_c97b9_37 : decode cJ5_append_c97b9 37 = .ok (.iload_n 1, 1) := by decide +kernel
theorem dJ5_append_c97b9_38 : decode cJ5_append_c97b9 38 = .ok (.iload_n 2, 1) := by decide +kernel
theorem dJ5_append_c97b9_39 : decode cJ5_append_c97b9 39 = .ok (.iload_n 3, 1) := by decide +kernel
theorem dJ5_append_c97b9_40 : decode cJ5_append_c97b9 40 = .ok (.aload_n 0, 1) := by decide +kernel
theorem dJ5_append_c97b9_41 : decode cJ5_append_c97b9 41 = .ok (.getfield 15, 3) := by decide +kernel
theorem dJ5_append_c97b9_44 : decode cJ5_append_c97b9 44 = .ok (.invokestatic 251, 3) := by decide +kernel
theorem dJ5_append_c97b9_48 : decode cJ5_append_c97b9 48 = .ok (.aload_n 0, 1) := by decide +kernel
theorem dJ5_append_c97b9_49 : decode cJ5_append_c97b9 49 = .ok (.iload_n 3, 1) := by decide +kernel
theorem dJ5_append_c97b9_50 : decode cJ5_append_c97b9 50 = .ok (.putfield 79, 3) := by decide +kernel
theorem dJ5_append_c97b9_53 : decode cJ5_append_c97b9 53 = .ok (.aload_n 0, 1) := by decide +kernel
theorem dJ5_append_c97b9_54 : decode cJ5_append_c97b9 54 = .ok (.areturn, 1) := by decide +kernel
theorem ci_J5_append_c97b9 : Cond.instanceMethod yJ5_append_c97b9 ∈ TW := TW_of 663 (by decide +kernel) (by decide +kernel)
theorem sm_J5_append_c97b9 : Cond.sameMethod yJ5_append_c97b9.cls yJ5_append_c97b9.cls yJ5_append_c97b9.name yJ5_append_c97b9.desc ∈ TW := TW_of 1392 (by decide +kernel) (by decide +kernel)
abbrev cJ4_append_bf812 : ByteArray := prog_27_method_15_code
def yJ4_append_bf812 : MethodName := ⟨RJ4, "append", "(I)Ljava/lang/StringBuilder;"⟩
theorem dJ4_append_bf812_0 : decode cJ4_append_bf812 0 = .ok (.aload_n 0, 1) := by decide +kernel
theorem dJ4_append_bf812_1 : decode cJ4_append_bf812 1 = .ok (.iload_n 1, 1) := by decide +kernel
theorem dJ4_append_bf812_2 : decode cJ4_append_bf812 2 = .ok (.invokespecial 53, 3) := by decide +kernel
theorem dJ4_append_bf812_5 : decode cJ4_append_bf812 5 = .ok (.pop, 1) := by decide +kernel
theorem dJ4_append_bf812_6 : decode cJ4_append_bf812 6 = .ok (.aload_n 0, 1) := by decide +kernel
theorem dJ4_append_bf812_7 : decode cJ4_append_bf812 7 = .ok (.areturn, 1) := by decide +kernel
theorem ci_J4_append_bf812 : Cond.instanceMethod yJ4_append_bf812 ∈ TW := TW_of 659 (by decide +kernel) (by decide +kernel)
theorem cs_J4_append_bf812 : Cond.selects yJ4_append_bf812.cls yJ4_append_bf812 yJ4_append_bf812 ∈ TW := TW_of 660 (by decide +kernel) (by decide +kernel)
abbrev cJ1_canEncode_fc78d : ByteArray := prog_28_method_3_code
def yJ1_canEncode_fc78d : MethodName := ⟨RJ1, "canEncode", "(C)Z"⟩
theorem dJ1_canEncode_fc78d_0 : decode cJ1_canEncode_fc78d 0 = .ok (.iload_n 0, 1) := by decide +kernel
theorem dJ1_canEncode_fc78d_1 : decode cJ1_canEncode_fc78d 1 = .ok (.sipush 255, 3) := by decide +kernel
theorem dJ1_canEncode_fc78d_4 : decode cJ1_canEncode_fc78d 4 = .ok (.if_icmp .gt 7, 3) := by decide +kernel
theorem dJ1_canEncode_fc78d_7 : decode cJ1_canEncode_fc78d 7 = .ok (.iconst 1, 1) := by decide +kernel
theorem dJ1_canEncode_fc78d_8 : decode cJ1_canEncode_fc78d 8 = .ok (.goto 4, 3) := by decide +kernel
theorem dJ1_canEncode_fc78d_11 : decode cJ1_canEncode_fc78d 11 = .ok (.iconst 0, 1) := by decide +kernel
theorem dJ1_canEncode_fc78d_12 : decode cJ1_canEncode_fc78d 12 = .ok (.ireturn, 1) := by decide +kernel
theorem ct_J1_canEncode_fc78d : Cond.static yJ1_canEncode_fc78d ∈ TW := TW_of 564 (by decide +kernel) (by decide +kernel)
abbrev cJ5_append_3fe6f : ByteArray := prog_16_method_31_code
def yJ5_append_3fe6f : MethodName := ⟨RJ5, "append", "(C)Ljava/lang/AbstractStringBuilder;"⟩
theorem dJ5_append_3fe6f_0 : decode cJ5_append_3fe6f 0 = .ok (.aload_n 0, 1) := by decide +kernel
theorem dJ5_append_3fe6f_1 : decode cJ5_append_3fe6f 1 = .ok (.aload_n 0, 1) := by decide +kernel
theorem dJ5_append_3fe6f_2 : decode cJ5_append_3fe6f 2 = .ok (.getfield 79, 3) := by decide +kernel
theorem dJ5_append_3fe6f_5 : decode cJ5_append_3fe6f 5 = .ok (.iconst 1, 1) := by decide +kernel
theorem dJ5_append_3fe6f_6 : decode cJ5_append_3fe6f 6 = .ok (.iadd, 1) := by decide +kernel
theorem dJ5_append_3fe6f_7 : decode cJ5_append_3fe6f 7 = .ok (.invokevirtual 100, 3) := by decide +kernel
theorem dJ5_append_3fe6f_10 : decode cJ5_append_3fe6f 10 = .ok (.aload_n 0, 1) := by decide +kernel
theorem dJ5_append_3fe6f_11 : decode cJ5_append_3fe6f 11 = .ok (.invokevirtual 83, 3) := by decide +kernel
theorem dJ5_append_3fe6f_14 : decode cJ5_append_3fe6f 14 = .ok (.ifCond .eq 31, 3) := by decide +kernel
theorem dJ5_append_3fe6f_17 : decode cJ5_append_3fe6f 17 = .ok (.iload_n 1, 1) := by decide +kernel
theorem dJ5_append_3fe6f_18 : decode cJ5_append_3fe6f 18 = .ok (.invokestatic 191, 3) := by decide +kernel
theorem dJ5_append_3fe6f_21 : decode cJ5_append_3fe6f 21 = .ok (.ifCond .eq 24, 3) := by decide +kernel
theorem dJ5_append_3fe6f_24 : decode cJ5_append_3fe6f 24 = .ok (.aload_n 0, 1) := by decide +kernel
theorem dJ5_append_3fe6f_25 : decode cJ5_append_3fe6f 25 = .ok (.getfield 15, 3) := by decide +kernel
theorem dJ5_append_3fe6f_28 : decode cJ5_append_3fe6f 28 = .ok (.aload_n 0, 1) := by decide +kernel
theorem dJ5_append_3fe6f_29 : decode cJ5_append_3fe6f 29 = .ok (.dup, 1) := by decide +kernel
theorem dJ5_append_3fe6f_30 : decode cJ5_append_3fe6f 30 = .ok (.getfield 79, 3) := by decide +kernel
theorem dJ5_append_3fe6f_33 : decode cJ5_append_3fe6f 33 = .ok (.dup_x1, 1) := by decide +kernel
theorem dJ5_append_3fe6f_34 : decode cJ5_append_3fe6f 34 = .ok (.iconst 1, 1) := by decide +kernel
theorem dJ5_append_3fe6f_35 : decode cJ5_append_3fe6f 35 = .ok (.iadd, 1) := by decide +kernel
theorem dJ5_append_3fe6f_36 : decode cJ5_append_3fe6f 36 = .ok (.putfield 79, 3) := by decide +kernel
theorem dJ5_append_3fe6f_39 : decode cJ5_append_3fe6f 39 = .ok (.iload_n 1, 1) := by decide +kernel
theorem dJ5_append_3fe6f_40 : decode cJ5_append_3fe6f 40 = .ok (.i2b, 1) := by decide +kernel
theorem dJ5_append_3fe6f_41 : decode cJ5_append_3fe6f 41 = .ok (.bastore, 1) := by decide +kernel
theorem dJ5_append_3fe6f_42 : decode cJ5_append_3fe6f 42 = .ok (.goto 33, 3) := by decide +kernel
theorem dJ5_append_3fe6f_45 : decode cJ5_append_3fe6f 45 = .ok (.aload_n 0, 1) := by decide +kernel
theorem dJ5_append_3fe6f_46 : decode cJ5_append_3fe6f 46 = .ok (.invokevirtual 83, 3) := by decide +kernel
theorem dJ5_append_3fe6f_49 : decode cJ5_append_3fe6f 49 = .ok (.ifCond .eq 7, 3) := by decide +kernel
theorem dJ5_append_3fe6f_52 : decode cJ5_append_3fe6f 52 = .ok (.aload_n 0, 1) := by decide +kernel
theorem dJ5_append_3fe6f_53 : decode cJ5_append_3fe6f 53 = .ok (.invokevirtual 195, 3) := by decide +kernel
theorem dJ5_append_3fe6f_56 : decode cJ5_append_3fe6f 56 = .ok (.aload_n 0, 1) := by decide +kernel
theorem dJ5_append_3fe6f_57 : decode cJ5_append_3fe6f 57 = .ok (.getfield 15, 3) := by decide +kernel
theorem dJ5_append_3fe6f_60 : decode cJ5_append_3fe6f 60 = .ok (.aload_n 0, 1) := by decide +kernel
theorem dJ5_append_3fe6f_61 : decode cJ5_append_3fe6f 61 = .ok (.dup, 1) := by decide +kernel
theorem dJ5_append_3fe6f_62 : decode cJ5_append_3fe6f 62 = .ok (.getfield 79, 3) := by decide +kernel
theorem dJ5_append_3fe6f_65 : decode cJ5_append_3fe6f 65 = .ok (.dup_x1, 1) := by decide +kernel
theorem dJ5_append_3fe6f_66 : decode cJ5_append_3fe6f 66 = .ok (.iconst 1, 1) := by decide +kernel
theorem dJ5_append_3fe6f_67 : decode cJ5_append_3fe6f 67 = .ok (.iadd, 1) := by decide +kernel
theorem dJ5_append_3fe6f_68 : decode cJ5_append_3fe6f 68 = .ok (.putfield 79, 3) := by decide +kernel
theorem dJ5_append_3fe6f_71 : decode cJ5_append_3fe6f 71 = .ok (.iload_n 1, 1) := by decide +kernel
theorem dJ5_append_3fe6f_72 : decode cJ5_append_3fe6f 72 = .ok (.invokestatic 197, 3) := by decide +kernel
theorem dJ5_append_3fe6f_75 : decode cJ5_append_3fe6f 75 = .ok (.aload_n 0, 1) := by decide +kernel
theorem dJ5_append_3fe6f_76 : decode cJ5_append_3fe6f 76 = .ok (.areturn, 1) := by decide +kernel
theorem ci_J5_append_3fe6f : Cond.instanceMethod yJ5_append_3fe6f ∈ TW := TW_of 561 (by decide +kernel) (by decide +kernel)
theorem sm_J5_append_3fe6f : Cond.sameMethod yJ5_append_3fe6f.cls yJ5_append_3fe6f.cls yJ5_append_3fe6f.name yJ5_append_3fe6f.desc ∈ TW := TW_of 1390 (by decide +kernel) (by decide +kernel)
abbrev cJ4_append_cf468 : ByteArray := prog_27_method_14_code
def yJ4_append_cf468 : MethodName := ⟨RJ4, "append", "(C)Ljava/lang/StringBuilder;"⟩
theorem dJ4_append_cf468_0 : decode cJ4_append_cf468 0 = .ok (.aload_n 0, 1) := by decide +kernel
theorem dJ4_append_cf468_1 : decode cJ4_append_cf468 1 = .ok (.iload_n 1, 1) := by decide +kernel
theorem dJ4_append_cf468_2 : decode cJ4_append_cf468 2 = .ok (.invokespecial 50, 3) := by decide +kernel
theorem dJ4_append_cf468_5 : decode cJ4_append_cf468 5 = .ok (.pop, 1) := by decide +kernel
theorem dJ4_append_cf468_6 : decode cJ4_append_cf468 6 = .ok (.aload_n 0, 1) := by decide +kernel
theorem dJ4_append_cf468_7 : decode cJ4_append_cf468 7 = .ok (.areturn, 1) := by decide +kernel
theorem ci_J4_append_cf468 : Cond.instanceMethod yJ4_append_cf468 ∈ TW := TW_of 557 (by decide +kernel) (by decide +kernel)
theorem cs_J4_append_cf468 : Cond.selects yJ4_append_cf468.cls yJ4_append_cf468 yJ4_append_cf468 ∈ TW := TW_of 558 (by decide +kernel) (by decide +kernel)
abbrev cJ5_init_d00df : ByteArray := prog_16_method_2_code
def yJ5_init_d00df : MethodName := ⟨RJ5, "<init>", "(I)V"⟩
theorem dJ5_init_d00df_0 : decode cJ5_init_d00df 0 = .ok (.aload_n 0, 1) := by decide +kernel
theorem dJ5_init_d00df_1 : decode cJ5_init_d00df 1 = .ok (.invokespecial 3, 3) := by decide +kernel
theorem dJ5_init_d00df_4 : decode cJ5_init_d00df 4 = .ok (.getstatic 18, 3) := by decide +kernel
theorem dJ5_init_d00df_7 : decode cJ5_init_d00df 7 = .ok (.ifCond .eq 18, 3) := by decide +kernel
theorem dJ5_init_d00df_10 : decode cJ5_init_d00df 10 = .ok (.aload_n 0, 1) := by decide +kernel
theorem dJ5_init_d00df_11 : decode cJ5_init_d00df 11 = .ok (.iload_n 1, 1) := by decide +kernel
theorem dJ5_init_d00df_12 : decode cJ5_init_d00df 12 = .ok (.newarray .byte, 2) := by decide +kernel
theorem dJ5_init_d00df_14 : decode cJ5_init_d00df 14 = .ok (.putfield 15, 3) := by decide +kernel
theorem dJ5_init_d00df_17 : decode cJ5_init_d00df 17 = .ok (.aload_n 0, 1) := by decide +kernel
theorem dJ5_init_d00df_18 : decode cJ5_init_d00df 18 = .ok (.iconst 0, 1) := by decide +kernel
theorem dJ5_init_d00df_19 : decode cJ5_init_d00df 19 = .ok (.putfield 22, 3) := by decide +kernel
theorem dJ5_init_d00df_22 : decode cJ5_init_d00df 22 = .ok (.goto 16, 3) := by decide +kernel
theorem dJ5_init_d00df_25 : decode cJ5_init_d00df 25 = .ok (.aload_n 0, 1) := by decide +kernel
theorem dJ5_init_d00df_26 : decode cJ5_init_d00df 26 = .ok (.iload_n 1, 1) := by decide +kernel
theorem dJ5_init_d00df_27 : decode cJ5_init_d00df 27 = .ok (.invokestatic 26, 3) := by decide +kernel
theorem dJ5_init_d00df_38 : decode cJ5_init_d00df 38 = .ok (.return_, 1) := by decide +kernel
theorem ci_J5_init_d00df : Cond.instanceMethod yJ5_init_d00df ∈ TW := TW_of 410 (by decide +kernel) (by decide +kernel)
abbrev cJ4_init_da8c8 : ByteArray := prog_27_method_1_code
def yJ4_init_da8c8 : MethodName := ⟨RJ4, "<init>", "()V"⟩
theorem dJ4_init_da8c8_0 : decode cJ4_init_da8c8 0 = .ok (.aload_n 0, 1) := by decide +kernel
theorem dJ4_init_da8c8_1 : decode cJ4_init_da8c8 1 = .ok (.bipush 16, 2) := by decide +kernel
theorem dJ4_init_da8c8_3 : decode cJ4_init_da8c8 3 = .ok (.invokespecial 1, 3) := by decide +kernel
theorem dJ4_init_da8c8_6 : decode cJ4_init_da8c8 6 = .ok (.return_, 1) := by decide +kernel
theorem ci_J4_init_da8c8 : Cond.instanceMethod yJ4_init_da8c8 ∈ TW := TW_of 407 (by decide +kernel) (by decide +kernel)
abbrev cJ5_length_8abf5 : ByteArray := prog_16_method_6_code
def yJ5_length_8abf5 : MethodName := ⟨RJ5, "length", "()I"⟩
theorem dJ5_length_8abf5_0 : decode cJ5_length_8abf5 0 = .ok (.aload_n 0, 1) := by decide +kernel
theorem dJ5_length_8abf5_1 : decode cJ5_length_8abf5 1 = .ok (.getfield 79, 3) := by decide +kernel
theorem dJ5_length_8abf5_4 : decode cJ5_length_8abf5 4 = .ok (.ireturn, 1) := by decide +kernel
theorem ci_J5_length_8abf5 : Cond.instanceMethod yJ5_length_8abf5 ∈ TW := TW_of 598 (by decide +kernel) (by decide +kernel)
theorem sm_J5_length_8abf5 : Cond.sameMethod yJ5_length_8abf5.cls yJ5_length_8abf5.cls yJ5_length_8abf5.name yJ5_length_8abf5.desc ∈ TW := TW_of 599 (by decide +kernel) (by decide +kernel)
abbrev cJ4_length_8abf5 : ByteArray := prog_27_method_93_code
def yJ4_length_8abf5 : MethodName := ⟨RJ4, "length", "()I"⟩
theorem dJ4_length_8abf5_0 : decode cJ4_length_8abf5 0 = .ok (.aload_n 0, 1) := by decide +kernel
theorem dJ4_length_8abf5_1 : decode cJ4_length_8abf5 1 = .ok (.invokespecial 343, 3) := by decide +kernel
theorem dJ4_length_8abf5_4 : decode cJ4_length_8abf5 4 = .ok (.ireturn, 1) := by decide +kernel
theorem ci_J4_length_8abf5 : Cond.instanceMethod yJ4_length_8abf5 ∈ TW := TW_of 601 (by decide +kernel) (by decide +kernel)
abbrev cJ5_getValue_6d5f1 : ByteArray := prog_16_method_64_code
def yJ5_getValue_6d5f1 : MethodName := ⟨RJ5, "getValue", "()[B"⟩
theorem dJ5_getValue_6d5f1_0 : decode cJ5_getValue_6d5f1 0 = .ok (.aload_n 0, 1) := by decide +kernel
theorem dJ5_getValue_6d5f1_1 : decode cJ5_getValue_6d5f1 1 = .ok (.getfield 15, 3) := by decide +kernel
theorem dJ5_getValue_6d5f1_4 : decode cJ5_getValue_6d5f1 4 = .ok (.areturn, 1) := by decide +kernel
theorem ci_J5_getValue_6d5f1 : Cond.instanceMethod yJ5_getValue_6d5f1 ∈ TW := TW_of 593 (by decide +kernel) (by decide +kernel)
theorem sm_J5_getValue_6d5f1 : Cond.sameMethod yJ5_getValue_6d5f1.cls yJ5_getValue_6d5f1.cls yJ5_getValue_6d5f1.name yJ5_getValue_6d5f1.desc ∈ TW := TW_of 594 (by decide +kernel) (by decide +kernel)
theorem cx_J5_getValue_6d5f1 : Cond.selects RJ4 yJ5_getValue_6d5f1 yJ5_getValue_6d5f1 ∈ TW := TW_of 595 (by decide +kernel) (by decide +kernel)
abbrev cJ7_checkLength_df160 : ByteArray := prog_32_method_131_code
def yJ7_checkLength_df160 : MethodName := ⟨RJ7, "checkLength", "(II)V"⟩
theorem dJ7_checkLength_df160_0 : decode cJ7_checkLength_df160 0 = .ok (.iload_n 1, 1) := by decide +kernel
theorem dJ7_checkLength_df160_1 : decode cJ7_checkLength_df160 1 = .ok (.iload_n 0, 1) := by decide +kernel
theorem dJ7_checkLength_df160_2 : decode cJ7_checkLength_df160 2 = .ok (.if_icmp .ge 35, 3) := by decide +kernel
theorem dJ7_checkLength_df160_5 : decode cJ7_checkLength_df160 5 = .ok (.new 43, 3) := by decide +kernel
theorem dJ7_checkLength_df160_37 : decode cJ7_checkLength_df160 37 = .ok (.return_, 1) := by decide +kernel
theorem ct_J7_checkLength_df160 : Cond.static yJ7_checkLength_df160 ∈ TW := TW_of 613 (by decide +kernel) (by decide +kernel)
abbrev cJ7_copyOfRangeByte_39247 : ByteArray := prog_32_method_133_code
def yJ7_copyOfRangeByte_39247 : MethodName := ⟨RJ7, "copyOfRangeByte", "([BII)[B"⟩
theorem dJ7_copyOfRangeByte_39247_0 : decode cJ7_copyOfRangeByte_39247 0 = .ok (.iload_n 1, 1) := by decide +kernel
theorem dJ7_copyOfRangeByte_39247_1 : decode cJ7_copyOfRangeByte_39247 1 = .ok (.iload_n 2, 1) := by decide +kernel
theorem dJ7_copyOfRangeByte_39247_2 : decode cJ7_copyOfRangeByte_39247 2 = .ok (.invokestatic 343, 3) := by decide +kernel
theorem dJ7_copyOfRangeByte_39247_5 : decode cJ7_copyOfRangeByte_39247 5 = .ok (.iload_n 2, 1) := by decide +kernel
theorem dJ7_copyOfRangeByte_39247_6 : decode cJ7_copyOfRangeByte_39247 6 = .ok (.iload_n 1, 1) := by decide +kernel
theorem dJ7_copyOfRangeByte_39247_7 : decode cJ7_copyOfRangeByte_39247 7 = .ok (.isub, 1) := by decide +kernel
theorem dJ7_copyOfRangeByte_39247_8 : decode cJ7_copyOfRangeByte_39247 8 = .ok (.istore_n 3, 1) := by decide +kernel
theorem dJ7_copyOfRangeByte_39247_9 : decode cJ7_copyOfRangeByte_39247 9 = .ok (.iload_n 3, 1) := by decide +kernel
theorem dJ7_copyOfRangeByte_39247_10 : decode cJ7_copyOfRangeByte_39247 10 = .ok (.newarray .byte, 2) := by decide +kernel
theorem dJ7_copyOfRangeByte_39247_12 : decode cJ7_copyOfRangeByte_39247 12 = .ok (.astore 4, 2) := by decide +kernel
theorem dJ7_copyOfRangeByte_39247_14 : decode cJ7_copyOfRangeByte_39247 14 = .ok (.aload_n 0, 1) := by decide +kernel
theorem dJ7_copyOfRangeByte_39247_15 : decode cJ7_copyOfRangeByte_39247 15 = .ok (.iload_n 1, 1) := by decide +kernel
theorem dJ7_copyOfRangeByte_39247_16 : decode cJ7_copyOfRangeByte_39247 16 = .ok (.aload 4, 2) := by decide +kernel
theorem dJ7_copyOfRangeByte_39247_18 : decode cJ7_copyOfRangeByte_39247 18 = .ok (.iconst 0, 1) := by decide +kernel
theorem dJ7_copyOfRangeByte_39247_19 : decode cJ7_copyOfRangeByte_39247 19 = .ok (.aload_n 0, 1) := by decide +kernel
theorem dJ7_copyOfRangeByte_39247_20 : decode cJ7_copyOfRangeByte_39247 20 = .ok (.arraylength, 1) := by decide +kernel
theorem dJ7_copyOfRangeByte_39247_21 : decode cJ7_copyOfRangeByte_39247 21 = .ok (.iload_n 1, 1) := by decide +kernel
theorem dJ7_copyOfRangeByte_39247_22 : decode cJ7_copyOfRangeByte_39247 22 = .ok (.isub, 1) := by decide +kernel
theorem dJ7_copyOfRangeByte_39247_23 : decode cJ7_copyOfRangeByte_39247 23 = .ok (.iload_n 3, 1) := by decide +kernel
theorem dJ7_copyOfRangeByte_39247_24 : decode cJ7_copyOfRangeByte_39247 24 = .ok (.invokestatic 304, 3) := by decide +kernel
theorem dJ7_copyOfRangeByte_39247_27 : decode cJ7_copyOfRangeByte_39247 27 = .ok (.invokestatic 150, 3) := by decide +kernel
theorem dJ7_copyOfRangeByte_39247_30 : decode cJ7_copyOfRangeByte_39247 30 = .ok (.aload 4, 2) := by decide +kernel
theorem dJ7_copyOfRangeByte_39247_32 : decode cJ7_copyOfRangeByte_39247 32 = .ok (.areturn, 1) := by decide +kernel
theorem ct_J7_copyOfRangeByte_39247 : Cond.static yJ7_copyOfRangeByte_39247 ∈ TW := TW_of 610 (by decide +kernel) (by decide +kernel)
abbrev cJ7_copyOfRange_39247 : ByteArray := prog_32_method_132_code
def yJ7_copyOfRange_39247 : MethodName := ⟨RJ7, "copyOfRange", "([BII)[B"⟩
theorem dJ7_copyOfRange_39247_0 : decode cJ7_copyOfRange_39247 0 = .ok (.iload_n 1, 1) := by decide +kernel
theorem dJ7_copyOfRange_39247_1 : decode cJ7_copyOfRange_39247 1 = .ok (.ifCond .ne 9, 3) := by decide +kernel
theorem dJ7_copyOfRange_39247_4 : decode cJ7_copyOfRange_39247 4 = .ok (.iload_n 2, 1) := by decide +kernel
theorem dJ7_copyOfRange_39247_5 : decode cJ7_copyOfRange_39247 5 = .ok (.aload_n 0, 1) := by decide +kernel
theorem dJ7_copyOfRange_39247_6 : decode cJ7_copyOfRange_39247 6 = .ok (.arraylength, 1) := by decide +kernel
theorem dJ7_copyOfRange_39247_7 : decode cJ7_copyOfRange_39247 7 = .ok (.if_icmp .eq 10, 3) := by decide +kernel
theorem dJ7_copyOfRange_39247_10 : decode cJ7_copyOfRange_39247 10 = .ok (.aload_n 0, 1) := by decide +kernel
theorem dJ7_copyOfRange_39247_11 : decode cJ7_copyOfRange_39247 11 = .ok (.iload_n 1, 1) := by decide +kernel
theorem dJ7_copyOfRange_39247_12 : decode cJ7_copyOfRange_39247 12 = .ok (.iload_n 2, 1) := by decide +kernel
theorem dJ7_copyOfRange_39247_13 : decode cJ7_copyOfRange_39247 13 = .ok (.invokestatic 339, 3) := by decide +kernel
theorem dJ7_copyOfRange_39247_16 : decode cJ7_copyOfRange_39247 16 = .ok (.areturn, 1) := by decide +kernel
theorem dJ7_copyOfRange_39247_17 : decode cJ7_copyOfRange_39247 17 = .ok (.aload_n 0, 1) := by decide +kernel
theorem dJ7_copyOfRange_39247_18 : decode cJ7_copyOfRange_39247 18 = .ok (.invokevirtual 310, 3) := by decide +kernel
theorem dJ7_copyOfRange_39247_21 : decode cJ7_copyOfRange_39247 21 = .ok (.checkcast 311, 3) := by decide +kernel
theorem dJ7_copyOfRange_39247_24 : decode cJ7_copyOfRange_39247 24 = .ok (.areturn, 1) := by decide +kernel
theorem ct_J7_copyOfRange_39247 : Cond.static yJ7_copyOfRange_39247 ∈ TW := TW_of 607 (by decide +kernel) (by decide +kernel)
abbrev cJ0_init_db425 : ByteArray := prog_26_method_150_code
def yJ0_init_db425 : MethodName := ⟨RJ0, "<init>", "(Ljava/lang/AbstractStringBuilder;Ljava/lang/Void;)V"⟩
theorem dJ0_init_db425_0 : decode cJ0_init_db425 0 = .ok (.aload_n 0, 1) := by decide +kernel
theorem dJ0_init_db425_1 : decode cJ0_init_db425 1 = .ok (.invokespecial 1, 3) := by decide +kernel
theorem dJ0_init_db425_4 : decode cJ0_init_db425 4 = .ok (.aload_n 1, 1) := by decide +kernel
theorem dJ0_init_db425_5 : decode cJ0_init_db425 5 = .ok (.invokevirtual 552, 3) := by decide +kernel
theorem dJ0_init_db425_8 : decode cJ0_init_db425 8 = .ok (.astore_n 3, 1) := by decide +kernel
theorem dJ0_init_db425_9 : decode cJ0_init_db425 9 = .ok (.aload_n 1, 1) := by decide +kernel
theorem dJ0_init_db425_10 : decode cJ0_init_db425 10 = .ok (.invokevirtual 549, 3) := by decide +kernel
theorem dJ0_init_db425_13 : decode cJ0_init_db425 13 = .ok (.istore 4, 2) := by decide +kernel
theorem dJ0_init_db425_15 : decode cJ0_init_db425 15 = .ok (.aload_n 1, 1) := by decide +kernel
theorem dJ0_init_db425_16 : decode cJ0_init_db425 16 = .ok (.invokevirtual 1047, 3) := by decide +kernel
theorem dJ0_init_db425_19 : decode cJ0_init_db425 19 = .ok (.ifCond .eq 22, 3) := by decide +kernel
theorem dJ0_init_db425_22 : decode cJ0_init_db425 22 = .ok (.aload_n 0, 1) := by decide +kernel
theorem dJ0_init_db425_23 : decode cJ0_init_db425 23 = .ok (.iconst 0, 1) := by decide +kernel
theorem dJ0_init_db425_24 : decode cJ0_init_db425 24 = .ok (.putfield 15, 3) := by decide +kernel
theorem dJ0_init_db425_27 : decode cJ0_init_db425 27 = .ok (.aload_n 0, 1) := by decide +kernel
theorem dJ0_init_db425_28 : decode cJ0_init_db425 28 = .ok (.aload_n 3, 1) := by decide +kernel
theorem dJ0_init_db425_29 : decode cJ0_init_db425 29 = .ok (.iconst 0, 1) := by decide +kernel
theorem dJ0_init_db425_30 : decode cJ0_init_db425 30 = .ok (.iload 4, 2) := by decide +kernel
theorem dJ0_init_db425_32 : decode cJ0_init_db425 32 = .ok (.invokestatic 54, 3) := by decide +kernel
theorem dJ0_init_db425_35 : decode cJ0_init_db425 35 = .ok (.putfield 9, 3) := by decide +kernel
theorem dJ0_init_db425_38 : decode cJ0_init_db425 38 = .ok (.goto 59, 3) := by decide +kernel
theorem dJ0_init_db425_41 : decode cJ0_init_db425 41 = .ok (.getstatic 38, 3) := by decide +kernel
theorem dJ0_init_db425_44 : decode cJ0_init_db425 44 = .ok (.ifCond .eq 35, 3) := by decide +kernel
theorem dJ0_init_db425_47 : decode cJ0_init_db425 47 = .ok (.aload_n 1, 1) := by decide +kernel
theorem dJ0_init_db425_48 : decode cJ0_init_db425 48 = .ok (.getfield 1048, 3) := by decide +kernel
theorem dJ0_init_db425_51 : decode cJ0_init_db425 51 = .ok (.ifCond .eq 28, 3) := by decide +kernel
theorem dJ0_init_db425_54 : decode cJ0_init_db425 54 = .ok (.aload_n 0, 1) := by decide +kernel
theorem dJ0_init_db425_55 : decode cJ0_init_db425 55 = .ok (.aload_n 3, 1) := by decide +kernel
theorem dJ0_init_db425_56 : decode cJ0_init_db425 56 = .ok (.iconst 0, 1) := by decide +kernel
theorem dJ0_init_db425_57 : decode cJ0_init_db425 57 = .ok (.iload 4, 2) := by decide +kernel
theorem dJ0_init_db425_59 : decode cJ0_init_db425 59 = .ok (.invokestatic 1051, 3) := by decide +kernel
theorem dJ0_init_db425_79 : decode cJ0_init_db425 79 = .ok (.aload_n 0, 1) := by decide +kernel
theorem dJ0_init_db425_80 : decode cJ0_init_db425 80 = .ok (.iconst 1, 1) := by decide +kernel
theorem dJ0_init_db425_81 : decode cJ0_init_db425 81 = .ok (.putfield 15, 3) := by decide +kernel
theorem dJ0_init_db425_84 : decode cJ0_init_db425 84 = .ok (.aload_n 0, 1) := by decide +kernel
theorem dJ0_init_db425_85 : decode cJ0_init_db425 85 = .ok (.aload_n 3, 1) := by decide +kernel
theorem dJ0_init_db425_86 : decode cJ0_init_db425 86 = .ok (.iconst 0, 1) := by decide +kernel
theorem dJ0_init_db425_87 : decode cJ0_init_db425 87 = .ok (.iload 4, 2) := by decide +kernel
theorem dJ0_init_db425_89 : decode cJ0_init_db425 89 = .ok (.iconst 1, 1) := by decide +kernel
theorem dJ0_init_db425_90 : decode cJ0_init_db425 90 = .ok (.ishl, 1) := by decide +kernel
theorem dJ0_init_db425_91 : decode cJ0_init_db425 91 = .ok (.invokestatic 54, 3) := by decide +kernel
theorem dJ0_init_db425_94 : decode cJ0_init_db425 94 = .ok (.putfield 9, 3) := by decide +kernel
theorem dJ0_init_db425_97 : decode cJ0_init_db425 97 = .ok (.return_, 1) := by decide +kernel
theorem ci_J0_init_db425 : Cond.instanceMethod yJ0_init_db425 ∈ TW := TW_of 589 (by decide +kernel) (by decide +kernel)
abbrev cJ0_init_81219 : ByteArray := prog_26_method_53_code
def yJ0_init_81219 : MethodName := ⟨RJ0, "<init>", "(Ljava/lang/StringBuilder;)V"⟩
theorem dJ0_init_81219_0 : decode cJ0_init_81219 0 = .ok (.aload_n 0, 1) := by decide +kernel
theorem dJ0_init_81219_1 : decode cJ0_init_81219 1 = .ok (.aload_n 1, 1) := by decide +kernel
theorem dJ0_init_81219_2 : decode cJ0_init_81219 2 = .ok (.aconst_null, 1) := by decide +kernel
theorem dJ0_init_81219_3 : decode cJ0_init_81219 3 = .ok (.invokespecial 489, 3) := by decide +kernel
theorem dJ0_init_81219_6 : decode cJ0_init_81219 6 = .ok (.return_, 1) := by decide +kernel
theorem ci_J0_init_81219 : Cond.instanceMethod yJ0_init_81219 ∈ TW := TW_of 586 (by decide +kernel) (by decide +kernel)
abbrev cJ4_toString_0e30d : ByteArray := prog_27_method_42_code
def yJ4_toString_0e30d : MethodName := ⟨RJ4, "toString", "()Ljava/lang/String;"⟩
theorem dJ4_toString_0e30d_0 : decode cJ4_toString_0e30d 0 = .ok (.new 18, 3) := by decide +kernel
theorem dJ4_toString_0e30d_3 : decode cJ4_toString_0e30d 3 = .ok (.dup, 1) := by decide +kernel
theorem dJ4_toString_0e30d_4 : decode cJ4_toString_0e30d 4 = .ok (.aload_n 0, 1) := by decide +kernel
theorem dJ4_toString_0e30d_5 : decode cJ4_toString_0e30d 5 = .ok (.invokespecial 137, 3) := by decide +kernel
theorem dJ4_toString_0e30d_8 : decode cJ4_toString_0e30d 8 = .ok (.areturn, 1) := by decide +kernel
theorem ci_J4_toString_0e30d : Cond.instanceMethod yJ4_toString_0e30d ∈ TW := TW_of 580 (by decide +kernel) (by decide +kernel)
theorem cs_J4_toString_0e30d : Cond.selects yJ4_toString_0e30d.cls yJ4_toString_0e30d yJ4_toString_0e30d ∈ TW := TW_of 581 (by decide +kernel) (by decide +kernel)
abbrev cX11_layBlocks : ByteArray := prog_13_method_4_code
def yX11_layBlocks : MethodName := ⟨RX11, "layBlocks", "()V"⟩
theorem dX11_layBlocks_0 : decode cX11_layBlocks 0 = .ok (.iconst 0, 1) := by decide +kernel
theorem dX11_layBlocks_1 : decode cX11_layBlocks 1 = .ok (.istore_n 1, 1) := by decide +kernel
theorem dX11_layBlocks_2 : decode cX11_layBlocks 2 = .ok (.iload_n 1, 1) := by decide +kernel
theorem dX11_layBlocks_3 : decode cX11_layBlocks 3 = .ok (.aload_n 0, 1) := by decide +kernel
theorem dX11_layBlocks_4 : decode cX11_layBlocks 4 = .ok (.getfield 103, 3) := by decide +kernel
theorem dX11_layBlocks_7 : decode cX11_layBlocks 7 = .ok (.if_icmp .ge 141, 3) := by decide +kernel
theorem dX11_layBlocks_10 : decode cX11_layBlocks 10 = .ok (.iconst 0, 1) := by decide +kernel
theorem dX11_layBlocks_11 : decode cX11_layBlocks 11 = .ok (.istore_n 2, 1) := by decide +kernel
theorem dX11_layBlocks_12 : decode cX11_layBlocks 12 = .ok (.iconst 0, 1) := by decide +kernel
theorem dX11_layBlocks_13 : decode cX11_layBlocks 13 = .ok (.istore_n 3, 1) := by decide +kernel
theorem dX11_layBlocks_14 : decode cX11_layBlocks 14 = .ok (.iload_n 3, 1) := by decide +kernel
theorem dX11_layBlocks_15 : decode cX11_layBlocks 15 = .ok (.iload_n 1, 1) := by decide +kernel
theorem dX11_layBlocks_16 : decode cX11_layBlocks 16 = .ok (.if_icmp .ge 38, 3) := by decide +kernel
theorem dX11_layBlocks_19 : decode cX11_layBlocks 19 = .ok (.iload_n 2, 1) := by decide +kernel
theorem dX11_layBlocks_20 : decode cX11_layBlocks 20 = .ok (.ifCond .ne 22, 3) := by decide +kernel
theorem dX11_layBlocks_23 : decode cX11_layBlocks 23 = .ok (.aload_n 0, 1) := by decide +kernel
theorem dX11_layBlocks_24 : decode cX11_layBlocks 24 = .ok (.getfield 9, 3) := by decide +kernel
theorem dX11_layBlocks_27 : decode cX11_layBlocks 27 = .ok (.iload_n 3, 1) := by decide +kernel
theorem dX11_layBlocks_28 : decode cX11_layBlocks 28 = .ok (.aaload, 1) := by decide +kernel
theorem dX11_layBlocks_29 : decode cX11_layBlocks 29 = .ok (.iconst 3, 1) := by decide +kernel
theorem dX11_layBlocks_30 : decode cX11_layBlocks 30 = .ok (.iaload, 1) := by decide +kernel
theorem dX11_layBlocks_31 : decode cX11_layBlocks 31 = .ok (.aload_n 0, 1) := by decide +kernel
theorem dX11_layBlocks_32 : decode cX11_layBlocks 32 = .ok (.getfield 9, 3) := by decide +kernel
theorem dX11_layBlocks_35 : decode cX11_layBlocks 35 = .ok (.iload_n 1, 1) := by decide +kernel
theorem dX11_layBlocks_36 : decode cX11_layBlocks 36 = .ok (.aaload, 1) := by decide +kernel
theorem dX11_layBlocks_37 : decode cX11_layBlocks 37 = .ok (.iconst 2, 1) := by decide +kernel
theorem dX11_layBlocks_38 : decode cX11_layBlocks 38 = .ok (.iaload, 1) := by decide +kernel
theorem dX11_layBlocks_39 : decode cX11_layBlocks 39 = .ok (.if_icmp .le 7, 3) := by decide +kernel
theorem dX11_layBlocks_42 : decode cX11_layBlocks 42 = .ok (.iconst 1, 1) := by decide +kernel
theorem dX11_layBlocks_43 : decode cX11_layBlocks 43 = .ok (.goto 4, 3) := by decide +kernel
theorem dX11_layBlocks_46 : decode cX11_layBlocks 46 = .ok (.iconst 0, 1) := by decide +kernel
theorem dX11_layBlocks_47 : decode cX11_layBlocks 47 = .ok (.istore_n 2, 1) := by decide +kernel
theorem dX11_layBlocks_48 : decode cX11_layBlocks 48 = .ok (.iinc 3 1, 3) := by decide +kernel
theorem dX11_layBlocks_51 : decode cX11_layBlocks 51 = .ok (.goto (-37), 3) := by decide +kernel
theorem dX11_layBlocks_54 : decode cX11_layBlocks 54 = .ok (.iload_n 2, 1) := by decide +kernel
theorem dX11_layBlocks_55 : decode cX11_layBlocks 55 = .ok (.ifCond .ne 40, 3) := by decide +kernel
theorem dX11_layBlocks_58 : decode cX11_layBlocks 58 = .ok (.aload_n 0, 1) := by decide +kernel
theorem dX11_layBlocks_59 : decode cX11_layBlocks 59 = .ok (.getfield 18, 3) := by decide +kernel
theorem dX11_layBlocks_62 : decode cX11_layBlocks 62 = .ok (.aload_n 0, 1) := by decide +kernel
theorem dX11_layBlocks_63 : decode cX11_layBlocks 63 = .ok (.getfield 121, 3) := by decide +kernel
theorem dX11_layBlocks_66 : decode cX11_layBlocks 66 = .ok (.iload_n 1, 1) := by decide +kernel
theorem dX11_layBlocks_67 : decode cX11_layBlocks 67 = .ok (.iastore, 1) := by decide +kernel
theorem dX11_layBlocks_68 : decode cX11_layBlocks 68 = .ok (.aload_n 0, 1) := by decide +kernel
theorem dX11_layBlocks_69 : decode cX11_layBlocks 69 = .ok (.getfield 21, 3) := by decide +kernel
theorem dX11_layBlocks_72 : decode cX11_layBlocks 72 = .ok (.aload_n 0, 1) := by decide +kernel
theorem dX11_layBlocks_73 : decode cX11_layBlocks 73 = .ok (.getfield 121, 3) := by decide +kernel
theorem dX11_layBlocks_76 : decode cX11_layBlocks 76 = .ok (.aload_n 0, 1) := by decide +kernel
theorem dX11_layBlocks_77 : decode cX11_layBlocks 77 = .ok (.getfield 9, 3) := by decide +kernel
theorem dX11_layBlocks_80 : decode cX11_layBlocks 80 = .ok (.iload_n 1, 1) := by decide +kernel
theorem dX11_layBlocks_81 : decode cX11_layBlocks 81 = .ok (.aaload, 1) := by decide +kernel
theorem dX11_layBlocks_82 : decode cX11_layBlocks 82 = .ok (.iconst 2, 1) := by decide +kernel
theorem dX11_layBlocks_83 : decode cX11_layBlocks 83 = .ok (.iaload, 1) := by decide +kernel
theorem dX11_layBlocks_84 : decode cX11_layBlocks 84 = .ok (.iastore, 1) := by decide +kernel
theorem dX11_layBlocks_85 : decode cX11_layBlocks 85 = .ok (.aload_n 0, 1) := by decide +kernel
theorem dX11_layBlocks_86 : decode cX11_layBlocks 86 = .ok (.dup, 1) := by decide +kernel
theorem dX11_layBlocks_87 : decode cX11_layBlocks 87 = .ok (.getfield 121, 3) := by decide +kernel
theorem dX11_layBlocks_90 : decode cX11_layBlocks 90 = .ok (.iconst 1, 1) := by decide +kernel
theorem dX11_layBlocks_91 : decode cX11_layBlocks 91 = .ok (.iadd, 1) := by decide +kernel
theorem dX11_layBlocks_92 : decode cX11_layBlocks 92 = .ok (.putfield 121, 3) := by decide +kernel
theorem dX11_layBlocks_95 : decode cX11_layBlocks 95 = .ok (.aload_n 0, 1) := by decide +kernel
theorem dX11_layBlocks_96 : decode cX11_layBlocks 96 = .ok (.getfield 9, 3) := by decide +kernel
theorem dX11_layBlocks_99 : decode cX11_layBlocks 99 = .ok (.iload_n 1, 1) := by decide +kernel
theorem dX11_layBlocks_100 : decode cX11_layBlocks 100 = .ok (.aaload, 1) := by decide +kernel
theorem dX11_layBlocks_101 : decode cX11_layBlocks 101 = .ok (.iconst 4, 1) := by decide +kernel
theorem dX11_layBlocks_102 : decode cX11_layBlocks 102 = .ok (.aload_n 0, 1) := by decide +kernel
theorem dX11_layBlocks_103 : decode cX11_layBlocks 103 = .ok (.getfield 121, 3) := by decide +kernel
theorem dX11_layBlocks_106 : decode cX11_layBlocks 106 = .ok (.iconst 1, 1) := by decide +kernel
theorem dX11_layBlocks_107 : decode cX11_layBlocks 107 = .ok (.isub, 1) := by decide +kernel
theorem dX11_layBlocks_108 : decode cX11_layBlocks 108 = .ok (.iastore, 1) := by decide +kernel
theorem dX11_layBlocks_109 : decode cX11_layBlocks 109 = .ok (.aload_n 0, 1) := by decide +kernel
theorem dX11_layBlocks_110 : decode cX11_layBlocks 110 = .ok (.getfield 24, 3) := by decide +kernel
theorem dX11_layBlocks_113 : decode cX11_layBlocks 113 = .ok (.aload_n 0, 1) := by decide +kernel
theorem dX11_layBlocks_114 : decode cX11_layBlocks 114 = .ok (.getfield 121, 3) := by decide +kernel
theorem dX11_layBlocks_117 : decode cX11_layBlocks 117 = .ok (.iconst 1, 1) := by decide +kernel
theorem dX11_layBlocks_118 : decode cX11_layBlocks 118 = .ok (.isub, 1) := by decide +kernel
theorem dX11_layBlocks_119 : decode cX11_layBlocks 119 = .ok (.aload_n 0, 1) := by decide +kernel
theorem dX11_layBlocks_120 : decode cX11_layBlocks 120 = .ok (.getfield 24, 3) := by decide +kernel
theorem dX11_layBlocks_123 : decode cX11_layBlocks 123 = .ok (.aload_n 0, 1) := by decide +kernel
theorem dX11_layBlocks_124 : decode cX11_layBlocks 124 = .ok (.getfield 121, 3) := by decide +kernel
theorem dX11_layBlocks_127 : decode cX11_layBlocks 127 = .ok (.iconst 1, 1) := by decide +kernel
theorem dX11_layBlocks_128 : decode cX11_layBlocks 128 = .ok (.isub, 1) := by decide +kernel
theorem dX11_layBlocks_129 : decode cX11_layBlocks 129 = .ok (.iaload, 1) := by decide +kernel
theorem dX11_layBlocks_130 : decode cX11_layBlocks 130 = .ok (.aload_n 0, 1) := by decide +kernel
theorem dX11_layBlocks_131 : decode cX11_layBlocks 131 = .ok (.getfield 9, 3) := by decide +kernel
theorem dX11_layBlocks_134 : decode cX11_layBlocks 134 = .ok (.iload_n 1, 1) := by decide +kernel
theorem dX11_layBlocks_135 : decode cX11_layBlocks 135 = .ok (.aaload, 1) := by decide +kernel
theorem dX11_layBlocks_136 : decode cX11_layBlocks 136 = .ok (.iconst 3, 1) := by decide +kernel
theorem dX11_layBlocks_137 : decode cX11_layBlocks 137 = .ok (.iaload, 1) := by decide +kernel
theorem dX11_layBlocks_138 : decode cX11_layBlocks 138 = .ok (.invokestatic 80, 3) := by decide +kernel
theorem dX11_layBlocks_141 : decode cX11_layBlocks 141 = .ok (.iastore, 1) := by decide +kernel
theorem dX11_layBlocks_142 : decode cX11_layBlocks 142 = .ok (.iinc 1 1, 3) := by decide +kernel
theorem dX11_layBlocks_145 : decode cX11_layBlocks 145 = .ok (.goto (-143), 3) := by decide +kernel
theorem dX11_layBlocks_148 : decode cX11_layBlocks 148 = .ok (.aload_n 0, 1) := by decide +kernel
theorem dX11_layBlocks_149 : decode cX11_layBlocks 149 = .ok (.getfield 18, 3) := by decide +kernel
theorem dX11_layBlocks_152 : decode cX11_layBlocks 152 = .ok (.aload_n 0, 1) := by decide +kernel
theorem dX11_layBlocks_153 : decode cX11_layBlocks 153 = .ok (.getfield 121, 3) := by decide +kernel
theorem dX11_layBlocks_156 : decode cX11_layBlocks 156 = .ok (.aload_n 0, 1) := by decide +kernel
theorem dX11_layBlocks_157 : decode cX11_layBlocks 157 = .ok (.getfield 103, 3) := by decide +kernel
theorem dX11_layBlocks_160 : decode cX11_layBlocks 160 = .ok (.iastore, 1) := by decide +kernel
theorem dX11_layBlocks_161 : decode cX11_layBlocks 161 = .ok (.iconst 0, 1) := by decide +kernel
theorem dX11_layBlocks_162 : decode cX11_layBlocks 162 = .ok (.istore_n 1, 1) := by decide +kernel
theorem dX11_layBlocks_163 : decode cX11_layBlocks 163 = .ok (.iload_n 1, 1) := by decide +kernel
theorem dX11_layBlocks_164 : decode cX11_layBlocks 164 = .ok (.iconst 1, 1) := by decide +kernel
theorem dX11_layBlocks_165 : decode cX11_layBlocks 165 = .ok (.iadd, 1) := by decide +kernel
theorem dX11_layBlocks_166 : decode cX11_layBlocks 166 = .ok (.aload_n 0, 1) := by decide +kernel
theorem dX11_layBlocks_167 : decode cX11_layBlocks 167 = .ok (.getfield 121, 3) := by decide +kernel
theorem dX11_layBlocks_170 : decode cX11_layBlocks 170 = .ok (.if_icmp .ge 121, 3) := by decide +kernel
theorem dX11_layBlocks_173 : decode cX11_layBlocks 173 = .ok (.aload_n 0, 1) := by decide +kernel
theorem dX11_layBlocks_174 : decode cX11_layBlocks 174 = .ok (.getfield 27, 3) := by decide +kernel
theorem dX11_layBlocks_177 : decode cX11_layBlocks 177 = .ok (.iload_n 1, 1) := by decide +kernel
theorem dX11_layBlocks_178 : decode cX11_layBlocks 178 = .ok (.aload_n 0, 1) := by decide +kernel
theorem dX11_layBlocks_179 : decode cX11_layBlocks 179 = .ok (.getfield 24, 3) := by decide +kernel
theorem dX11_layBlocks_182 : decode cX11_layBlocks 182 = .ok (.iload_n 1, 1) := by decide +kernel
theorem dX11_layBlocks_183 : decode cX11_layBlocks 183 = .ok (.iaload, 1) := by decide +kernel
theorem dX11_layBlocks_184 : decode cX11_layBlocks 184 = .ok (.aload_n 0, 1) := by decide +kernel
theorem dX11_layBlocks_185 : decode cX11_layBlocks 185 = .ok (.getfield 21, 3) := by decide +kernel
theorem dX11_layBlocks_188 : decode cX11_layBlocks 188 = .ok (.iload_n 1, 1) := by decide +kernel
theorem dX11_layBlocks_189 : decode cX11_layBlocks 189 = .ok (.iconst 1, 1) := by decide +kernel
theorem dX11_layBlocks_190 : decode cX11_layBlocks 190 = .ok (.iadd, 1) := by decide +kernel
theorem dX11_layBlocks_191 : decode cX11_layBlocks 191 = .ok (.iaload, 1) := by decide +kernel
theorem dX11_layBlocks_192 : decode cX11_layBlocks 192 = .ok (.iadd, 1) := by decide +kernel
theorem dX11_layBlocks_193 : decode cX11_layBlocks 193 = .ok (.iconst 2, 1) := by decide +kernel
theorem dX11_layBlocks_194 : decode cX11_layBlocks 194 = .ok (.idiv, 1) := by decide +kernel
theorem dX11_layBlocks_195 : decode cX11_layBlocks 195 = .ok (.iastore, 1) := by decide +kernel
theorem dX11_layBlocks_196 : decode cX11_layBlocks 196 = .ok (.iconst 0, 1) := by decide +kernel
theorem dX11_layBlocks_197 : decode cX11_layBlocks 197 = .ok (.istore_n 2, 1) := by decide +kernel
theorem dX11_layBlocks_198 : decode cX11_layBlocks 198 = .ok (.iconst 0, 1) := by decide +kernel
theorem dX11_layBlocks_199 : decode cX11_layBlocks 199 = .ok (.istore_n 3, 1) := by decide +kernel
theorem dX11_layBlocks_200 : decode cX11_layBlocks 200 = .ok (.iload_n 3, 1) := by decide +kernel
theorem dX11_layBlocks_201 : decode cX11_layBlocks 201 = .ok (.aload_n 0, 1) := by decide +kernel
theorem dX11_layBlocks_202 : decode cX11_layBlocks 202 = .ok (.getfield 109, 3) := by decide +kernel
theorem dX11_layBlocks_205 : decode cX11_layBlocks 205 = .ok (.if_icmp .ge 80, 3) := by decide +kernel
theorem dX11_layBlocks_208 : decode cX11_layBlocks 208 = .ok (.aload_n 0, 1) := by decide +kernel
theorem dX11_layBlocks_209 : decode cX11_layBlocks 209 = .ok (.getfield 24, 3) := by decide +kernel
theorem dX11_layBlocks_212 : decode cX11_layBlocks 212 = .ok (.iload_n 1, 1) := by decide +kernel
theorem dX11_layBlocks_213 : decode cX11_layBlocks 213 = .ok (.iaload, 1) := by decide +kernel
theorem dX11_layBlocks_214 : decode cX11_layBlocks 214 = .ok (.aload_n 0, 1) := by decide +kernel
theorem dX11_layBlocks_215 : decode cX11_layBlocks 215 = .ok (.getfield 15, 3) := by decide +kernel
theorem dX11_layBlocks_218 : decode cX11_layBlocks 218 = .ok (.iload_n 3, 1) := by decide +kernel
theorem dX11_layBlocks_219 : decode cX11_layBlocks 219 = .ok (.aaload, 1) := by decide +kernel
theorem dX11_layBlocks_220 : decode cX11_layBlocks 220 = .ok (.iconst 0, 1) := by decide +kernel
theorem dX11_layBlocks_221 : decode cX11_layBlocks 221 = .ok (.iaload, 1) := by decide +kernel
theorem dX11_layBlocks_222 : decode cX11_layBlocks 222 = .ok (.invokestatic 80, 3) := by decide +kernel
theorem dX11_layBlocks_225 : decode cX11_layBlocks 225 = .ok (.istore 4, 2) := by decide +kernel
theorem dX11_layBlocks_227 : decode cX11_layBlocks 227 = .ok (.aload_n 0, 1) := by decide +kernel
theorem dX11_layBlocks_228 : decode cX11_layBlocks 228 = .ok (.getfield 21, 3) := by decide +kernel
theorem dX11_layBlocks_231 : decode cX11_layBlocks 231 = .ok (.iload_n 1, 1) := by decide +kernel
theorem dX11_layBlocks_232 : decode cX11_layBlocks 232 = .ok (.iconst 1, 1) := by decide +kernel
theorem dX11_layBlocks_233 : decode cX11_layBlocks 233 = .ok (.iadd, 1) := by decide +kernel
theorem dX11_layBlocks_234 : decode cX11_layBlocks 234 = .ok (.iaload, 1) := by decide +kernel
theorem dX11_layBlocks_235 : decode cX11_layBlocks 235 = .ok (.aload_n 0, 1) := by decide +kernel
theorem dX11_layBlocks_236 : decode cX11_layBlocks 236 = .ok (.getfield 15, 3) := by decide +kernel
theorem dX11_layBlocks_239 : decode cX11_layBlocks 239 = .ok (.iload_n 3, 1) := by decide +kernel
theorem dX11_layBlocks_240 : decode cX11_layBlocks 240 = .ok (.aaload, 1) := by decide +kernel
theorem dX11_layBlocks_241 : decode cX11_layBlocks 241 = .ok (.iconst 1, 1) := by decide +kernel
theorem dX11_layBlocks_242 : decode cX11_layBlocks 242 = .ok (.iaload, 1) := by decide +kernel
theorem dX11_layBlocks_243 : decode cX11_layBlocks 243 = .ok (.invokestatic 124, 3) := by decide +kernel
theorem dX11_layBlocks_246 : decode cX11_layBlocks 246 = .ok (.istore 5, 2) := by decide +kernel
theorem dX11_layBlocks_248 : decode cX11_layBlocks 248 = .ok (.iload 5, 2) := by decide +kernel
theorem dX11_layBlocks_250 : decode cX11_layBlocks 250 = .ok (.iload 4, 2) := by decide +kernel
theorem dX11_layBlocks_252 : decode cX11_layBlocks 252 = .ok (.isub, 1) := by decide +kernel
theorem dX11_layBlocks_253 : decode cX11_layBlocks 253 = .ok (.iload_n 2, 1) := by decide +kernel
theorem dX11_layBlocks_254 : decode cX11_layBlocks 254 = .ok (.if_icmp .gt 6, 3) := by decide +kernel
theorem dX11_layBlocks_257 : decode cX11_layBlocks 257 = .ok (.goto 22, 3) := by decide +kernel
theorem dX11_layBlocks_260 : decode cX11_layBlocks 260 = .ok (.iload 5, 2) := by decide +kernel
theorem dX11_layBlocks_262 : decode cX11_layBlocks 262 = .ok (.iload 4, 2) := by decide +kernel
theorem dX11_layBlocks_264 : decode cX11_layBlocks 264 = .ok (.isub, 1) := by decide +kernel
theorem dX11_layBlocks_265 : decode cX11_layBlocks 265 = .ok (.istore_n 2, 1) := by decide +kernel
theorem dX11_layBlocks_266 : decode cX11_layBlocks 266 = .ok (.aload_n 0, 1) := by decide +kernel
theorem dX11_layBlocks_267 : decode cX11_layBlocks 267 = .ok (.getfield 27, 3) := by decide +kernel
theorem dX11_layBlocks_270 : decode cX11_layBlocks 270 = .ok (.iload_n 1, 1) := by decide +kernel
theorem dX11_layBlocks_271 : decode cX11_layBlocks 271 = .ok (.iload 4, 2) := by decide +kernel
theorem dX11_layBlocks_273 : decode cX11_layBlocks 273 = .ok (.iload 5, 2) := by decide +kernel
theorem dX11_layBlocks_275 : decode cX11_layBlocks 275 = .ok (.iadd, 1) := by decide +kernel
theorem dX11_layBlocks_276 : decode cX11_layBlocks 276 = .ok (.iconst 2, 1) := by decide +kernel
theorem dX11_layBlocks_277 : decode cX11_layBlocks 277 = .ok (.idiv, 1) := by decide +kernel
theorem dX11_layBlocks_278 : decode cX11_layBlocks 278 = .ok (.iastore, 1) := by decide +kernel
theorem dX11_layBlocks_279 : decode cX11_layBlocks 279 = .ok (.iinc 3 1, 3) := by decide +kernel
theorem dX11_layBlocks_282 : decode cX11_layBlocks 282 = .ok (.goto (-82), 3) := by decide +kernel
theorem dX11_layBlocks_285 : decode cX11_layBlocks 285 = .ok (.iinc 1 1, 3) := by decide +kernel
theorem dX11_layBlocks_288 : decode cX11_layBlocks 288 = .ok (.goto (-125), 3) := by decide +kernel
theorem dX11_layBlocks_291 : decode cX11_layBlocks 291 = .ok (.aload_n 0, 1) := by decide +kernel
theorem dX11_layBlocks_292 : decode cX11_layBlocks 292 = .ok (.aload_n 0, 1) := by decide +kernel
theorem dX11_layBlocks_293 : decode cX11_layBlocks 293 = .ok (.getfield 121, 3) := by decide +kernel
theorem dX11_layBlocks_296 : decode cX11_layBlocks 296 = .ok (.newarray .int, 2) := by decide +kernel
theorem dX11_layBlocks_298 : decode cX11_layBlocks 298 = .ok (.putfield 40, 3) := by decide +kernel
theorem dX11_layBlocks_301 : decode cX11_layBlocks 301 = .ok (.iconst 0, 1) := by decide +kernel
theorem dX11_layBlocks_302 : decode cX11_layBlocks 302 = .ok (.istore_n 1, 1) := by decide +kernel
theorem dX11_layBlocks_303 : decode cX11_layBlocks 303 = .ok (.iload_n 1, 1) := by decide +kernel
theorem dX11_layBlocks_304 : decode cX11_layBlocks 304 = .ok (.aload_n 0, 1) := by decide +kernel
theorem dX11_layBlocks_305 : decode cX11_layBlocks 305 = .ok (.getfield 121, 3) := by decide +kernel
theorem dX11_layBlocks_308 : decode cX11_layBlocks 308 = .ok (.if_icmp .ge 16, 3) := by decide +kernel
theorem dX11_layBlocks_311 : decode cX11_layBlocks 311 = .ok (.aload_n 0, 1) := by decide +kernel
theorem dX11_layBlocks_312 : decode cX11_layBlocks 312 = .ok (.getfield 40, 3) := by decide +kernel
theorem dX11_layBlocks_315 : decode cX11_layBlocks 315 = .ok (.iload_n 1, 1) := by decide +kernel
theorem dX11_layBlocks_316 : decode cX11_layBlocks 316 = .ok (.iload_n 1, 1) := by decide +kernel
theorem dX11_layBlocks_317 : decode cX11_layBlocks 317 = .ok (.iastore, 1) := by decide +kernel
theorem dX11_layBlocks_318 : decode cX11_layBlocks 318 = .ok (.iinc 1 1, 3) := by decide +kernel
theorem dX11_layBlocks_321 : decode cX11_layBlocks 321 = .ok (.goto (-18), 3) := by decide +kernel
theorem dX11_layBlocks_324 : decode cX11_layBlocks 324 = .ok (.return_, 1) := by decide +kernel
theorem ci_X11_layBlocks : Cond.instanceMethod yX11_layBlocks ∈ TW := TW_of 753 (by decide +kernel) (by decide +kernel)
theorem cs_X11_layBlocks : Cond.selects yX11_layBlocks.cls yX11_layBlocks yX11_layBlocks ∈ TW := TW_of 3 (by decide +kernel) (by decide +kernel)
abbrev cX11_putWord : ByteArray := prog_13_method_3_code
def yX11_putWord : MethodName := ⟨RX11, "putWord", "([I)V"⟩
theorem dX11_putWord_0 : decode cX11_putWord 0 = .ok (.aload_n 0, 1) := by decide +kernel
theorem dX11_putWord_1 : decode cX11_putWord 1 = .ok (.getfield 103, 3) := by decide +kernel
theorem dX11_putWord_4 : decode cX11_putWord 4 = .ok (.istore_n 2, 1) := by decide +kernel
theorem dX11_putWord_5 : decode cX11_putWord 5 = .ok (.iload_n 2, 1) := by decide +kernel
theorem dX11_putWord_6 : decode cX11_putWord 6 = .ok (.ifCond .le 71, 3) := by decide +kernel
theorem dX11_putWord_9 : decode cX11_putWord 9 = .ok (.aload_n 0, 1) := by decide +kernel
theorem dX11_putWord_10 : decode cX11_putWord 10 = .ok (.getfield 9, 3) := by decide +kernel
theorem dX11_putWord_13 : decode cX11_putWord 13 = .ok (.iload_n 2, 1) := by decide +kernel
theorem dX11_putWord_14 : decode cX11_putWord 14 = .ok (.iconst 1, 1) := by decide +kernel
theorem dX11_putWord_15 : decode cX11_putWord 15 = .ok (.isub, 1) := by decide +kernel
theorem dX11_putWord_16 : decode cX11_putWord 16 = .ok (.aaload, 1) := by decide +kernel
theorem dX11_putWord_17 : decode cX11_putWord 17 = .ok (.iconst 2, 1) := by decide +kernel
theorem dX11_putWord_18 : decode cX11_putWord 18 = .ok (.iaload, 1) := by decide +kernel
theorem dX11_putWord_19 : decode cX11_putWord 19 = .ok (.aload_n 1, 1) := by decide +kernel
theorem dX11_putWord_20 : decode cX11_putWord 20 = .ok (.iconst 2, 1) := by decide +kernel
theorem dX11_putWord_21 : decode cX11_putWord 21 = .ok (.iaload, 1) := by decide +kernel
theorem dX11_putWord_22 : decode cX11_putWord 22 = .ok (.if_icmp .gt 35, 3) := by decide +kernel
theorem dX11_putWord_25 : decode cX11_putWord 25 = .ok (.aload_n 0, 1) := by decide +kernel
theorem dX11_putWord_26 : decode cX11_putWord 26 = .ok (.getfield 9, 3) := by decide +kernel
theorem dX11_putWord_29 : decode cX11_putWord 29 = .ok (.iload_n 2, 1) := by decide +kernel
theorem dX11_putWord_30 : decode cX11_putWord 30 = .ok (.iconst 1, 1) := by decide +kernel
theorem dX11_putWord_31 : decode cX11_putWord 31 = .ok (.isub, 1) := by decide +kernel
theorem dX11_putWord_32 : decode cX11_putWord 32 = .ok (.aaload, 1) := by decide +kernel
theorem dX11_putWord_33 : decode cX11_putWord 33 = .ok (.iconst 2, 1) := by decide +kernel
theorem dX11_putWord_34 : decode cX11_putWord 34 = .ok (.iaload, 1) := by decide +kernel
theorem dX11_putWord_35 : decode cX11_putWord 35 = .ok (.aload_n 1, 1) := by decide +kernel
theorem dX11_putWord_36 : decode cX11_putWord 36 = .ok (.iconst 2, 1) := by decide +kernel
theorem dX11_putWord_37 : decode cX11_putWord 37 = .ok (.iaload, 1) := by decide +kernel
theorem dX11_putWord_38 : decode cX11_putWord 38 = .ok (.if_icmp .ne 39, 3) := by decide +kernel
theorem dX11_putWord_41 : decode cX11_putWord 41 = .ok (.aload_n 0, 1) := by decide +kernel
theorem dX11_putWord_42 : decode cX11_putWord 42 = .ok (.getfield 9, 3) := by decide +kernel
theorem dX11_putWord_45 : decode cX11_putWord 45 = .ok (.iload_n 2, 1) := by decide +kernel
theorem dX11_putWord_46 : decode cX11_putWord 46 = .ok (.iconst 1, 1) := by decide +kernel
theorem dX11_putWord_47 : decode cX11_putWord 47 = .ok (.isub, 1) := by decide +kernel
theorem dX11_putWord_48 : decode cX11_putWord 48 = .ok (.aaload, 1) := by decide +kernel
theorem dX11_putWord_49 : decode cX11_putWord 49 = .ok (.iconst 0, 1) := by decide +kernel
theorem dX11_putWord_50 : decode cX11_putWord 50 = .ok (.iaload, 1) := by decide +kernel
theorem dX11_putWord_51 : decode cX11_putWord 51 = .ok (.aload_n 1, 1) := by decide +kernel
theorem dX11_putWord_52 : decode cX11_putWord 52 = .ok (.iconst 0, 1) := by decide +kernel
theorem dX11_putWord_53 : decode cX11_putWord 53 = .ok (.iaload, 1) := by decide +kernel
theorem dX11_putWord_54 : decode cX11_putWord 54 = .ok (.if_icmp .le 23, 3) := by decide +kernel
theorem dX11_putWord_57 : decode cX11_putWord 57 = .ok (.aload_n 0, 1) := by decide +kernel
theorem dX11_putWord_58 : decode cX11_putWord 58 = .ok (.getfield 9, 3) := by decide +kernel
theorem dX11_putWord_61 : decode cX11_putWord 61 = .ok (.iload_n 2, 1) := by decide +kernel
theorem dX11_putWord_62 : decode cX11_putWord 62 = .ok (.aload_n 0, 1) := by decide +kernel
theorem dX11_putWord_63 : decode cX11_putWord 63 = .ok (.getfield 9, 3) := by decide +kernel
theorem dX11_putWord_66 : decode cX11_putWord 66 = .ok (.iload_n 2, 1) := by decide +kernel
theorem dX11_putWord_67 : decode cX11_putWord 67 = .ok (.iconst 1, 1) := by decide +kernel
theorem dX11_putWord_68 : decode cX11_putWord 68 = .ok (.isub, 1) := by decide +kernel
theorem dX11_putWord_69 : decode cX11_putWord 69 = .ok (.aaload, 1) := by decide +kernel
theorem dX11_putWord_70 : decode cX11_putWord 70 = .ok (.aastore, 1) := by decide +kernel
theorem dX11_putWord_71 : decode cX11_putWord 71 = .ok (.iinc 2 (-1), 3) := by decide +kernel
theorem dX11_putWord_74 : decode cX11_putWord 74 = .ok (.goto (-69), 3) := by decide +kernel
theorem dX11_putWord_77 : decode cX11_putWord 77 = .ok (.aload_n 0, 1) := by decide +kernel
theorem dX11_putWord_78 : decode cX11_putWord 78 = .ok (.getfield 9, 3) := by decide +kernel
theorem dX11_putWord_81 : decode cX11_putWord 81 = .ok (.iload_n 2, 1) := by decide +kernel
theorem dX11_putWord_82 : decode cX11_putWord 82 = .ok (.aload_n 1, 1) := by decide +kernel
theorem dX11_putWord_83 : decode cX11_putWord 83 = .ok (.aastore, 1) := by decide +kernel
theorem dX11_putWord_84 : decode cX11_putWord 84 = .ok (.aload_n 0, 1) := by decide +kernel
theorem dX11_putWord_85 : decode cX11_putWord 85 = .ok (.dup, 1) := by decide +kernel
theorem dX11_putWord_86 : decode cX11_putWord 86 = .ok (.getfield 103, 3) := by decide +kernel
theorem dX11_putWord_89 : decode cX11_putWord 89 = .ok (.iconst 1, 1) := by decide +kernel
theorem dX11_putWord_90 : decode cX11_putWord 90 = .ok (.iadd, 1) := by decide +kernel
theorem dX11_putWord_91 : decode cX11_putWord 91 = .ok (.putfield 103, 3) := by decide +kernel
theorem dX11_putWord_94 : decode cX11_putWord 94 = .ok (.return_, 1) := by decide +kernel
theorem ci_X11_putWord : Cond.instanceMethod yX11_putWord ∈ TW := TW_of 738 (by decide +kernel) (by decide +kernel)
theorem cs_X11_putWord : Cond.selects yX11_putWord.cls yX11_putWord yX11_putWord ∈ TW := TW_of 1 (by decide +kernel) (by decide +kernel)
abbrev cX11_wordOf : ByteArray := prog_13_method_2_code
def yX11_wordOf : MethodName := ⟨RX11, "wordOf", "(II)[I"⟩
theorem dX11_wordOf_0 : decode cX11_wordOf 0 = .ok (.iconst 0, 1) := by decide +kernel
theorem dX11_wordOf_1 : decode cX11_wordOf 1 = .ok (.istore_n 3, 1) := by decide +kernel
theorem dX11_wordOf_2 : decode cX11_wordOf 2 = .ok (.iload_n 3, 1) := by decide +kernel
theorem dX11_wordOf_3 : decode cX11_wordOf 3 = .ok (.aload_n 0, 1) := by decide +kernel
theorem dX11_wordOf_4 : decode cX11_wordOf 4 = .ok (.getfield 103, 3) := by decide +kernel
theorem dX11_wordOf_7 : decode cX11_wordOf 7 = .ok (.if_icmp .ge 40, 3) := by decide +kernel
theorem dX11_wordOf_10 : decode cX11_wordOf 10 = .ok (.aload_n 0, 1) := by decide +kernel
theorem dX11_wordOf_11 : decode cX11_wordOf 11 = .ok (.getfield 9, 3) := by decide +kernel
theorem dX11_wordOf_14 : decode cX11_wordOf 14 = .ok (.iload_n 3, 1) := by decide +kernel
theorem dX11_wordOf_15 : decode cX11_wordOf 15 = .ok (.aaload, 1) := by decide +kernel
theorem dX11_wordOf_16 : decode cX11_wordOf 16 = .ok (.iconst 0, 1) := by decide +kernel
theorem dX11_wordOf_17 : decode cX11_wordOf 17 = .ok (.iaload, 1) := by decide +kernel
theorem dX11_wordOf_18 : decode cX11_wordOf 18 = .ok (.iload_n 1, 1) := by decide +kernel
theorem dX11_wordOf_19 : decode cX11_wordOf 19 = .ok (.if_icmp .ne 22, 3) := by decide +kernel
theorem dX11_wordOf_22 : decode cX11_wordOf 22 = .ok (.aload_n 0, 1) := by decide +kernel
theorem dX11_wordOf_23 : decode cX11_wordOf 23 = .ok (.getfield 9, 3) := by decide +kernel
theorem dX11_wordOf_26 : decode cX11_wordOf 26 = .ok (.iload_n 3, 1) := by decide +kernel
theorem dX11_wordOf_27 : decode cX11_wordOf 27 = .ok (.aaload, 1) := by decide +kernel
theorem dX11_wordOf_28 : decode cX11_wordOf 28 = .ok (.iconst 2, 1) := by decide +kernel
theorem dX11_wordOf_29 : decode cX11_wordOf 29 = .ok (.iaload, 1) := by decide +kernel
theorem dX11_wordOf_30 : decode cX11_wordOf 30 = .ok (.iload_n 2, 1) := by decide +kernel
theorem dX11_wordOf_31 : decode cX11_wordOf 31 = .ok (.if_icmp .ne 10, 3) := by decide +kernel
theorem dX11_wordOf_34 : decode cX11_wordOf 34 = .ok (.aload_n 0, 1) := by decide +kernel
theorem dX11_wordOf_35 : decode cX11_wordOf 35 = .ok (.getfield 9, 3) := by decide +kernel
theorem dX11_wordOf_38 : decode cX11_wordOf 38 = .ok (.iload_n 3, 1) := by decide +kernel
theorem dX11_wordOf_39 : decode cX11_wordOf 39 = .ok (.aaload, 1) := by decide +kernel
theorem dX11_wordOf_40 : decode cX11_wordOf 40 = .ok (.areturn, 1) := by decide +kernel
theorem dX11_wordOf_41 : decode cX11_wordOf 41 = .ok (.iinc 3 1, 3) := by decide +kernel
theorem dX11_wordOf_44 : decode cX11_wordOf 44 = .ok (.goto (-42), 3) := by decide +kernel
theorem dX11_wordOf_47 : decode cX11_wordOf 47 = .ok (.aload_n 0, 1) := by decide +kernel
theorem dX11_wordOf_48 : decode cX11_wordOf 48 = .ok (.getfield 9, 3) := by decide +kernel
theorem dX11_wordOf_51 : decode cX11_wordOf 51 = .ok (.iconst 0, 1) := by decide +kernel
theorem dX11_wordOf_52 : decode cX11_wordOf 52 = .ok (.aaload, 1) := by decide +kernel
theorem dX11_wordOf_53 : decode cX11_wordOf 53 = .ok (.areturn, 1) := by decide +kernel
theorem ci_X11_wordOf : Cond.instanceMethod yX11_wordOf ∈ TW := TW_of 744 (by decide +kernel) (by decide +kernel)
theorem cs_X11_wordOf : Cond.selects yX11_wordOf.cls yX11_wordOf yX11_wordOf ∈ TW := TW_of 2 (by decide +kernel) (by decide +kernel)
abbrev cX11_init : ByteArray := prog_13_method_1_code
def yX11_init : MethodName := ⟨RX11, "<init>", "(LTranscriptCutterLaw$Draws;)V"⟩
theorem dX11_init_0 : decode cX11_init 0 = .ok (.aload_n 0, 1) := by decide +kernel
theorem dX11_init_1 : decode cX11_init 1 = .ok (.invokespecial 1, 3) := by decide +kernel
theorem dX11_init_4 : decode cX11_init 4 = .ok (.aload_n 0, 1) := by decide +kernel
theorem dX11_init_5 : decode cX11_init 5 = .ok (.bipush 40, 2) := by decide +kernel
theorem dX11_init_7 : decode cX11_init 7 = .ok (.anewarray 7, 3) := by decide +kernel
theorem dX11_init_10 : decode cX11_init 10 = .ok (.putfield 9, 3) := by decide +kernel
theorem dX11_init_13 : decode cX11_init 13 = .ok (.aload_n 0, 1) := by decide +kernel
theorem dX11_init_14 : decode cX11_init 14 = .ok (.bipush 12, 2) := by decide +kernel
theorem dX11_init_16 : decode cX11_init 16 = .ok (.anewarray 7, 3) := by decide +kernel
theorem dX11_init_19 : decode cX11_init 19 = .ok (.putfield 15, 3) := by decide +kernel
theorem dX11_init_22 : decode cX11_init 22 = .ok (.aload_n 0, 1) := by decide +kernel
theorem dX11_init_23 : decode cX11_init 23 = .ok (.bipush 41, 2) := by decide +kernel
theorem dX11_init_25 : decode cX11_init 25 = .ok (.newarray .int, 2) := by decide +kernel
theorem dX11_init_27 : decode cX11_init 27 = .ok (.putfield 18, 3) := by decide +kernel
theorem dX11_init_30 : decode cX11_init 30 = .ok (.aload_n 0, 1) := by decide +kernel
theorem dX11_init_31 : decode cX11_init 31 = .ok (.bipush 41, 2) := by decide +kernel
theorem dX11_init_33 : decode cX11_init 33 = .ok (.newarray .int, 2) := by decide +kernel
theorem dX11_init_35 : decode cX11_init 35 = .ok (.putfield 21, 3) := by decide +kernel
theorem dX11_init_38 : decode cX11_init 38 = .ok (.aload_n 0, 1) := by decide +kernel
theorem dX11_init_39 : decode cX11_init 39 = .ok (.bipush 41, 2) := by decide +kernel
theorem dX11_init_41 : decode cX11_init 41 = .ok (.newarray .int, 2) := by decide +kernel
theorem dX11_init_43 : decode cX11_init 43 = .ok (.putfield 24, 3) := by decide +kernel
theorem dX11_init_46 : decode cX11_init 46 = .ok (.aload_n 0, 1) := by decide +kernel
theorem dX11_init_47 : decode cX11_init 47 = .ok (.bipush 41, 2) := by decide +kernel
theorem dX11_init_49 : decode cX11_init 49 = .ok (.newarray .int, 2) := by decide +kernel
theorem dX11_init_51 : decode cX11_init 51 = .ok (.putfield 27, 3) := by decide +kernel
theorem dX11_init_54 : decode cX11_init 54 = .ok (.aload_n 0, 1) := by decide +kernel
theorem dX11_init_55 : decode cX11_init 55 = .ok (.bipush 41, 2) := by decide +kernel
theorem dX11_init_57 : decode cX11_init 57 = .ok (.newarray .int, 2) := by decide +kernel
theorem dX11_init_59 : decode cX11_init 59 = .ok (.putfield 30, 3) := by decide +kernel
theorem dX11_init_62 : decode cX11_init 62 = .ok (.aload_n 0, 1) := by decide +kernel
theorem dX11_init_63 : decode cX11_init 63 = .ok (.bipush 41, 2) := by decide +kernel
theorem dX11_init_65 : decode cX11_init 65 = .ok (.newarray .int, 2) := by decide +kernel
theorem dX11_init_67 : decode cX11_init 67 = .ok (.putfield 33, 3) := by decide +kernel
theorem dX11_init_70 : decode cX11_init 70 = .ok (.aload_n 0, 1) := by decide +kernel
theorem dX11_init_71 : decode cX11_init 71 = .ok (.bipush 40, 2) := by decide +kernel
theorem dX11_init_73 : decode cX11_init 73 = .ok (.newarray .boolean, 2) := by decide +kernel
theorem dX11_init_75 : decode cX11_init 75 = .ok (.putfield 36, 3) := by decide +kernel
theorem dX11_init_78 : decode cX11_init 78 = .ok (.aload_n 0, 1) := by decide +kernel
theorem dX11_init_79 : decode cX11_init 79 = .ok (.iconst 0, 1) := by decide +kernel
theorem dX11_init_80 : decode cX11_init 80 = .ok (.newarray .int, 2) := by decide +kernel
theorem dX11_init_82 : decode cX11_init 82 = .ok (.putfield 40, 3) := by decide +kernel
theorem dX11_init_85 : decode cX11_init 85 = .ok (.aload_n 0, 1) := by decide +kernel
theorem dX11_init_86 : decode cX11_init 86 = .ok (.ldc 43, 2) := by decide +kernel
theorem dX11_init_88 : decode cX11_init 88 = .ok (.putfield 45, 3) := by decide +kernel
theorem dX11_init_91 : decode cX11_init 91 = .ok (.aload_n 0, 1) := by decide +kernel
theorem dX11_init_92 : decode cX11_init 92 = .ok (.aload_n 1, 1) := by decide +kernel
theorem dX11_init_93 : decode cX11_init 93 = .ok (.bipush 20, 2) := by decide +kernel
theorem dX11_init_95 : decode cX11_init 95 = .ok (.invokevirtual 49, 3) := by decide +kernel
theorem dX11_init_98 : decode cX11_init 98 = .ok (.putfield 55, 3) := by decide +kernel
theorem dX11_init_101 : decode cX11_init 101 = .ok (.aload_n 0, 1) := by decide +kernel
theorem dX11_init_102 : decode cX11_init 102 = .ok (.iconst 1, 1) := by decide +kernel
theorem dX11_init_103 : decode cX11_init 103 = .ok (.aload_n 1, 1) := by decide +kernel
theorem dX11_init_104 : decode cX11_init 104 = .ok (.iconst 3, 1) := by decide +kernel
theorem dX11_init_105 : decode cX11_init 105 = .ok (.invokevirtual 49, 3) := by decide +kernel
theorem dX11_init_108 : decode cX11_init 108 = .ok (.iadd, 1) := by decide +kernel
theorem dX11_init_109 : decode cX11_init 109 = .ok (.putfield 59, 3) := by decide +kernel
theorem dX11_init_112 : decode cX11_init 112 = .ok (.iconst 0, 1) := by decide +kernel
theorem dX11_init_113 : decode cX11_init 113 = .ok (.istore_n 2, 1) := by decide +kernel
theorem dX11_init_114 : decode cX11_init 114 = .ok (.iload_n 2, 1) := by decide +kernel
theorem dX11_init_115 : decode cX11_init 115 = .ok (.aload_n 0, 1) := by decide +kernel
theorem dX11_init_116 : decode cX11_init 116 = .ok (.getfield 59, 3) := by decide +kernel
theorem dX11_init_119 : decode cX11_init 119 = .ok (.if_icmp .ge 48, 3) := by decide +kernel
theorem dX11_init_122 : decode cX11_init 122 = .ok (.aload_n 0, 1) := by decide +kernel
theorem dX11_init_123 : decode cX11_init 123 = .ok (.new 62, 3) := by decide +kernel
theorem dX11_init_126 : decode cX11_init 126 = .ok (.dup, 1) := by decide +kernel
theorem dX11_init_127 : decode cX11_init 127 = .ok (.invokespecial 64, 3) := by decide +kernel
theorem dX11_init_130 : decode cX11_init 130 = .ok (.aload_n 0, 1) := by decide +kernel
theorem dX11_init_131 : decode cX11_init 131 = .ok (.getfield 45, 3) := by decide +kernel
theorem dX11_init_134 : decode cX11_init 134 = .ok (.invokevirtual 65, 3) := by decide +kernel
theorem dX11_init_137 : decode cX11_init 137 = .ok (.ldc 69, 2) := by decide +kernel
theorem dX11_init_139 : decode cX11_init 139 = .ok (.invokevirtual 65, 3) := by decide +kernel
theorem dX11_init_142 : decode cX11_init 142 = .ok (.bipush 97, 2) := by decide +kernel
theorem dX11_init_144 : decode cX11_init 144 = .ok (.iload_n 2, 1) := by decide +kernel
theorem dX11_init_145 : decode cX11_init 145 = .ok (.iadd, 1) := by decide +kernel
theorem dX11_init_146 : decode cX11_init 146 = .ok (.i2c, 1) := by decide +kernel
theorem dX11_init_147 : decode cX11_init 147 = .ok (.invokevirtual 71, 3) := by decide +kernel
theorem dX11_init_150 : decode cX11_init 150 = .ok (.ldc 74, 2) := by decide +kernel
theorem dX11_init_152 : decode cX11_init 152 = .ok (.invokevirtual 65, 3) := by decide +kernel
theorem dX11_init_155 : decode cX11_init 155 = .ok (.invokevirtual 76, 3) := by decide +kernel
theorem dX11_init_158 : decode cX11_init 158 = .ok (.putfield 45, 3) := by decide +kernel
theorem dX11_init_161 : decode cX11_init 161 = .ok (.iinc 2 1, 3) := by decide +kernel
theorem dX11_init_164 : decode cX11_init 164 = .ok (.goto (-50), 3) := by decide +kernel
theorem dX11_init_167 : decode cX11_init 167 = .ok (.iconst 4, 1) := by decide +kernel
theorem dX11_init_168 : decode cX11_init 168 = .ok (.newarray .int, 2) := by decide +kernel
theorem dX11_init_170 : decode cX11_init 170 = .ok (.astore_n 2, 1) := by decide +kernel
theorem dX11_init_171 : decode cX11_init 171 = .ok (.iconst 0, 1) := by decide +kernel
theorem dX11_init_172 : decode cX11_init 172 = .ok (.istore_n 3, 1) := by decide +kernel
theorem dX11_init_173 : decode cX11_init 173 = .ok (.iconst 3, 1) := by decide +kernel
theorem dX11_init_174 : decode cX11_init 174 = .ok (.aload_n 1, 1) := by decide +kernel
theorem dX11_init_175 : decode cX11_init 175 = .ok (.bipush 8, 2) := by decide +kernel
theorem dX11_init_177 : decode cX11_init 177 = .ok (.invokevirtual 49, 3) := by decide +kernel
theorem dX11_init_180 : decode cX11_init 180 = .ok (.iadd, 1) := by decide +kernel
theorem dX11_init_181 : decode cX11_init 181 = .ok (.istore 4, 2) := by decide +kernel
theorem dX11_init_183 : decode cX11_init 183 = .ok (.iload 4, 2) := by decide +kernel
theorem dX11_init_185 : decode cX11_init 185 = .ok (.ifCond .le 190, 3) := by decide +kernel
theorem dX11_init_188 : decode cX11_init 188 = .ok (.aload_n 1, 1) := by decide +kernel
theorem dX11_init_189 : decode cX11_init 189 = .ok (.aload_n 0, 1) := by decide +kernel
theorem dX11_init_190 : decode cX11_init 190 = .ok (.getfield 59, 3) := by decide +kernel
theorem dX11_init_193 : decode cX11_init 193 = .ok (.invokevirtual 49, 3) := by decide +kernel
theorem dX11_init_196 : decode cX11_init 196 = .ok (.istore 5, 2) := by decide +kernel
theorem dX11_init_198 : decode cX11_init 198 = .ok (.aload_n 2, 1) := by decide +kernel
theorem dX11_init_199 : decode cX11_init 199 = .ok (.iload 5, 2) := by decide +kernel
theorem dX11_init_201 : decode cX11_init 201 = .ok (.iaload, 1) := by decide +kernel
theorem dX11_init_202 : decode cX11_init 202 = .ok (.iload_n 3, 1) := by decide +kernel
theorem dX11_init_203 : decode cX11_init 203 = .ok (.aload_n 1, 1) := by decide +kernel
theorem dX11_init_204 : decode cX11_init 204 = .ok (.bipush 12, 2) := by decide +kernel
theorem dX11_init_206 : decode cX11_init 206 = .ok (.invokevirtual 49, 3) := by decide +kernel
theorem dX11_init_209 : decode cX11_init 209 = .ok (.iadd, 1) := by decide +kernel
theorem dX11_init_210 : decode cX11_init 210 = .ok (.invokestatic 80, 3) := by decide +kernel
theorem dX11_init_213 : decode cX11_init 213 = .ok (.istore 6, 2) := by decide +kernel
theorem dX11_init_215 : decode cX11_init 215 = .ok (.iload 6, 2) := by decide +kernel
theorem dX11_init_217 : decode cX11_init 217 = .ok (.iconst 1, 1) := by decide +kernel
theorem dX11_init_218 : decode cX11_init 218 = .ok (.iadd, 1) := by decide +kernel
theorem dX11_init_219 : decode cX11_init 219 = .ok (.aload_n 1, 1) := by decide +kernel
theorem dX11_init_220 : decode cX11_init 220 = .ok (.bipush 9, 2) := by decide +kernel
theorem dX11_init_222 : decode cX11_init 222 = .ok (.invokevirtual 49, 3) := by decide +kernel
theorem dX11_init_225 : decode cX11_init 225 = .ok (.iadd, 1) := by decide +kernel
theorem dX11_init_226 : decode cX11_init 226 = .ok (.istore 7, 2) := by decide +kernel
theorem dX11_init_228 : decode cX11_init 228 = .ok (.aload_n 0, 1) := by decide +kernel
theorem dX11_init_229 : decode cX11_init 229 = .ok (.iconst 5, 1) := by decide +kernel
theorem dX11_init_230 : decode cX11_init 230 = .ok (.newarray .int, 2) := by decide +kernel
theorem dX11_init_232 : decode cX11_init 232 = .ok (.dup, 1) := by decide +kernel
theorem dX11_init_233 : decode cX11_init 233 = .ok (.iconst 0, 1) := by decide +kernel
theorem dX11_init_234 : decode cX11_init 234 = .ok (.iload 5, 2) := by decide +kernel
theorem dX11_init_236 : decode cX11_init 236 = .ok (.iastore, 1) := by decide +kernel
theorem dX11_init_237 : decode cX11_init 237 = .ok (.dup, 1) := by decide +kernel
theorem dX11_init_238 : decode cX11_init 238 = .ok (.iconst 1, 1) := by decide +kernel
theorem dX11_init_239 : decode cX11_init 239 = .ok (.aload_n 1, 1) := by decide +kernel
theorem dX11_init_240 : decode cX11_init 240 = .ok (.iconst 3, 1) := by decide +kernel
theorem dX11_init_241 : decode cX11_init 241 = .ok (.invokevirtual 49, 3) := by decide +kernel
theorem dX11_init_244 : decode cX11_init 244 = .ok (.iastore, 1) := by decide +kernel
theorem dX11_init_245 : decode cX11_init 245 = .ok (.dup, 1) := by decide +kernel
theorem dX11_init_246 : decode cX11_init 246 = .ok (.iconst 2, 1) := by decide +kernel
theorem dX11_init_247 : decode cX11_init 247 = .ok (.iload 6, 2) := by decide +kernel
theorem dX11_init_249 : decode cX11_init 249 = .ok (.iastore, 1) := by decide +kernel
theorem dX11_init_250 : decode cX11_init 250 = .ok (.dup, 1) := by decide +kernel
theorem dX11_init_251 : decode cX11_init 251 = .ok (.iconst 3, 1) := by decide +kernel
theorem dX11_init_252 : decode cX11_init 252 = .ok (.iload 7, 2) := by decide +kernel
theorem dX11_init_254 : decode cX11_init 254 = .ok (.iastore, 1) := by decide +kernel
theorem dX11_init_255 : decode cX11_init 255 = .ok (.dup, 1) := by decide +kernel
theorem dX11_init_256 : decode cX11_init 256 = .ok (.iconst 4, 1) := by decide +kernel
theorem dX11_init_257 : decode cX11_init 257 = .ok (.iconst 0, 1) := by decide +kernel
theorem dX11_init_258 : decode cX11_init 258 = .ok (.iastore, 1) := by decide +kernel
theorem dX11_init_259 : decode cX11_init 259 = .ok (.invokevirtual 86, 3) := by decide +kernel
theorem dX11_init_262 : decode cX11_init 262 = .ok (.aload_n 2, 1) := by decide +kernel
theorem dX11_init_263 : decode cX11_init 263 = .ok (.iload 5, 2) := by decide +kernel
theorem dX11_init_265 : decode cX11_init 265 = .ok (.iload 7, 2) := by decide +kernel
theorem dX11_init_267 : decode cX11_init 267 = .ok (.aload_n 1, 1) := by decide +kernel
theorem dX11_init_268 : decode cX11_init 268 = .ok (.iconst 2, 1) := by decide +kernel
theorem dX11_init_269 : decode cX11_init 269 = .ok (.invokevirtual 49, 3) := by decide +kernel
theorem dX11_init_272 : decode cX11_init 272 = .ok (.iadd, 1) := by decide +kernel
theorem dX11_init_273 : decode cX11_init 273 = .ok (.iastore, 1) := by decide +kernel
theorem dX11_init_274 : decode cX11_init 274 = .ok (.iload_n 3, 1) := by decide +kernel
theorem dX11_init_275 : decode cX11_init 275 = .ok (.iload 6, 2) := by decide +kernel
theorem dX11_init_277 : decode cX11_init 277 = .ok (.aload_n 1, 1) := by decide +kernel
theorem dX11_init_278 : decode cX11_init 278 = .ok (.iconst 4, 1) := by decide +kernel
theorem dX11_init_279 : decode cX11_init 279 = .ok (.invokevirtual 49, 3) := by decide +kernel
theorem dX11_init_282 : decode cX11_init 282 = .ok (.isub, 1) := by decide +kernel
theorem dX11_init_283 : decode cX11_init 283 = .ok (.invokestatic 80, 3) := by decide +kernel
theorem dX11_init_286 : decode cX11_init 286 = .ok (.istore_n 3, 1) := by decide +kernel
theorem dX11_init_287 : decode cX11_init 287 = .ok (.aload_n 0, 1) := by decide +kernel
theorem dX11_init_288 : decode cX11_init 288 = .ok (.new 62, 3) := by decide +kernel
theorem dX11_init_291 : decode cX11_init 291 = .ok (.dup, 1) := by decide +kernel
theorem dX11_init_292 : decode cX11_init 292 = .ok (.invokespecial 64, 3) := by decide +kernel
theorem dX11_init_295 : decode cX11_init 295 = .ok (.aload_n 0, 1) := by decide +kernel
theorem dX11_init_296 : decode cX11_init 296 = .ok (.getfield 45, 3) := by decide +kernel
theorem dX11_init_299 : decode cX11_init 299 = .ok (.invokevirtual 65, 3) := by decide +kernel
theorem dX11_init_302 : decode cX11_init 302 = .ok (.ldc 90, 2) := by decide +kernel
theorem dX11_init_304 : decode cX11_init 304 = .ok (.invokevirtual 65, 3) := by decide +kernel
theorem dX11_init_307 : decode cX11_init 307 = .ok (.bipush 97, 2) := by decide +kernel
theorem dX11_init_309 : decode cX11_init 309 = .ok (.iload 5, 2) := by decide +kernel
theorem dX11_init_311 : decode cX11_init 311 = .ok (.iadd, 1) := by decide +kernel
theorem dX11_init_312 : decode cX11_init 312 = .ok (.i2c, 1) := by decide +kernel
theorem dX11_init_313 : decode cX11_init 313 = .ok (.invokevirtual 71, 3) := by decide +kernel
theorem dX11_init_316 : decode cX11_init 316 = .ok (.ldc 92, 2) := by decide +kernel
theorem dX11_init_318 : decode cX11_init 318 = .ok (.invokevirtual 65, 3) := by decide +kernel
theorem dX11_init_321 : decode cX11_init 321 = .ok (.bipush 97, 2) := by decide +kernel
theorem dX11_init_323 : decode cX11_init 323 = .ok (.aload_n 0, 1) := by decide +kernel
theorem dX11_init_324 : decode cX11_init 324 = .ok (.iload 5, 2) := by decide +kernel
theorem dX11_init_326 : decode cX11_init 326 = .ok (.iload 6, 2) := by decide +kernel
theorem dX11_init_328 : decode cX11_init 328 = .ok (.invokevirtual 94, 3) := by decide +kernel
theorem dX11_init_331 : decode cX11_init 331 = .ok (.iconst 1, 1) := by decide +kernel
theorem dX11_init_332 : decode cX11_init 332 = .ok (.iaload, 1) := by decide +kernel
theorem dX11_init_333 : decode cX11_init 333 = .ok (.iadd, 1) := by decide +kernel
theorem dX11_init_334 : decode cX11_init 334 = .ok (.i2c, 1) := by decide +kernel
theorem dX11_init_335 : decode cX11_init 335 = .ok (.invokevirtual 71, 3) := by decide +kernel
theorem dX11_init_338 : decode cX11_init 338 = .ok (.ldc 98, 2) := by decide +kernel
theorem dX11_init_340 : decode cX11_init 340 = .ok (.invokevirtual 65, 3) := by decide +kernel
theorem dX11_init_343 : decode cX11_init 343 = .ok (.iload 6, 2) := by decide +kernel
theorem dX11_init_345 : decode cX11_init 345 = .ok (.invokevirtual 100, 3) := by decide +kernel
theorem dX11_init_348 : decode cX11_init 348 = .ok (.ldc 98, 2) := by decide +kernel
theorem dX11_init_350 : decode cX11_init 350 = .ok (.invokevirtual 65, 3) := by decide +kernel
theorem dX11_init_353 : decode cX11_init 353 = .ok (.iload 7, 2) := by decide +kernel
theorem dX11_init_355 : decode cX11_init 355 = .ok (.invokevirtual 100, 3) := by decide +kernel
theorem dX11_init_358 : decode cX11_init 358 = .ok (.ldc 74, 2) := by decide +kernel
theorem dX11_init_360 : decode cX11_init 360 = .ok (.invokevirtual 65, 3) := by decide +kernel
theorem dX11_init_363 : decode cX11_init 363 = .ok (.invokevirtual 76, 3) := by decide +kernel
theorem dX11_init_366 : decode cX11_init 366 = .ok (.putfield 45, 3) := by decide +kernel
theorem dX11_init_369 : decode cX11_init 369 = .ok (.iinc 4 (-1), 3) := by decide +kernel
theorem dX11_init_372 : decode cX11_init 372 = .ok (.goto (-189), 3) := by decide +kernel
theorem dX11_init_375 : decode cX11_init 375 = .ok (.iconst 0, 1) := by decide +kernel
theorem dX11_init_376 : decode cX11_init 376 = .ok (.istore 4, 2) := by decide +kernel
theorem dX11_init_378 : decode cX11_init 378 = .ok (.iconst 0, 1) := by decide +kernel
theorem dX11_init_379 : decode cX11_init 379 = .ok (.istore 5, 2) := by decide +kernel
theorem dX11_init_381 : decode cX11_init 381 = .ok (.iload 5, 2) := by decide +kernel
theorem dX11_init_383 : decode cX11_init 383 = .ok (.aload_n 0, 1) := by decide +kernel
theorem dX11_init_384 : decode cX11_init 384 = .ok (.getfield 103, 3) := by decide +kernel
theorem dX11_init_387 : decode cX11_init 387 = .ok (.if_icmp .ge 25, 3) := by decide +kernel
theorem dX11_init_390 : decode cX11_init 390 = .ok (.iload 4, 2) := by decide +kernel
theorem dX11_init_392 : decode cX11_init 392 = .ok (.aload_n 0, 1) := by decide +kernel
theorem dX11_init_393 : decode cX11_init 393 = .ok (.getfield 9, 3) := by decide +kernel
theorem dX11_init_396 : decode cX11_init 396 = .ok (.iload 5, 2) := by decide +kernel
theorem dX11_init_398 : decode cX11_init 398 = .ok (.aaload, 1) := by decide +kernel
theorem dX11_init_399 : decode cX11_init 399 = .ok (.iconst 3, 1) := by decide +kernel
theorem dX11_init_400 : decode cX11_init 400 = .ok (.iaload, 1) := by decide +kernel
theorem dX11_init_401 : decode cX11_init 401 = .ok (.invokestatic 80, 3) := by decide +kernel
theorem dX11_init_404 : decode cX11_init 404 = .ok (.istore 4, 2) := by decide +kernel
theorem dX11_init_406 : decode cX11_init 406 = .ok (.iinc 5 1, 3) := by decide +kernel
theorem dX11_init_409 : decode cX11_init 409 = .ok (.goto (-28), 3) := by decide +kernel
theorem dX11_init_412 : decode cX11_init 412 = .ok (.aload_n 0, 1) := by decide +kernel
theorem dX11_init_413 : decode cX11_init 413 = .ok (.iload 4, 2) := by decide +kernel
theorem dX11_init_415 : decode cX11_init 415 = .ok (.aload_n 1, 1) := by decide +kernel
theorem dX11_init_416 : decode cX11_init 416 = .ok (.bipush 9, 2) := by decide +kernel
theorem dX11_init_418 : decode cX11_init 418 = .ok (.invokevirtual 49, 3) := by decide +kernel
theorem dX11_init_421 : decode cX11_init 421 = .ok (.iadd, 1) := by decide +kernel
theorem dX11_init_422 : decode cX11_init 422 = .ok (.putfield 106, 3) := by decide +kernel
theorem dX11_init_425 : decode cX11_init 425 = .ok (.aload_n 1, 1) := by decide +kernel
theorem dX11_init_426 : decode cX11_init 426 = .ok (.iconst 4, 1) := by decide +kernel
theorem dX11_init_427 : decode cX11_init 427 = .ok (.invokevirtual 49, 3) := by decide +kernel
theorem dX11_init_430 : decode cX11_init 430 = .ok (.istore 5, 2) := by decide +kernel
theorem dX11_init_432 : decode cX11_init 432 = .ok (.iload 5, 2) := by decide +kernel
theorem dX11_init_434 : decode cX11_init 434 = .ok (.ifCond .le 115, 3) := by decide +kernel
theorem dX11_init_437 : decode cX11_init 437 = .ok (.aload_n 1, 1) := by decide +kernel
theorem dX11_init_438 : decode cX11_init 438 = .ok (.iload 4, 2) := by decide +kernel
theorem dX11_init_440 : decode cX11_init 440 = .ok (.iconst 1, 1) := by decide +kernel
theorem dX11_init_441 : decode cX11_init 441 = .ok (.iadd, 1) := by decide +kernel
theorem dX11_init_442 : decode cX11_init 442 = .ok (.invokevirtual 49, 3) := by decide +kernel
theorem dX11_init_445 : decode cX11_init 445 = .ok (.istore 6, 2) := by decide +kernel
theorem dX11_init_447 : decode cX11_init 447 = .ok (.aload_n 0, 1) := by decide +kernel
theorem dX11_init_448 : decode cX11_init 448 = .ok (.getfield 15, 3) := by decide +kernel
theorem dX11_init_451 : decode cX11_init 451 = .ok (.aload_n 0, 1) := by decide +kernel
theorem dX11_init_452 : decode cX11_init 452 = .ok (.getfield 109, 3) := by decide +kernel
theorem dX11_init_455 : decode cX11_init 455 = .ok (.iconst 2, 1) := by decide +kernel
theorem dX11_init_456 : decode cX11_init 456 = .ok (.newarray .int, 2) := by decide +kernel
theorem dX11_init_458 : decode cX11_init 458 = .ok (.dup, 1) := by decide +kernel
theorem dX11_init_459 : decode cX11_init 459 = .ok (.iconst 0, 1) := by decide +kernel
theorem dX11_init_460 : decode cX11_init 460 = .ok (.iload 6, 2) := by decide +kernel
theorem dX11_init_462 : decode cX11_init 462 = .ok (.iastore, 1) := by decide +kernel
theorem dX11_init_463 : decode cX11_init 463 = .ok (.dup, 1) := by decide +kernel
theorem dX11_init_464 : decode cX11_init 464 = .ok (.iconst 1, 1) := by decide +kernel
theorem dX11_init_465 : decode cX11_init 465 = .ok (.iload 6, 2) := by decide +kernel
theorem dX11_init_467 : decode cX11_init 467 = .ok (.iconst 1, 1) := by decide +kernel
theorem dX11_init_468 : decode cX11_init 468 = .ok (.iadd, 1) := by decide +kernel
theorem dX11_init_469 : decode cX11_init 469 = .ok (.aload_n 1, 1) := by decide +kernel
theorem dX11_init_470 : decode cX11_init 470 = .ok (.bipush 6, 2) := by decide +kernel
theorem dX11_init_472 : decode cX11_init 472 = .ok (.invokevirtual 49, 3) := by decide +kernel
theorem dX11_init_475 : decode cX11_init 475 = .ok (.iadd, 1) := by decide +kernel
theorem dX11_init_476 : decode cX11_init 476 = .ok (.iastore, 1) := by decide +kernel
theorem dX11_init_477 : decode cX11_init 477 = .ok (.aastore, 1) := by decide +kernel
theorem dX11_init_478 : decode cX11_init 478 = .ok (.aload_n 0, 1) := by decide +kernel
theorem dX11_init_479 : decode cX11_init 479 = .ok (.new 62, 3) := by decide +kernel
theorem dX11_init_482 : decode cX11_init 482 = .ok (.dup, 1) := by decide +kernel
theorem dX11_init_483 : decode cX11_init 483 = .ok (.invokespecial 64, 3) := by decide +kernel
theorem dX11_init_486 : decode cX11_init 486 = .ok (.aload_n 0, 1) := by decide +kernel
theorem dX11_init_487 : decode cX11_init 487 = .ok (.getfield 45, 3) := by decide +kernel
theorem dX11_init_490 : decode cX11_init 490 = .ok (.invokevirtual 65, 3) := by decide +kernel
theorem dX11_init_493 : decode cX11_init 493 = .ok (.ldc 112, 2) := by decide +kernel
theorem dX11_init_495 : decode cX11_init 495 = .ok (.invokevirtual 65, 3) := by decide +kernel
theorem dX11_init_498 : decode cX11_init 498 = .ok (.iload 6, 2) := by decide +kernel
theorem dX11_init_500 : decode cX11_init 500 = .ok (.invokevirtual 100, 3) := by decide +kernel
theorem dX11_init_503 : decode cX11_init 503 = .ok (.ldc 98, 2) := by decide +kernel
theorem dX11_init_505 : decode cX11_init 505 = .ok (.invokevirtual 65, 3) := by decide +kernel
theorem dX11_init_508 : decode cX11_init 508 = .ok (.aload_n 0, 1) := by decide +kernel
theorem dX11_init_509 : decode cX11_init 509 = .ok (.getfield 15, 3) := by decide +kernel
theorem dX11_init_512 : decode cX11_init 512 = .ok (.aload_n 0, 1) := by decide +kernel
theorem dX11_init_513 : decode cX11_init 513 = .ok (.getfield 109, 3) := by decide +kernel
theorem dX11_init_516 : decode cX11_init 516 = .ok (.aaload, 1) := by decide +kernel
theorem dX11_init_517 : decode cX11_init 517 = .ok (.iconst 1, 1) := by decide +kernel
theorem dX11_init_518 : decode cX11_init 518 = .ok (.iaload, 1) := by decide +kernel
theorem dX11_init_519 : decode cX11_init 519 = .ok (.invokevirtual 100, 3) := by decide +kernel
theorem dX11_init_522 : decode cX11_init 522 = .ok (.ldc 74, 2) := by decide +kernel
theorem dX11_init_524 : decode cX11_init 524 = .ok (.invokevirtual 65, 3) := by decide +kernel
theorem dX11_init_527 : decode cX11_init 527 = .ok (.invokevirtual 76, 3) := by decide +kernel
theorem dX11_init_530 : decode cX11_init 530 = .ok (.putfield 45, 3) := by decide +kernel
theorem dX11_init_533 : decode cX11_init 533 = .ok (.aload_n 0, 1) := by decide +kernel
theorem dX11_init_534 : decode cX11_init 534 = .ok (.dup, 1) := by decide +kernel
theorem dX11_init_535 : decode cX11_init 535 = .ok (.getfield 109, 3) := by decide +kernel
theorem dX11_init_538 : decode cX11_init 538 = .ok (.iconst 1, 1) := by decide +kernel
theorem dX11_init_539 : decode cX11_init 539 = .ok (.iadd, 1) := by decide +kernel
theorem dX11_init_540 : decode cX11_init 540 = .ok (.putfield 109, 3) := by decide +kernel
theorem dX11_init_543 : decode cX11_init 543 = .ok (.iinc 5 (-1), 3) := by decide +kernel
theorem dX11_init_546 : decode cX11_init 546 = .ok (.goto (-114), 3) := by decide +kernel
theorem dX11_init_549 : decode cX11_init 549 = .ok (.aload_n 0, 1) := by decide +kernel
theorem dX11_init_550 : decode cX11_init 550 = .ok (.new 62, 3) := by decide +kernel
theorem dX11_init_553 : decode cX11_init 553 = .ok (.dup, 1) := by decide +kernel
theorem dX11_init_554 : decode cX11_init 554 = .ok (.invokespecial 64, 3) := by decide +kernel
theorem dX11_init_557 : decode cX11_init 557 = .ok (.aload_n 0, 1) := by decide +kernel
theorem dX11_init_558 : decode cX11_init 558 = .ok (.getfield 45, 3) := by decide +kernel
theorem dX11_init_561 : decode cX11_init 561 = .ok (.invokevirtual 65, 3) := by decide +kernel
theorem dX11_init_564 : decode cX11_init 564 = .ok (.ldc 114, 2) := by decide +kernel
theorem dX11_init_566 : decode cX11_init 566 = .ok (.invokevirtual 65, 3) := by decide +kernel
theorem dX11_init_569 : decode cX11_init 569 = .ok (.aload_n 0, 1) := by decide +kernel
theorem dX11_init_570 : decode cX11_init 570 = .ok (.getfield 106, 3) := by decide +kernel
theorem dX11_init_573 : decode cX11_init 573 = .ok (.invokevirtual 100, 3) := by decide +kernel
theorem dX11_init_576 : decode cX11_init 576 = .ok (.ldc 116, 2) := by decide +kernel
theorem dX11_init_578 : decode cX11_init 578 = .ok (.invokevirtual 65, 3) := by decide +kernel
theorem dX11_init_581 : decode cX11_init 581 = .ok (.aload_n 0, 1) := by decide +kernel
theorem dX11_init_582 : decode cX11_init 582 = .ok (.getfield 55, 3) := by decide +kernel
theorem dX11_init_585 : decode cX11_init 585 = .ok (.invokevirtual 100, 3) := by decide +kernel
theorem dX11_init_588 : decode cX11_init 588 = .ok (.ldc 74, 2) := by decide +kernel
theorem dX11_init_590 : decode cX11_init 590 = .ok (.invokevirtual 65, 3) := by decide +kernel
theorem dX11_init_593 : decode cX11_init 593 = .ok (.invokevirtual 76, 3) := by decide +kernel
theorem dX11_init_596 : decode cX11_init 596 = .ok (.putfield 45, 3) := by decide +kernel
theorem dX11_init_599 : decode cX11_init 599 = .ok (.aload_n 0, 1) := by decide +kernel
theorem dX11_init_600 : decode cX11_init 600 = .ok (.invokevirtual 118, 3) := by decide +kernel
theorem dX11_init_603 : decode cX11_init 603 = .ok (.return_, 1) := by decide +kernel
theorem ci_X11_init : Cond.instanceMethod yX11_init ∈ TW := TW_of 393 (by decide +kernel) (by decide +kernel)
abbrev cX11_from : ByteArray := prog_13_method_5_code
def yX11_from : MethodName := ⟨RX11, "from", "(I)I"⟩
theorem dX11_from_0 : decode cX11_from 0 = .ok (.iload_n 1, 1) := by decide +kernel
theorem dX11_from_1 : decode cX11_from 1 = .ok (.ifCond .ne 17, 3) := by decide +kernel
theorem dX11_from_4 : decode cX11_from 4 = .ok (.iconst 0, 1) := by decide +kernel
theorem dX11_from_5 : decode cX11_from 5 = .ok (.aload_n 0, 1) := by decide +kernel
theorem dX11_from_6 : decode cX11_from 6 = .ok (.getfield 30, 3) := by decide +kernel
theorem dX11_from_9 : decode cX11_from 9 = .ok (.iload_n 1, 1) := by decide +kernel
theorem dX11_from_10 : decode cX11_from 10 = .ok (.iaload, 1) := by decide +kernel
theorem dX11_from_11 : decode cX11_from 11 = .ok (.ineg, 1) := by decide +kernel
theorem dX11_from_12 : decode cX11_from 12 = .ok (.invokestatic 80, 3) := by decide +kernel
theorem dX11_from_15 : decode cX11_from 15 = .ok (.goto 29, 3) := by decide +kernel
theorem dX11_from_18 : decode cX11_from 18 = .ok (.aload_n 0, 1) := by decide +kernel
theorem dX11_from_19 : decode cX11_from 19 = .ok (.getfield 24, 3) := by decide +kernel
theorem dX11_from_22 : decode cX11_from 22 = .ok (.iload_n 1, 1) := by decide +kernel
theorem dX11_from_23 : decode cX11_from 23 = .ok (.iconst 1, 1) := by decide +kernel
theorem dX11_from_24 : decode cX11_from 24 = .ok (.isub, 1) := by decide +kernel
theorem dX11_from_25 : decode cX11_from 25 = .ok (.iaload, 1) := by decide +kernel
theorem dX11_from_26 : decode cX11_from 26 = .ok (.aload_n 0, 1) := by decide +kernel
theorem dX11_from_27 : decode cX11_from 27 = .ok (.getfield 27, 3) := by decide +kernel
theorem dX11_from_30 : decode cX11_from 30 = .ok (.iload_n 1, 1) := by decide +kernel
theorem dX11_from_31 : decode cX11_from 31 = .ok (.iconst 1, 1) := by decide +kernel
theorem dX11_from_32 : decode cX11_from 32 = .ok (.isub, 1) := by decide +kernel
theorem dX11_from_33 : decode cX11_from 33 = .ok (.iaload, 1) := by decide +kernel
theorem dX11_from_34 : decode cX11_from 34 = .ok (.aload_n 0, 1) := by decide +kernel
theorem dX11_from_35 : decode cX11_from 35 = .ok (.getfield 30, 3) := by decide +kernel
theorem dX11_from_38 : decode cX11_from 38 = .ok (.iload_n 1, 1) := by decide +kernel
theorem dX11_from_39 : decode cX11_from 39 = .ok (.iaload, 1) := by decide +kernel
theorem dX11_from_40 : decode cX11_from 40 = .ok (.isub, 1) := by decide +kernel
theorem dX11_from_41 : decode cX11_from 41 = .ok (.invokestatic 80, 3) := by decide +kernel
theorem dX11_from_44 : decode cX11_from 44 = .ok (.ireturn, 1) := by decide +kernel
theorem ci_X11_from : Cond.instanceMethod yX11_from ∈ TW := TW_of 1327 (by decide +kernel) (by decide +kernel)
theorem cs_X11_from : Cond.selects yX11_from.cls yX11_from yX11_from ∈ TW := TW_of 1328 (by decide +kernel) (by decide +kernel)
abbrev cX11_to : ByteArray := prog_13_method_6_code
def yX11_to : MethodName := ⟨RX11, "to", "(I)I"⟩
theorem dX11_to_0 : decode cX11_to 0 = .ok (.iload_n 1, 1) := by decide +kernel
theorem dX11_to_1 : decode cX11_to 1 = .ok (.aload_n 0, 1) := by decide +kernel
theorem dX11_to_2 : decode cX11_to 2 = .ok (.getfield 121, 3) := by decide +kernel
theorem dX11_to_5 : decode cX11_to 5 = .ok (.iconst 1, 1) := by decide +kernel
theorem dX11_to_6 : decode cX11_to 6 = .ok (.isub, 1) := by decide +kernel
theorem dX11_to_7 : decode cX11_to 7 = .ok (.if_icmp .ne 10, 3) := by decide +kernel
theorem dX11_to_10 : decode cX11_to 10 = .ok (.aload_n 0, 1) := by decide +kernel
theorem dX11_to_11 : decode cX11_to 11 = .ok (.getfield 106, 3) := by decide +kernel
theorem dX11_to_14 : decode cX11_to 14 = .ok (.goto 27, 3) := by decide +kernel
theorem dX11_to_17 : decode cX11_to 17 = .ok (.aload_n 0, 1) := by decide +kernel
theorem dX11_to_18 : decode cX11_to 18 = .ok (.getfield 21, 3) := by decide +kernel
theorem dX11_to_21 : decode cX11_to 21 = .ok (.iload_n 1, 1) := by decide +kernel
theorem dX11_to_22 : decode cX11_to 22 = .ok (.iconst 1, 1) := by decide +kernel
theorem dX11_to_23 : decode cX11_to 23 = .ok (.iadd, 1) := by decide +kernel
theorem dX11_to_24 : decode cX11_to 24 = .ok (.iaload, 1) := by decide +kernel
theorem dX11_to_25 : decode cX11_to 25 = .ok (.aload_n 0, 1) := by decide +kernel
theorem dX11_to_26 : decode cX11_to 26 = .ok (.getfield 27, 3) := by decide +kernel
theorem dX11_to_29 : decode cX11_to 29 = .ok (.iload_n 1, 1) := by decide +kernel
theorem dX11_to_30 : decode cX11_to 30 = .ok (.iaload, 1) := by decide +kernel
theorem dX11_to_31 : decode cX11_to 31 = .ok (.aload_n 0, 1) := by decide +kernel
theorem dX11_to_32 : decode cX11_to 32 = .ok (.getfield 33, 3) := by decide +kernel
theorem dX11_to_35 : decode cX11_to 35 = .ok (.iload_n 1, 1) := by decide +kernel
theorem dX11_to_36 : decode cX11_to 36 = .ok (.iaload, 1) := by decide +kernel
theorem dX11_to_37 : decode cX11_to 37 = .ok (.iadd, 1) := by decide +kernel
theorem dX11_to_38 : decode cX11_to 38 = .ok (.invokestatic 124, 3) := by decide +kernel
theorem dX11_to_41 : decode cX11_to 41 = .ok (.ireturn, 1) := by decide +kernel
theorem ci_X11_to : Cond.instanceMethod yX11_to ∈ TW := TW_of 1323 (by decide +kernel) (by decide +kernel)
theorem cs_X11_to : Cond.selects yX11_to.cls yX11_to yX11_to ∈ TW := TW_of 1324 (by decide +kernel) (by decide +kernel)
abbrev cX11_filmLength : ByteArray := prog_13_method_7_code
def yX11_filmLength : MethodName := ⟨RX11, "filmLength", "()I"⟩
theorem dX11_filmLength_0 : decode cX11_filmLength 0 = .ok (.iconst 0, 1) := by decide +kernel
theorem dX11_filmLength_1 : decode cX11_filmLength 1 = .ok (.istore_n 1, 1) := by decide +kernel
theorem dX11_filmLength_2 : decode cX11_filmLength 2 = .ok (.aload_n 0, 1) := by decide +kernel
theorem dX11_filmLength_3 : decode cX11_filmLength 3 = .ok (.getfield 40, 3) := by decide +kernel
theorem dX11_filmLength_6 : decode cX11_filmLength 6 = .ok (.astore_n 2, 1) := by decide +kernel
theorem dX11_filmLength_7 : decode cX11_filmLength 7 = .ok (.aload_n 2, 1) := by decide +kernel
theorem dX11_filmLength_8 : decode cX11_filmLength 8 = .ok (.arraylength, 1) := by decide +kernel
theorem dX11_filmLength_9 : decode cX11_filmLength 9 = .ok (.istore_n 3, 1) := by decide +kernel
theorem dX11_filmLength_10 : decode cX11_filmLength 10 = .ok (.iconst 0, 1) := by decide +kernel
theorem dX11_filmLength_11 : decode cX11_filmLength 11 = .ok (.istore 4, 2) := by decide +kernel
theorem dX11_filmLength_13 : decode cX11_filmLength 13 = .ok (.iload 4, 2) := by decide +kernel
theorem dX11_filmLength_15 : decode cX11_filmLength 15 = .ok (.iload_n 3, 1) := by decide +kernel
theorem dX11_filmLength_16 : decode cX11_filmLength 16 = .ok (.if_icmp .ge 31, 3) := by decide +kernel
theorem dX11_filmLength_19 : decode cX11_filmLength 19 = .ok (.aload_n 2, 1) := by decide +kernel
theorem dX11_filmLength_20 : decode cX11_filmLength 20 = .ok (.iload 4, 2) := by decide +kernel
theorem dX11_filmLength_22 : decode cX11_filmLength 22 = .ok (.iaload, 1) := by decide +kernel
theorem dX11_filmLength_23 : decode cX11_filmLength 23 = .ok (.istore 5, 2) := by decide +kernel
theorem dX11_filmLength_25 : decode cX11_filmLength 25 = .ok (.iload_n 1, 1) := by decide +kernel
theorem dX11_filmLength_26 : decode cX11_filmLength 26 = .ok (.aload_n 0, 1) := by decide +kernel
theorem dX11_filmLength_27 : decode cX11_filmLength 27 = .ok (.iload 5, 2) := by decide +kernel
theorem dX11_filmLength_29 : decode cX11_filmLength 29 = .ok (.invokevirtual 127, 3) := by decide +kernel
theorem dX11_filmLength_32 : decode cX11_filmLength 32 = .ok (.aload_n 0, 1) := by decide +kernel
theorem dX11_filmLength_33 : decode cX11_filmLength 33 = .ok (.iload 5, 2) := by decide +kernel
theorem dX11_filmLength_35 : decode cX11_filmLength 35 = .ok (.invokevirtual 130, 3) := by decide +kernel
theorem dX11_filmLength_38 : decode cX11_filmLength 38 = .ok (.isub, 1) := by decide +kernel
theorem dX11_filmLength_39 : decode cX11_filmLength 39 = .ok (.iadd, 1) := by decide +kernel
theorem dX11_filmLength_40 : decode cX11_filmLength 40 = .ok (.istore_n 1, 1) := by decide +kernel
theorem dX11_filmLength_41 : decode cX11_filmLength 41 = .ok (.iinc 4 1, 3) := by decide +kernel
theorem dX11_filmLength_44 : decode cX11_filmLength 44 = .ok (.goto (-31), 3) := by decide +kernel
theorem dX11_filmLength_47 : decode cX11_filmLength 47 = .ok (.iload_n 1, 1) := by decide +kernel
theorem dX11_filmLength_48 : decode cX11_filmLength 48 = .ok (.ireturn, 1) := by decide +kernel
theorem ci_X11_filmLength : Cond.instanceMethod yX11_filmLength ∈ TW := TW_of 1319 (by decide +kernel) (by decide +kernel)
theorem cs_X11_filmLength : Cond.selects yX11_filmLength.cls yX11_filmLength yX11_filmLength ∈ TW := TW_of 1320 (by decide +kernel) (by decide +kernel)
abbrev cX11_shotOf : ByteArray := prog_13_method_8_code
def yX11_shotOf : MethodName := ⟨RX11, "shotOf", "(I)I"⟩
theorem dX11_shotOf_0 : decode cX11_shotOf 0 = .ok (.iconst 0, 1) := by decide +kernel
theorem dX11_shotOf_1 : decode cX11_shotOf 1 = .ok (.istore_n 2, 1) := by decide +kernel
theorem dX11_shotOf_2 : decode cX11_shotOf 2 = .ok (.iload_n 2, 1) := by decide +kernel
theorem dX11_shotOf_3 : decode cX11_shotOf 3 = .ok (.aload_n 0, 1) := by decide +kernel
theorem dX11_shotOf_4 : decode cX11_shotOf 4 = .ok (.getfield 40, 3) := by decide +kernel
theorem dX11_shotOf_7 : decode cX11_shotOf 7 = .ok (.arraylength, 1) := by decide +kernel
theorem dX11_shotOf_8 : decode cX11_shotOf 8 = .ok (.if_icmp .ge 21, 3) := by decide +kernel
theorem dX11_shotOf_11 : decode cX11_shotOf 11 = .ok (.aload_n 0, 1) := by decide +kernel
theorem dX11_shotOf_12 : decode cX11_shotOf 12 = .ok (.getfield 40, 3) := by decide +kernel
theorem dX11_shotOf_15 : decode cX11_shotOf 15 = .ok (.iload_n 2, 1) := by decide +kernel
theorem dX11_shotOf_16 : decode cX11_shotOf 16 = .ok (.iaload, 1) := by decide +kernel
theorem dX11_shotOf_17 : decode cX11_shotOf 17 = .ok (.iload_n 1, 1) := by decide +kernel
theorem dX11_shotOf_18 : decode cX11_shotOf 18 = .ok (.if_icmp .ne 5, 3) := by decide +kernel
theorem dX11_shotOf_21 : decode cX11_shotOf 21 = .ok (.iload_n 2, 1) := by decide +kernel
theorem dX11_shotOf_22 : decode cX11_shotOf 22 = .ok (.ireturn, 1) := by decide +kernel
theorem dX11_shotOf_23 : decode cX11_shotOf 23 = .ok (.iinc 2 1, 3) := by decide +kernel
theorem dX11_shotOf_26 : decode cX11_shotOf 26 = .ok (.goto (-24), 3) := by decide +kernel
theorem dX11_shotOf_29 : decode cX11_shotOf 29 = .ok (.iconst (-1), 1) := by decide +kernel
theorem dX11_shotOf_30 : decode cX11_shotOf 30 = .ok (.ireturn, 1) := by decide +kernel
theorem ci_X11_shotOf : Cond.instanceMethod yX11_shotOf ∈ TW := TW_of 1335 (by decide +kernel) (by decide +kernel)
theorem cs_X11_shotOf : Cond.selects yX11_shotOf.cls yX11_shotOf yX11_shotOf ∈ TW := TW_of 1336 (by decide +kernel) (by decide +kernel)
abbrev cX11_state : ByteArray := prog_13_method_9_code
def yX11_state : MethodName := ⟨RX11, "state", "(I)I"⟩
theorem dX11_state_0 : decode cX11_state 0 = .ok (.aload_n 0, 1) := by decide +kernel
theorem dX11_state_1 : decode cX11_state 1 = .ok (.getfield 36, 3) := by decide +kernel
theorem dX11_state_4 : decode cX11_state 4 = .ok (.iload_n 1, 1) := by decide +kernel
theorem dX11_state_5 : decode cX11_state 5 = .ok (.baload, 1) := by decide +kernel
theorem dX11_state_6 : decode cX11_state 6 = .ok (.ifCond .ne 7, 3) := by decide +kernel
theorem dX11_state_9 : decode cX11_state 9 = .ok (.iconst 0, 1) := by decide +kernel
theorem dX11_state_10 : decode cX11_state 10 = .ok (.goto 23, 3) := by decide +kernel
theorem dX11_state_13 : decode cX11_state 13 = .ok (.aload_n 0, 1) := by decide +kernel
theorem dX11_state_14 : decode cX11_state 14 = .ok (.aload_n 0, 1) := by decide +kernel
theorem dX11_state_15 : decode cX11_state 15 = .ok (.getfield 9, 3) := by decide +kernel
theorem dX11_state_18 : decode cX11_state 18 = .ok (.iload_n 1, 1) := by decide +kernel
theorem dX11_state_19 : decode cX11_state 19 = .ok (.aaload, 1) := by decide +kernel
theorem dX11_state_20 : decode cX11_state 20 = .ok (.iconst 4, 1) := by decide +kernel
theorem dX11_state_21 : decode cX11_state 21 = .ok (.iaload, 1) := by decide +kernel
theorem dX11_state_22 : decode cX11_state 22 = .ok (.invokevirtual 133, 3) := by decide +kernel
theorem dX11_state_25 : decode cX11_state 25 = .ok (.ifCond .ge 7, 3) := by decide +kernel
theorem dX11_state_28 : decode cX11_state 28 = .ok (.iconst 2, 1) := by decide +kernel
theorem dX11_state_29 : decode cX11_state 29 = .ok (.goto 4, 3) := by decide +kernel
theorem dX11_state_32 : decode cX11_state 32 = .ok (.iconst 1, 1) := by decide +kernel
theorem dX11_state_33 : decode cX11_state 33 = .ok (.ireturn, 1) := by decide +kernel
theorem ci_X11_state : Cond.instanceMethod yX11_state ∈ TW := TW_of 1339 (by decide +kernel) (by decide +kernel)
theorem cs_X11_state : Cond.selects yX11_state.cls yX11_state yX11_state ∈ TW := TW_of 1340 (by decide +kernel) (by decide +kernel)
abbrev cX11_transcript : ByteArray := prog_13_method_10_code
def yX11_transcript : MethodName := ⟨RX11, "transcript", "()[I"⟩
theorem dX11_transcript_0 : decode cX11_transcript 0 = .ok (.aload_n 0, 1) := by decide +kernel
theorem dX11_transcript_1 : decode cX11_transcript 1 = .ok (.getfield 103, 3) := by decide +kernel
theorem dX11_transcript_4 : decode cX11_transcript 4 = .ok (.newarray .int, 2) := by decide +kernel
theorem dX11_transcript_6 : decode cX11_transcript 6 = .ok (.astore_n 1, 1) := by decide +kernel
theorem dX11_transcript_7 : decode cX11_transcript 7 = .ok (.iconst 0, 1) := by decide +kernel
theorem dX11_transcript_8 : decode cX11_transcript 8 = .ok (.istore_n 2, 1) := by decide +kernel
theorem dX11_transcript_9 : decode cX11_transcript 9 = .ok (.aload_n 0, 1) := by decide +kernel
theorem dX11_transcript_10 : decode cX11_transcript 10 = .ok (.getfield 40, 3) := by decide +kernel
theorem dX11_transcript_13 : decode cX11_transcript 13 = .ok (.astore_n 3, 1) := by decide +kernel
theorem dX11_transcript_14 : decode cX11_transcript 14 = .ok (.aload_n 3, 1) := by decide +kernel
theorem dX11_transcript_15 : decode cX11_transcript 15 = .ok (.arraylength, 1) := by decide +kernel
theorem dX11_transcript_16 : decode cX11_transcript 16 = .ok (.istore 4, 2) := by decide +kernel
theorem dX11_transcript_18 : decode cX11_transcript 18 = .ok (.iconst 0, 1) := by decide +kernel
theorem dX11_transcript_19 : decode cX11_transcript 19 = .ok (.istore 5, 2) := by decide +kernel
theorem dX11_transcript_21 : decode cX11_transcript 21 = .ok (.iload 5, 2) := by decide +kernel
theorem dX11_transcript_23 : decode cX11_transcript 23 = .ok (.iload 4, 2) := by decide +kernel
theorem dX11_transcript_25 : decode cX11_transcript 25 = .ok (.if_icmp .ge 62, 3) := by decide +kernel
theorem dX11_transcript_28 : decode cX11_transcript 28 = .ok (.aload_n 3, 1) := by decide +kernel
theorem dX11_transcript_29 : decode cX11_transcript 29 = .ok (.iload 5, 2) := by decide +kernel
theorem dX11_transcript_31 : decode cX11_transcript 31 = .ok (.iaload, 1) := by decide +kernel
theorem dX11_transcript_32 : decode cX11_transcript 32 = .ok (.istore 6, 2) := by decide +kernel
theorem dX11_transcript_34 : decode cX11_transcript 34 = .ok (.aload_n 0, 1) := by decide +kernel
theorem dX11_transcript_35 : decode cX11_transcript 35 = .ok (.getfield 18, 3) := by decide +kernel
theorem dX11_transcript_38 : decode cX11_transcript 38 = .ok (.iload 6, 2) := by decide +kernel
theorem dX11_transcript_40 : decode cX11_transcript 40 = .ok (.iaload, 1) := by decide +kernel
theorem dX11_transcript_41 : decode cX11_transcript 41 = .ok (.istore 7, 2) := by decide +kernel
theorem dX11_transcript_43 : decode cX11_transcript 43 = .ok (.iload 7, 2) := by decide +kernel
theorem dX11_transcript_45 : decode cX11_transcript 45 = .ok (.aload_n 0, 1) := by decide +kernel
theorem dX11_transcript_46 : decode cX11_transcript 46 = .ok (.getfield 18, 3) := by decide +kernel
theorem dX11_transcript_49 : decode cX11_transcript 49 = .ok (.iload 6, 2) := by decide +kernel
theorem dX11_transcript_51 : decode cX11_transcript 51 = .ok (.iconst 1, 1) := by decide +kernel
theorem dX11_transcript_52 : decode cX11_transcript 52 = .ok (.iadd, 1) := by decide +kernel
theorem dX11_transcript_53 : decode cX11_transcript 53 = .ok (.iaload, 1) := by decide +kernel
theorem dX11_transcript_54 : decode cX11_transcript 54 = .ok (.if_icmp .ge 27, 3) := by decide +kernel
theorem dX11_transcript_57 : decode cX11_transcript 57 = .ok (.aload_n 0, 1) := by decide +kernel
theorem dX11_transcript_58 : decode cX11_transcript 58 = .ok (.getfield 36, 3) := by decide +kernel
theorem dX11_transcript_61 : decode cX11_transcript 61 = .ok (.iload 7, 2) := by decide +kernel
theorem dX11_transcript_63 : decode cX11_transcript 63 = .ok (.baload, 1) := by decide +kernel
theorem dX11_transcript_64 : decode cX11_transcript 64 = .ok (.ifCond .ne 11, 3) := by decide +kernel
theorem dX11_transcript_67 : decode cX11_transcript 67 = .ok (.aload_n 1, 1) := by decide +kernel
theorem dX11_transcript_68 : decode cX11_transcript 68 = .ok (.iload_n 2, 1) := by decide +kernel
theorem dX11_transcript_69 : decode cX11_transcript 69 = .ok (.iinc 2 1, 3) := by decide +kernel
theorem dX11_transcript_72 : decode cX11_transcript 72 = .ok (.iload 7, 2) := by decide +kernel
theorem dX11_transcript_74 : decode cX11_transcript 74 = .ok (.iastore, 1) := by decide +kernel
theorem dX11_transcript_75 : decode cX11_transcript 75 = .ok (.iinc 7 1, 3) := by decide +kernel
theorem dX11_transcript_78 : decode cX11_transcript 78 = .ok (.goto (-35), 3) := by decide +kernel
theorem dX11_transcript_81 : decode cX11_transcript 81 = .ok (.iinc 5 1, 3) := by decide +kernel
theorem dX11_transcript_84 : decode cX11_transcript 84 = .ok (.goto (-63), 3) := by decide +kernel
theorem dX11_transcript_87 : decode cX11_transcript 87 = .ok (.iload_n 2, 1) := by decide +kernel
theorem dX11_transcript_88 : decode cX11_transcript 88 = .ok (.newarray .int, 2) := by decide +kernel
theorem dX11_transcript_90 : decode cX11_transcript 90 = .ok (.astore_n 3, 1) := by decide +kernel
theorem dX11_transcript_91 : decode cX11_transcript 91 = .ok (.aload_n 1, 1) := by decide +kernel
theorem dX11_transcript_92 : decode cX11_transcript 92 = .ok (.iconst 0, 1) := by decide +kernel
theorem dX11_transcript_93 : decode cX11_transcript 93 = .ok (.aload_n 3, 1) := by decide +kernel
theorem dX11_transcript_94 : decode cX11_transcript 94 = .ok (.iconst 0, 1) := by decide +kernel
theorem dX11_transcript_95 : decode cX11_transcript 95 = .ok (.iload_n 2, 1) := by decide +kernel
theorem dX11_transcript_96 : decode cX11_transcript 96 = .ok (.invokestatic 136, 3) := by decide +kernel
theorem dX11_transcript_99 : decode cX11_transcript 99 = .ok (.aload_n 3, 1) := by decide +kernel
theorem dX11_transcript_100 : decode cX11_transcript 100 = .ok (.areturn, 1) := by decide +kernel
theorem ci_X11_transcript : Cond.instanceMethod yX11_transcript ∈ TW := TW_of 1313 (by decide +kernel) (by decide +kernel)
theorem cs_X11_transcript : Cond.selects yX11_transcript.cls yX11_transcript yX11_transcript ∈ TW := TW_of 1314 (by decide +kernel) (by decide +kernel)
abbrev cX11_cutOne : ByteArray := prog_13_method_11_code
def yX11_cutOne : MethodName := ⟨RX11, "cutOne", "(I)V"⟩
theorem dX11_cutOne_0 : decode cX11_cutOne 0 = .ok (.aload_n 0, 1) := by decide +kernel
theorem dX11_cutOne_1 : decode cX11_cutOne 1 = .ok (.getfield 36, 3) := by decide +kernel
theorem dX11_cutOne_4 : decode cX11_cutOne 4 = .ok (.iload_n 1, 1) := by decide +kernel
theorem dX11_cutOne_5 : decode cX11_cutOne 5 = .ok (.iconst 1, 1) := by decide +kernel
theorem dX11_cutOne_6 : decode cX11_cutOne 6 = .ok (.bastore, 1) := by decide +kernel
theorem dX11_cutOne_7 : decode cX11_cutOne 7 = .ok (.aload_n 0, 1) := by decide +kernel
theorem dX11_cutOne_8 : decode cX11_cutOne 8 = .ok (.getfield 9, 3) := by decide +kernel
theorem dX11_cutOne_11 : decode cX11_cutOne 11 = .ok (.iload_n 1, 1) := by decide +kernel
theorem dX11_cutOne_12 : decode cX11_cutOne 12 = .ok (.aaload, 1) := by decide +kernel
theorem dX11_cutOne_13 : decode cX11_cutOne 13 = .ok (.iconst 4, 1) := by decide +kernel
theorem dX11_cutOne_14 : decode cX11_cutOne 14 = .ok (.iaload, 1) := by decide +kernel
theorem dX11_cutOne_15 : decode cX11_cutOne 15 = .ok (.istore_n 2, 1) := by decide +kernel
theorem dX11_cutOne_16 : decode cX11_cutOne 16 = .ok (.aload_n 0, 1) := by decide +kernel
theorem dX11_cutOne_17 : decode cX11_cutOne 17 = .ok (.getfield 18, 3) := by decide +kernel
theorem dX11_cutOne_20 : decode cX11_cutOne 20 = .ok (.iload_n 2, 1) := by decide +kernel
theorem dX11_cutOne_21 : decode cX11_cutOne 21 = .ok (.iaload, 1) := by decide +kernel
theorem dX11_cutOne_22 : decode cX11_cutOne 22 = .ok (.istore_n 3, 1) := by decide +kernel
theorem dX11_cutOne_23 : decode cX11_cutOne 23 = .ok (.iload_n 3, 1) := by decide +kernel
theorem dX11_cutOne_24 : decode cX11_cutOne 24 = .ok (.aload_n 0, 1) := by decide +kernel
theorem dX11_cutOne_25 : decode cX11_cutOne 25 = .ok (.getfield 18, 3) := by decide +kernel
theorem dX11_cutOne_28 : decode cX11_cutOne 28 = .ok (.iload_n 2, 1) := by decide +kernel
theorem dX11_cutOne_29 : decode cX11_cutOne 29 = .ok (.iconst 1, 1) := by decide +kernel
theorem dX11_cutOne_30 : decode cX11_cutOne 30 = .ok (.iadd, 1) := by decide +kernel
theorem dX11_cutOne_31 : decode cX11_cutOne 31 = .ok (.iaload, 1) := by decide +kernel
theorem dX11_cutOne_32 : decode cX11_cutOne 32 = .ok (.if_icmp .ge 19, 3) := by decide +kernel
theorem dX11_cutOne_35 : decode cX11_cutOne 35 = .ok (.aload_n 0, 1) := by decide +kernel
theorem dX11_cutOne_36 : decode cX11_cutOne 36 = .ok (.getfield 36, 3) := by decide +kernel
theorem dX11_cutOne_39 : decode cX11_cutOne 39 = .ok (.iload_n 3, 1) := by decide +kernel
theorem dX11_cutOne_40 : decode cX11_cutOne 40 = .ok (.baload, 1) := by decide +kernel
theorem dX11_cutOne_41 : decode cX11_cutOne 41 = .ok (.ifCond .ne 4, 3) := by decide +kernel
theorem dX11_cutOne_44 : decode cX11_cutOne 44 = .ok (.return_, 1) := by decide +kernel
theorem dX11_cutOne_45 : decode cX11_cutOne 45 = .ok (.iinc 3 1, 3) := by decide +kernel
theorem dX11_cutOne_48 : decode cX11_cutOne 48 = .ok (.goto (-25), 3) := by decide +kernel
theorem dX11_cutOne_51 : decode cX11_cutOne 51 = .ok (.aload_n 0, 1) := by decide +kernel
theorem dX11_cutOne_52 : decode cX11_cutOne 52 = .ok (.iload_n 2, 1) := by decide +kernel
theorem dX11_cutOne_53 : decode cX11_cutOne 53 = .ok (.invokevirtual 133, 3) := by decide +kernel
theorem dX11_cutOne_56 : decode cX11_cutOne 56 = .ok (.istore_n 3, 1) := by decide +kernel
theorem dX11_cutOne_57 : decode cX11_cutOne 57 = .ok (.iload_n 3, 1) := by decide +kernel
theorem dX11_cutOne_58 : decode cX11_cutOne 58 = .ok (.ifCond .ge 4, 3) := by decide +kernel
theorem dX11_cutOne_61 : decode cX11_cutOne 61 = .ok (.return_, 1) := by decide +kernel
theorem dX11_cutOne_62 : decode cX11_cutOne 62 = .ok (.aload_n 0, 1) := by decide +kernel
theorem dX11_cutOne_63 : decode cX11_cutOne 63 = .ok (.getfield 40, 3) := by decide +kernel
theorem dX11_cutOne_66 : decode cX11_cutOne 66 = .ok (.arraylength, 1) := by decide +kernel
theorem dX11_cutOne_67 : decode cX11_cutOne 67 = .ok (.iconst 1, 1) := by decide +kernel
theorem dX11_cutOne_68 : decode cX11_cutOne 68 = .ok (.isub, 1) := by decide +kernel
theorem dX11_cutOne_69 : decode cX11_cutOne 69 = .ok (.newarray .int, 2) := by decide +kernel
theorem dX11_cutOne_71 : decode cX11_cutOne 71 = .ok (.astore 4, 2) := by decide +kernel
theorem dX11_cutOne_73 : decode cX11_cutOne 73 = .ok (.iconst 0, 1) := by decide +kernel
theorem dX11_cutOne_74 : decode cX11_cutOne 74 = .ok (.istore 5, 2) := by decide +kernel
theorem dX11_cutOne_76 : decode cX11_cutOne 76 = .ok (.iload 5, 2) := by decide +kernel
theorem dX11_cutOne_78 : decode cX11_cutOne 78 = .ok (.aload 4, 2) := by decide +kernel
theorem dX11_cutOne_80 : decode cX11_cutOne 80 = .ok (.arraylength, 1) := by decide +kernel
theorem dX11_cutOne_81 : decode cX11_cutOne 81 = .ok (.if_icmp .ge 34, 3) := by decide +kernel
theorem dX11_cutOne_84 : decode cX11_cutOne 84 = .ok (.aload 4, 2) := by decide +kernel
theorem dX11_cutOne_86 : decode cX11_cutOne 86 = .ok (.iload 5, 2) := by decide +kernel
theorem dX11_cutOne_88 : decode cX11_cutOne 88 = .ok (.aload_n 0, 1) := by decide +kernel
theorem dX11_cutOne_89 : decode cX11_cutOne 89 = .ok (.getfield 40, 3) := by decide +kernel
theorem dX11_cutOne_92 : decode cX11_cutOne 92 = .ok (.iload 5, 2) := by decide +kernel
theorem dX11_cutOne_94 : decode cX11_cutOne 94 = .ok (.iload_n 3, 1) := by decide +kernel
theorem dX11_cutOne_95 : decode cX11_cutOne 95 = .ok (.if_icmp .ge 8, 3) := by decide +kernel
theorem dX11_cutOne_98 : decode cX11_cutOne 98 = .ok (.iload 5, 2) := by decide +kernel
theorem dX11_cutOne_100 : decode cX11_cutOne 100 = .ok (.goto 7, 3) := by decide +kernel
theorem dX11_cutOne_103 : decode cX11_cutOne 103 = .ok (.iload 5, 2) := by decide +kernel
theorem dX11_cutOne_105 : decode cX11_cutOne 105 = .ok (.iconst 1, 1) := by decide +kernel
theorem dX11_cutOne_106 : decode cX11_cutOne 106 = .ok (.iadd, 1) := by decide +kernel
theorem dX11_cutOne_107 : decode cX11_cutOne 107 = .ok (.iaload, 1) := by decide +kernel
theorem dX11_cutOne_108 : decode cX11_cutOne 108 = .ok (.iastore, 1) := by decide +kernel
theorem dX11_cutOne_109 : decode cX11_cutOne 109 = .ok (.iinc 5 1, 3) := by decide +kernel
theorem dX11_cutOne_112 : decode cX11_cutOne 112 = .ok (.goto (-36), 3) := by decide +kernel
theorem dX11_cutOne_115 : decode cX11_cutOne 115 = .ok (.aload_n 0, 1) := by decide +kernel
theorem dX11_cutOne_116 : decode cX11_cutOne 116 = .ok (.aload 4, 2) := by decide +kernel
theorem dX11_cutOne_118 : decode cX11_cutOne 118 = .ok (.putfield 40, 3) := by decide +kernel
theorem dX11_cutOne_121 : decode cX11_cutOne 121 = .ok (.return_, 1) := by decide +kernel
theorem ci_X11_cutOne : Cond.instanceMethod yX11_cutOne ∈ TW := TW_of 1331 (by decide +kernel) (by decide +kernel)
theorem cs_X11_cutOne : Cond.selects yX11_cutOne.cls yX11_cutOne yX11_cutOne ∈ TW := TW_of 1332 (by decide +kernel) (by decide +kernel)
abbrev cX11_putShot : ByteArray := prog_13_method_12_code
def yX11_putShot : MethodName := ⟨RX11, "putShot", "(II)V"⟩
theorem dX11_putShot_0 : decode cX11_putShot 0 = .ok (.aload_n 0, 1) := by decide +kernel
theorem dX11_putShot_1 : decode cX11_putShot 1 = .ok (.getfield 40, 3) := by decide +kernel
theorem dX11_putShot_4 : decode cX11_putShot 4 = .ok (.arraylength, 1) := by decide +kernel
theorem dX11_putShot_5 : decode cX11_putShot 5 = .ok (.iconst 1, 1) := by decide +kernel
theorem dX11_putShot_6 : decode cX11_putShot 6 = .ok (.iadd, 1) := by decide +kernel
theorem dX11_putShot_7 : decode cX11_putShot 7 = .ok (.newarray .int, 2) := by decide +kernel
theorem dX11_putShot_9 : decode cX11_putShot 9 = .ok (.astore_n 3, 1) := by decide +kernel
theorem dX11_putShot_10 : decode cX11_putShot 10 = .ok (.iconst 0, 1) := by decide +kernel
theorem dX11_putShot_11 : decode cX11_putShot 11 = .ok (.istore 4, 2) := by decide +kernel
theorem dX11_putShot_13 : decode cX11_putShot 13 = .ok (.iload 4, 2) := by decide +kernel
theorem dX11_putShot_15 : decode cX11_putShot 15 = .ok (.aload_n 3, 1) := by decide +kernel
theorem dX11_putShot_16 : decode cX11_putShot 16 = .ok (.arraylength, 1) := by decide +kernel
theorem dX11_putShot_17 : decode cX11_putShot 17 = .ok (.if_icmp .ge 48, 3) := by decide +kernel
theorem dX11_putShot_20 : decode cX11_putShot 20 = .ok (.aload_n 3, 1) := by decide +kernel
theorem dX11_putShot_21 : decode cX11_putShot 21 = .ok (.iload 4, 2) := by decide +kernel
theorem dX11_putShot_23 : decode cX11_putShot 23 = .ok (.iload 4, 2) := by decide +kernel
theorem dX11_putShot_25 : decode cX11_putShot 25 = .ok (.iload_n 1, 1) := by decide +kernel
theorem dX11_putShot_26 : decode cX11_putShot 26 = .ok (.if_icmp .ge 13, 3) := by decide +kernel
theorem dX11_putShot_29 : decode cX11_putShot 29 = .ok (.aload_n 0, 1) := by decide +kernel
theorem dX11_putShot_30 : decode cX11_putShot 30 = .ok (.getfield 40, 3) := by decide +kernel
theorem dX11_putShot_33 : decode cX11_putShot 33 = .ok (.iload 4, 2) := by decide +kernel
theorem dX11_putShot_35 : decode cX11_putShot 35 = .ok (.iaload, 1) := by decide +kernel
theorem dX11_putShot_36 : decode cX11_putShot 36 = .ok (.goto 22, 3) := by decide +kernel
theorem dX11_putShot_39 : decode cX11_putShot 39 = .ok (.iload 4, 2) := by decide +kernel
theorem dX11_putShot_41 : decode cX11_putShot 41 = .ok (.iload_n 1, 1) := by decide +kernel
theorem dX11_putShot_42 : decode cX11_putShot 42 = .ok (.if_icmp .ne 7, 3) := by decide +kernel
theorem dX11_putShot_45 : decode cX11_putShot 45 = .ok (.iload_n 2, 1) := by decide +kernel
theorem dX11_putShot_46 : decode cX11_putShot 46 = .ok (.goto 12, 3) := by decide +kernel
theorem dX11_putShot_49 : decode cX11_putShot 49 = .ok (.aload_n 0, 1) := by decide +kernel
theorem dX11_putShot_50 : decode cX11_putShot 50 = .ok (.getfield 40, 3) := by decide +kernel
theorem dX11_putShot_53 : decode cX11_putShot 53 = .ok (.iload 4, 2) := by decide +kernel
theorem dX11_putShot_55 : decode cX11_putShot 55 = .ok (.iconst 1, 1) := by decide +kernel
theorem dX11_putShot_56 : decode cX11_putShot 56 = .ok (.isub, 1) := by decide +kernel
theorem dX11_putShot_57 : decode cX11_putShot 57 = .ok (.iaload, 1) := by decide +kernel
theorem dX11_putShot_58 : decode cX11_putShot 58 = .ok (.iastore, 1) := by decide +kernel
theorem dX11_putShot_59 : decode cX11_putShot 59 = .ok (.iinc 4 1, 3) := by decide +kernel
theorem dX11_putShot_62 : decode cX11_putShot 62 = .ok (.goto (-49), 3) := by decide +kernel
theorem dX11_putShot_65 : decode cX11_putShot 65 = .ok (.aload_n 0, 1) := by decide +kernel
theorem dX11_putShot_66 : decode cX11_putShot 66 = .ok (.aload_n 3, 1) := by decide +kernel
theorem dX11_putShot_67 : decode cX11_putShot 67 = .ok (.putfield 40, 3) := by decide +kernel
theorem dX11_putShot_70 : decode cX11_putShot 70 = .ok (.return_, 1) := by decide +kernel
theorem ci_X11_putShot : Cond.instanceMethod yX11_putShot ∈ TW := TW_of 1347 (by decide +kernel) (by decide +kernel)
theorem cs_X11_putShot : Cond.selects yX11_putShot.cls yX11_putShot yX11_putShot ∈ TW := TW_of 1348 (by decide +kernel) (by decide +kernel)
abbrev cX11_restoreOne : ByteArray := prog_13_method_13_code
def yX11_restoreOne : MethodName := ⟨RX11, "restoreOne", "(I)V"⟩
theorem dX11_restoreOne_0 : decode cX11_restoreOne 0 = .ok (.aload_n 0, 1) := by decide +kernel
theorem dX11_restoreOne_1 : decode cX11_restoreOne 1 = .ok (.getfield 36, 3) := by decide +kernel
theorem dX11_restoreOne_4 : decode cX11_restoreOne 4 = .ok (.iload_n 1, 1) := by decide +kernel
theorem dX11_restoreOne_5 : decode cX11_restoreOne 5 = .ok (.iconst 0, 1) := by decide +kernel
theorem dX11_restoreOne_6 : decode cX11_restoreOne 6 = .ok (.bastore, 1) := by decide +kernel
theorem dX11_restoreOne_7 : decode cX11_restoreOne 7 = .ok (.aload_n 0, 1) := by decide +kernel
theorem dX11_restoreOne_8 : decode cX11_restoreOne 8 = .ok (.getfield 9, 3) := by decide +kernel
theorem dX11_restoreOne_11 : decode cX11_restoreOne 11 = .ok (.iload_n 1, 1) := by decide +kernel
theorem dX11_restoreOne_12 : decode cX11_restoreOne 12 = .ok (.aaload, 1) := by decide +kernel
theorem dX11_restoreOne_13 : decode cX11_restoreOne 13 = .ok (.iconst 4, 1) := by decide +kernel
theorem dX11_restoreOne_14 : decode cX11_restoreOne 14 = .ok (.iaload, 1) := by decide +kernel
theorem dX11_restoreOne_15 : decode cX11_restoreOne 15 = .ok (.istore_n 2, 1) := by decide +kernel
theorem dX11_restoreOne_16 : decode cX11_restoreOne 16 = .ok (.aload_n 0, 1) := by decide +kernel
theorem dX11_restoreOne_17 : decode cX11_restoreOne 17 = .ok (.iload_n 2, 1) := by decide +kernel
theorem dX11_restoreOne_18 : decode cX11_restoreOne 18 = .ok (.invokevirtual 133, 3) := by decide +kernel
theorem dX11_restoreOne_21 : decode cX11_restoreOne 21 = .ok (.ifCond .lt 4, 3) := by decide +kernel
theorem dX11_restoreOne_24 : decode cX11_restoreOne 24 = .ok (.return_, 1) := by decide +kernel
theorem dX11_restoreOne_25 : decode cX11_restoreOne 25 = .ok (.iconst (-1), 1) := by decide +kernel
theorem dX11_restoreOne_26 : decode cX11_restoreOne 26 = .ok (.istore_n 3, 1) := by decide +kernel
theorem dX11_restoreOne_27 : decode cX11_restoreOne 27 = .ok (.aload_n 0, 1) := by decide +kernel
theorem dX11_restoreOne_28 : decode cX11_restoreOne 28 = .ok (.getfield 40, 3) := by decide +kernel
theorem dX11_restoreOne_31 : decode cX11_restoreOne 31 = .ok (.astore 4, 2) := by decide +kernel
theorem dX11_restoreOne_33 : decode cX11_restoreOne 33 = .ok (.aload 4, 2) := by decide +kernel
theorem dX11_restoreOne_35 : decode cX11_restoreOne 35 = .ok (.arraylength, 1) := by decide +kernel
theorem dX11_restoreOne_36 : decode cX11_restoreOne 36 = .ok (.istore 5, 2) := by decide +kernel
theorem dX11_restoreOne_38 : decode cX11_restoreOne 38 = .ok (.iconst 0, 1) := by decide +kernel
theorem dX11_restoreOne_39 : decode cX11_restoreOne 39 = .ok (.istore 6, 2) := by decide +kernel
theorem dX11_restoreOne_41 : decode cX11_restoreOne 41 = .ok (.iload 6, 2) := by decide +kernel
theorem dX11_restoreOne_43 : decode cX11_restoreOne 43 = .ok (.iload 5, 2) := by decide +kernel
theorem dX11_restoreOne_45 : decode cX11_restoreOne 45 = .ok (.if_icmp .ge 29, 3) := by decide +kernel
theorem dX11_restoreOne_48 : decode cX11_restoreOne 48 = .ok (.aload 4, 2) := by decide +kernel
theorem dX11_restoreOne_50 : decode cX11_restoreOne 50 = .ok (.iload 6, 2) := by decide +kernel
theorem dX11_restoreOne_52 : decode cX11_restoreOne 52 = .ok (.iaload, 1) := by decide +kernel
theorem dX11_restoreOne_53 : decode cX11_restoreOne 53 = .ok (.istore 7, 2) := by decide +kernel
theorem dX11_restoreOne_55 : decode cX11_restoreOne 55 = .ok (.iload 7, 2) := by decide +kernel
theorem dX11_restoreOne_57 : decode cX11_restoreOne 57 = .ok (.iload_n 2, 1) := by decide +kernel
theorem dX11_restoreOne_58 : decode cX11_restoreOne 58 = .ok (.if_icmp .ge 10, 3) := by decide +kernel
theorem dX11_restoreOne_61 : decode cX11_restoreOne 61 = .ok (.iload_n 3, 1) := by decide +kernel
theorem dX11_restoreOne_62 : decode cX11_restoreOne 62 = .ok (.iload 7, 2) := by decide +kernel
theorem dX11_restoreOne_64 : decode cX11_restoreOne 64 = .ok (.invokestatic 80, 3) := by decide +kernel
theorem dX11_restoreOne_67 : decode cX11_restoreOne 67 = .ok (.istore_n 3, 1) := by decide +kernel
theorem dX11_restoreOne_68 : decode cX11_restoreOne 68 = .ok (.iinc 6 1, 3) := by decide +kernel
theorem dX11_restoreOne_71 : decode cX11_restoreOne 71 = .ok (.goto (-30), 3) := by decide +kernel
theorem dX11_restoreOne_74 : decode cX11_restoreOne 74 = .ok (.aload_n 0, 1) := by decide +kernel
theorem dX11_restoreOne_75 : decode cX11_restoreOne 75 = .ok (.iload_n 3, 1) := by decide +kernel
theorem dX11_restoreOne_76 : decode cX11_restoreOne 76 = .ok (.ifCond .ge 7, 3) := by decide +kernel
theorem dX11_restoreOne_79 : decode cX11_restoreOne 79 = .ok (.iconst 0, 1) := by decide +kernel
theorem dX11_restoreOne_80 : decode cX11_restoreOne 80 = .ok (.goto 10, 3) := by decide +kernel
theorem dX11_restoreOne_83 : decode cX11_restoreOne 83 = .ok (.aload_n 0, 1) := by decide +kernel
theorem dX11_restoreOne_84 : decode cX11_restoreOne 84 = .ok (.iload_n 3, 1) := by decide +kernel
theorem dX11_restoreOne_85 : decode cX11_restoreOne 85 = .ok (.invokevirtual 133, 3) := by decide +kernel
theorem dX11_restoreOne_88 : decode cX11_restoreOne 88 = .ok (.iconst 1, 1) := by decide +kernel
theorem dX11_restoreOne_89 : decode cX11_restoreOne 89 = .ok (.iadd, 1) := by decide +kernel
theorem dX11_restoreOne_90 : decode cX11_restoreOne 90 = .ok (.iload_n 2, 1) := by decide +kernel
theorem dX11_restoreOne_91 : decode cX11_restoreOne 91 = .ok (.invokevirtual 142, 3) := by decide +kernel
theorem dX11_restoreOne_94 : decode cX11_restoreOne 94 = .ok (.aload_n 0, 1) := by decide +kernel
theorem dX11_restoreOne_95 : decode cX11_restoreOne 95 = .ok (.getfield 30, 3) := by decide +kernel
theorem dX11_restoreOne_98 : decode cX11_restoreOne 98 = .ok (.iload_n 2, 1) := by decide +kernel
theorem dX11_restoreOne_99 : decode cX11_restoreOne 99 = .ok (.iconst 0, 1) := by decide +kernel
theorem dX11_restoreOne_100 : decode cX11_restoreOne 100 = .ok (.iastore, 1) := by decide +kernel
theorem dX11_restoreOne_101 : decode cX11_restoreOne 101 = .ok (.aload_n 0, 1) := by decide +kernel
theorem dX11_restoreOne_102 : decode cX11_restoreOne 102 = .ok (.getfield 33, 3) := by decide +kernel
theorem dX11_restoreOne_105 : decode cX11_restoreOne 105 = .ok (.iload_n 2, 1) := by decide +kernel
theorem dX11_restoreOne_106 : decode cX11_restoreOne 106 = .ok (.iconst 0, 1) := by decide +kernel
theorem dX11_restoreOne_107 : decode cX11_restoreOne 107 = .ok (.iastore, 1) := by decide +kernel
theorem dX11_restoreOne_108 : decode cX11_restoreOne 108 = .ok (.return_, 1) := by decide +kernel
theorem ci_X11_restoreOne : Cond.instanceMethod yX11_restoreOne ∈ TW := TW_of 1343 (by decide +kernel) (by decide +kernel)
theorem cs_X11_restoreOne : Cond.selects yX11_restoreOne.cls yX11_restoreOne yX11_restoreOne ∈ TW := TW_of 1344 (by decide +kernel) (by decide +kernel)
abbrev cX11_move : ByteArray := prog_13_method_14_code
def yX11_move : MethodName := ⟨RX11, "move", "(III)I"⟩
theorem dX11_move_0 : decode cX11_move 0 = .ok (.iload_n 2, 1) := by decide +kernel
theorem dX11_move_1 : decode cX11_move 1 = .ok (.iload_n 1, 1) := by decide +kernel
theorem dX11_move_2 : decode cX11_move 2 = .ok (.isub, 1) := by decide +kernel
theorem dX11_move_3 : decode cX11_move 3 = .ok (.iconst 1, 1) := by decide +kernel
theorem dX11_move_4 : decode cX11_move 4 = .ok (.iadd, 1) := by decide +kernel
theorem dX11_move_5 : decode cX11_move 5 = .ok (.istore 4, 2) := by decide +kernel
theorem dX11_move_7 : decode cX11_move 7 = .ok (.iload 4, 2) := by decide +kernel
theorem dX11_move_9 : decode cX11_move 9 = .ok (.newarray .int, 2) := by decide +kernel
theorem dX11_move_11 : decode cX11_move 11 = .ok (.astore 5, 2) := by decide +kernel
theorem dX11_move_13 : decode cX11_move 13 = .ok (.iconst 0, 1) := by decide +kernel
theorem dX11_move_14 : decode cX11_move 14 = .ok (.istore 6, 2) := by decide +kernel
theorem dX11_move_16 : decode cX11_move 16 = .ok (.iload 6, 2) := by decide +kernel
theorem dX11_move_18 : decode cX11_move 18 = .ok (.iload 4, 2) := by decide +kernel
theorem dX11_move_20 : decode cX11_move 20 = .ok (.if_icmp .ge 23, 3) := by decide +kernel
theorem dX11_move_23 : decode cX11_move 23 = .ok (.aload 5, 2) := by decide +kernel
theorem dX11_move_25 : decode cX11_move 25 = .ok (.iload 6, 2) := by decide +kernel
theorem dX11_move_27 : decode cX11_move 27 = .ok (.aload_n 0, 1) := by decide +kernel
theorem dX11_move_28 : decode cX11_move 28 = .ok (.getfield 40, 3) := by decide +kernel
theorem dX11_move_31 : decode cX11_move 31 = .ok (.iload_n 1, 1) := by decide +kernel
theorem dX11_move_32 : decode cX11_move 32 = .ok (.iload 6, 2) := by decide +kernel
theorem dX11_move_34 : decode cX11_move 34 = .ok (.iadd, 1) := by decide +kernel
theorem dX11_move_35 : decode cX11_move 35 = .ok (.iaload, 1) := by decide +kernel
theorem dX11_move_36 : decode cX11_move 36 = .ok (.iastore, 1) := by decide +kernel
theorem dX11_move_37 : decode cX11_move 37 = .ok (.iinc 6 1, 3) := by decide +kernel
theorem dX11_move_40 : decode cX11_move 40 = .ok (.goto (-24), 3) := by decide +kernel
theorem dX11_move_43 : decode cX11_move 43 = .ok (.aload_n 0, 1) := by decide +kernel
theorem dX11_move_44 : decode cX11_move 44 = .ok (.getfield 40, 3) := by decide +kernel
theorem dX11_move_47 : decode cX11_move 47 = .ok (.arraylength, 1) := by decide +kernel
theorem dX11_move_48 : decode cX11_move 48 = .ok (.iload 4, 2) := by decide +kernel
theorem dX11_move_50 : decode cX11_move 50 = .ok (.isub, 1) := by decide +kernel
theorem dX11_move_51 : decode cX11_move 51 = .ok (.newarray .int, 2) := by decide +kernel
theorem dX11_move_53 : decode cX11_move 53 = .ok (.astore 6, 2) := by decide +kernel
theorem dX11_move_55 : decode cX11_move 55 = .ok (.iconst 0, 1) := by decide +kernel
theorem dX11_move_56 : decode cX11_move 56 = .ok (.istore 7, 2) := by decide +kernel
theorem dX11_move_58 : decode cX11_move 58 = .ok (.iload 7, 2) := by decide +kernel
theorem dX11_move_60 : decode cX11_move 60 = .ok (.aload 6, 2) := by decide +kernel
theorem dX11_move_62 : decode cX11_move 62 = .ok (.arraylength, 1) := by decide +kernel
theorem dX11_move_63 : decode cX11_move 63 = .ok (.if_icmp .ge 35, 3) := by decide +kernel
theorem dX11_move_66 : decode cX11_move 66 = .ok (.aload 6, 2) := by decide +kernel
theorem dX11_move_68 : decode cX11_move 68 = .ok (.iload 7, 2) := by decide +kernel
theorem dX11_move_70 : decode cX11_move 70 = .ok (.aload_n 0, 1) := by decide +kernel
theorem dX11_move_71 : decode cX11_move 71 = .ok (.getfield 40, 3) := by decide +kernel
theorem dX11_move_74 : decode cX11_move 74 = .ok (.iload 7, 2) := by decide +kernel
theorem dX11_move_76 : decode cX11_move 76 = .ok (.iload_n 1, 1) := by decide +kernel
theorem dX11_move_77 : decode cX11_move 77 = .ok (.if_icmp .ge 8, 3) := by decide +kernel
theorem dX11_move_80 : decode cX11_move 80 = .ok (.iload 7, 2) := by decide +kernel
theorem dX11_move_82 : decode cX11_move 82 = .ok (.goto 8, 3) := by decide +kernel
theorem dX11_move_85 : decode cX11_move 85 = .ok (.iload 7, 2) := by decide +kernel
theorem dX11_move_87 : decode cX11_move 87 = .ok (.iload 4, 2) := by decide +kernel
theorem dX11_move_89 : decode cX11_move 89 = .ok (.iadd, 1) := by decide +kernel
theorem dX11_move_90 : decode cX11_move 90 = .ok (.iaload, 1) := by decide +kernel
theorem dX11_move_91 : decode cX11_move 91 = .ok (.iastore, 1) := by decide +kernel
theorem dX11_move_92 : decode cX11_move 92 = .ok (.iinc 7 1, 3) := by decide +kernel
theorem dX11_move_95 : decode cX11_move 95 = .ok (.goto (-37), 3) := by decide +kernel
theorem dX11_move_98 : decode cX11_move 98 = .ok (.iload_n 3, 1) := by decide +kernel
theorem dX11_move_99 : decode cX11_move 99 = .ok (.iload_n 1, 1) := by decide +kernel
theorem dX11_move_100 : decode cX11_move 100 = .ok (.if_icmp .ge 9, 3) := by decide +kernel
theorem dX11_move_103 : decode cX11_move 103 = .ok (.iload_n 3, 1) := by decide +kernel
theorem dX11_move_104 : decode cX11_move 104 = .ok (.iconst 1, 1) := by decide +kernel
theorem dX11_move_105 : decode cX11_move 105 = .ok (.iadd, 1) := by decide +kernel
theorem dX11_move_106 : decode cX11_move 106 = .ok (.goto 9, 3) := by decide +kernel
theorem dX11_move_109 : decode cX11_move 109 = .ok (.iload_n 3, 1) := by decide +kernel
theorem dX11_move_110 : decode cX11_move 110 = .ok (.iconst 1, 1) := by decide +kernel
theorem dX11_move_111 : decode cX11_move 111 = .ok (.iadd, 1) := by decide +kernel
theorem dX11_move_112 : decode cX11_move 112 = .ok (.iload 4, 2) := by decide +kernel
theorem dX11_move_114 : decode cX11_move 114 = .ok (.isub, 1) := by decide +kernel
theorem dX11_move_115 : decode cX11_move 115 = .ok (.istore 7, 2) := by decide +kernel
theorem dX11_move_117 : decode cX11_move 117 = .ok (.aload_n 0, 1) := by decide +kernel
theorem dX11_move_118 : decode cX11_move 118 = .ok (.aload 6, 2) := by decide +kernel
theorem dX11_move_120 : decode cX11_move 120 = .ok (.putfield 40, 3) := by decide +kernel
theorem dX11_move_123 : decode cX11_move 123 = .ok (.iconst 0, 1) := by decide +kernel
theorem dX11_move_124 : decode cX11_move 124 = .ok (.istore 8, 2) := by decide +kernel
theorem dX11_move_126 : decode cX11_move 126 = .ok (.iload 8, 2) := by decide +kernel
theorem dX11_move_128 : decode cX11_move 128 = .ok (.iload 4, 2) := by decide +kernel
theorem dX11_move_130 : decode cX11_move 130 = .ok (.if_icmp .ge 23, 3) := by decide +kernel
theorem dX11_move_133 : decode cX11_move 133 = .ok (.aload_n 0, 1) := by decide +kernel
theorem dX11_move_134 : decode cX11_move 134 = .ok (.iload 7, 2) := by decide +kernel
theorem dX11_move_136 : decode cX11_move 136 = .ok (.iload 8, 2) := by decide +kernel
theorem dX11_move_138 : decode cX11_move 138 = .ok (.iadd, 1) := by decide +kernel
theorem dX11_move_139 : decode cX11_move 139 = .ok (.aload 5, 2) := by decide +kernel
theorem dX11_move_141 : decode cX11_move 141 = .ok (.iload 8, 2) := by decide +kernel
theorem dX11_move_143 : decode cX11_move 143 = .ok (.iaload, 1) := by decide +kernel
theorem dX11_move_144 : decode cX11_move 144 = .ok (.invokevirtual 142, 3) := by decide +kernel
theorem dX11_move_147 : decode cX11_move 147 = .ok (.iinc 8 1, 3) := by decide +kernel
theorem dX11_move_150 : decode cX11_move 150 = .ok (.goto (-24), 3) := by decide +kernel
theorem dX11_move_153 : decode cX11_move 153 = .ok (.aload_n 0, 1) := by decide +kernel
theorem dX11_move_154 : decode cX11_move 154 = .ok (.getfield 30, 3) := by decide +kernel
theorem dX11_move_157 : decode cX11_move 157 = .ok (.aload 5, 2) := by decide +kernel
theorem dX11_move_159 : decode cX11_move 159 = .ok (.iconst 0, 1) := by decide +kernel
theorem dX11_move_160 : decode cX11_move 160 = .ok (.iaload, 1) := by decide +kernel
theorem dX11_move_161 : decode cX11_move 161 = .ok (.aload_n 0, 1) := by decide +kernel
theorem dX11_move_162 : decode cX11_move 162 = .ok (.getfield 55, 3) := by decide +kernel
theorem dX11_move_165 : decode cX11_move 165 = .ok (.iastore, 1) := by decide +kernel
theorem dX11_move_166 : decode cX11_move 166 = .ok (.aload_n 0, 1) := by decide +kernel
theorem dX11_move_167 : decode cX11_move 167 = .ok (.getfield 33, 3) := by decide +kernel
theorem dX11_move_170 : decode cX11_move 170 = .ok (.aload 5, 2) := by decide +kernel
theorem dX11_move_172 : decode cX11_move 172 = .ok (.iload 4, 2) := by decide +kernel
theorem dX11_move_174 : decode cX11_move 174 = .ok (.iconst 1, 1) := by decide +kernel
theorem dX11_move_175 : decode cX11_move 175 = .ok (.isub, 1) := by decide +kernel
theorem dX11_move_176 : decode cX11_move 176 = .ok (.iaload, 1) := by decide +kernel
theorem dX11_move_177 : decode cX11_move 177 = .ok (.aload_n 0, 1) := by decide +kernel
theorem dX11_move_178 : decode cX11_move 178 = .ok (.getfield 55, 3) := by decide +kernel
theorem dX11_move_181 : decode cX11_move 181 = .ok (.iastore, 1) := by decide +kernel
theorem dX11_move_182 : decode cX11_move 182 = .ok (.iload 7, 2) := by decide +kernel
theorem dX11_move_184 : decode cX11_move 184 = .ok (.ireturn, 1) := by decide +kernel
theorem ci_X11_move : Cond.instanceMethod yX11_move ∈ TW := TW_of 1354 (by decide +kernel) (by decide +kernel)
theorem cs_X11_move : Cond.selects yX11_move.cls yX11_move yX11_move ∈ TW := TW_of 1355 (by decide +kernel) (by decide +kernel)
abbrev cL_four : ByteArray := method_4_code
def yL_four : MethodName := ⟨RL, "four", "(Ljava/lang/String;I)I"⟩
theorem dL_four_0 : decode cL_four 0 = .ok (.iconst 0, 1) := by decide +kernel
theorem dL_four_1 : decode cL_four 1 = .ok (.istore_n 2, 1) := by decide +kernel
theorem dL_four_2 : decode cL_four 2 = .ok (.iload_n 1, 1) := by decide +kernel
theorem dL_four_3 : decode cL_four 3 = .ok (.istore_n 3, 1) := by decide +kernel
theorem dL_four_4 : decode cL_four 4 = .ok (.iload_n 3, 1) := by decide +kernel
theorem dL_four_5 : decode cL_four 5 = .ok (.iload_n 1, 1) := by decide +kernel
theorem dL_four_6 : decode cL_four 6 = .ok (.iconst 4, 1) := by decide +kernel
theorem dL_four_7 : decode cL_four 7 = .ok (.iadd, 1) := by decide +kernel
theorem dL_four_8 : decode cL_four 8 = .ok (.if_icmp .ge 32, 3) := by decide +kernel
theorem dL_four_11 : decode cL_four 11 = .ok (.iload_n 2, 1) := by decide +kernel
theorem dL_four_12 : decode cL_four 12 = .ok (.bipush 8, 2) := by decide +kernel
theorem dL_four_14 : decode cL_four 14 = .ok (.ishl, 1) := by decide +kernel
theorem dL_four_15 : decode cL_four 15 = .ok (.iload_n 3, 1) := by decide +kernel
theorem dL_four_16 : decode cL_four 16 = .ok (.aload_n 0, 1) := by decide +kernel
theorem dL_four_17 : decode cL_four 17 = .ok (.invokevirtual 84, 3) := by decide +kernel
theorem dL_four_20 : decode cL_four 20 = .ok (.if_icmp .ge 11, 3) := by decide +kernel
theorem dL_four_23 : decode cL_four 23 = .ok (.aload_n 0, 1) := by decide +kernel
theorem dL_four_24 : decode cL_four 24 = .ok (.iload_n 3, 1) := by decide +kernel
theorem dL_four_25 : decode cL_four 25 = .ok (.invokevirtual 102, 3) := by decide +kernel
theorem dL_four_28 : decode cL_four 28 = .ok (.goto 4, 3) := by decide +kernel
theorem dL_four_31 : decode cL_four 31 = .ok (.iconst 0, 1) := by decide +kernel
theorem dL_four_32 : decode cL_four 32 = .ok (.ior, 1) := by decide +kernel
theorem dL_four_33 : decode cL_four 33 = .ok (.istore_n 2, 1) := by decide +kernel
theorem dL_four_34 : decode cL_four 34 = .ok (.iinc 3 1, 3) := by decide +kernel
theorem dL_four_37 : decode cL_four 37 = .ok (.goto (-33), 3) := by decide +kernel
theorem dL_four_40 : decode cL_four 40 = .ok (.iload_n 2, 1) := by decide +kernel
theorem dL_four_41 : decode cL_four 41 = .ok (.ireturn, 1) := by decide +kernel
theorem ct_L_four : Cond.static yL_four ∈ TW := TW_of 1293 (by decide +kernel) (by decide +kernel)
abbrev cL_text : ByteArray := method_3_code
def yL_text : MethodName := ⟨RL, "text", "(LTranscriptCutter;Ljava/lang/String;)Z"⟩
theorem dL_text_0 : decode cL_text 0 = .ok (.iconst 0, 1) := by decide +kernel
theorem dL_text_1 : decode cL_text 1 = .ok (.istore_n 2, 1) := by decide +kernel
theorem dL_text_2 : decode cL_text 2 = .ok (.iload_n 2, 1) := by decide +kernel
theorem dL_text_3 : decode cL_text 3 = .ok (.aload_n 1, 1) := by decide +kernel
theorem dL_text_4 : decode cL_text 4 = .ok (.invokevirtual 84, 3) := by decide +kernel
theorem dL_text_7 : decode cL_text 7 = .ok (.if_icmp .ge 58, 3) := by decide +kernel
theorem dL_text_10 : decode cL_text 10 = .ok (.aload_n 0, 1) := by decide +kernel
theorem dL_text_11 : decode cL_text 11 = .ok (.aload_n 1, 1) := by decide +kernel
theorem dL_text_12 : decode cL_text 12 = .ok (.iload_n 2, 1) := by decide +kernel
theorem dL_text_13 : decode cL_text 13 = .ok (.invokestatic 89, 3) := by decide +kernel
theorem dL_text_16 : decode cL_text 16 = .ok (.aload_n 1, 1) := by decide +kernel
theorem dL_text_17 : decode cL_text 17 = .ok (.iload_n 2, 1) := by decide +kernel
theorem dL_text_18 : decode cL_text 18 = .ok (.iconst 4, 1) := by decide +kernel
theorem dL_text_19 : decode cL_text 19 = .ok (.iadd, 1) := by decide +kernel
theorem dL_text_20 : decode cL_text 20 = .ok (.invokestatic 89, 3) := by decide +kernel
theorem dL_text_23 : decode cL_text 23 = .ok (.aload_n 1, 1) := by decide +kernel
theorem dL_text_24 : decode cL_text 24 = .ok (.iload_n 2, 1) := by decide +kernel
theorem dL_text_25 : decode cL_text 25 = .ok (.bipush 8, 2) := by decide +kernel
theorem dL_text_27 : decode cL_text 27 = .ok (.iadd, 1) := by decide +kernel
theorem dL_text_28 : decode cL_text 28 = .ok (.invokestatic 89, 3) := by decide +kernel
theorem dL_text_31 : decode cL_text 31 = .ok (.aload_n 1, 1) := by decide +kernel
theorem dL_text_32 : decode cL_text 32 = .ok (.iload_n 2, 1) := by decide +kernel
theorem dL_text_33 : decode cL_text 33 = .ok (.bipush 12, 2) := by decide +kernel
theorem dL_text_35 : decode cL_text 35 = .ok (.iadd, 1) := by decide +kernel
theorem dL_text_36 : decode cL_text 36 = .ok (.invokestatic 89, 3) := by decide +kernel
theorem dL_text_39 : decode cL_text 39 = .ok (.aload_n 1, 1) := by decide +kernel
theorem dL_text_40 : decode cL_text 40 = .ok (.iload_n 2, 1) := by decide +kernel
theorem dL_text_41 : decode cL_text 41 = .ok (.bipush 16, 2) := by decide +kernel
theorem dL_text_43 : decode cL_text 43 = .ok (.iadd, 1) := by decide +kernel
theorem dL_text_44 : decode cL_text 44 = .ok (.invokestatic 89, 3) := by decide +kernel
theorem dL_text_47 : decode cL_text 47 = .ok (.invokevirtual 95, 3) := by decide +kernel
theorem dL_text_50 : decode cL_text 50 = .ok (.iload_n 2, 1) := by decide +kernel
theorem dL_text_51 : decode cL_text 51 = .ok (.bipush 20, 2) := by decide +kernel
theorem dL_text_53 : decode cL_text 53 = .ok (.iadd, 1) := by decide +kernel
theorem dL_text_54 : decode cL_text 54 = .ok (.if_icmp .eq 5, 3) := by decide +kernel
theorem dL_text_57 : decode cL_text 57 = .ok (.iconst 0, 1) := by decide +kernel
theorem dL_text_58 : decode cL_text 58 = .ok (.ireturn, 1) := by decide +kernel
theorem dL_text_59 : decode cL_text 59 = .ok (.iinc 2 20, 3) := by decide +kernel
theorem dL_text_62 : decode cL_text 62 = .ok (.goto (-60), 3) := by decide +kernel
theorem dL_text_65 : decode cL_text 65 = .ok (.aload_n 0, 1) := by decide +kernel
theorem dL_text_66 : decode cL_text 66 = .ok (.aload_n 1, 1) := by decide +kernel
theorem dL_text_67 : decode cL_text 67 = .ok (.invokevirtual 84, 3) := by decide +kernel
theorem dL_text_70 : decode cL_text 70 = .ok (.invokevirtual 99, 3) := by decide +kernel
theorem dL_text_73 : decode cL_text 73 = .ok (.ireturn, 1) := by decide +kernel
theorem ct_L_text : Cond.static yL_text ∈ TW := TW_of 1289 (by decide +kernel) (by decide +kernel)
abbrev cL_isAs : ByteArray := method_7_code
def yL_isAs : MethodName := ⟨RL, "isAs", "(LTranscriptCutter;LTranscriptCutterLaw$Drawn;)Z"⟩
theorem dL_isAs_0 : decode cL_isAs 0 = .ok (.aload_n 0, 1) := by decide +kernel
theorem dL_isAs_1 : decode cL_isAs 1 = .ok (.invokevirtual 197, 3) := by decide +kernel
theorem dL_isAs_4 : decode cL_isAs 4 = .ok (.aload_n 1, 1) := by decide +kernel
theorem dL_isAs_5 : decode cL_isAs 5 = .ok (.getfield 166, 3) := by decide +kernel
theorem dL_isAs_8 : decode cL_isAs 8 = .ok (.arraylength, 1) := by decide +kernel
theorem dL_isAs_9 : decode cL_isAs 9 = .ok (.if_icmp .ne 26, 3) := by decide +kernel
theorem dL_isAs_12 : decode cL_isAs 12 = .ok (.aload_n 0, 1) := by decide +kernel
theorem dL_isAs_13 : decode cL_isAs 13 = .ok (.invokevirtual 200, 3) := by decide +kernel
theorem dL_isAs_16 : decode cL_isAs 16 = .ok (.aload_n 1, 1) := by decide +kernel
theorem dL_isAs_17 : decode cL_isAs 17 = .ok (.invokevirtual 130, 3) := by decide +kernel
theorem dL_isAs_20 : decode cL_isAs 20 = .ok (.if_icmp .ne 15, 3) := by decide +kernel
theorem dL_isAs_23 : decode cL_isAs 23 = .ok (.aload_n 0, 1) := by decide +kernel
theorem dL_isAs_24 : decode cL_isAs 24 = .ok (.iconst 3, 1) := by decide +kernel
theorem dL_isAs_25 : decode cL_isAs 25 = .ok (.invokevirtual 201, 3) := by decide +kernel
theorem dL_isAs_28 : decode cL_isAs 28 = .ok (.aload_n 1, 1) := by decide +kernel
theorem dL_isAs_29 : decode cL_isAs 29 = .ok (.getfield 147, 3) := by decide +kernel
theorem dL_isAs_32 : decode cL_isAs 32 = .ok (.if_icmp .eq 5, 3) := by decide +kernel
theorem dL_isAs_35 : decode cL_isAs 35 = .ok (.iconst 0, 1) := by decide +kernel
theorem dL_isAs_36 : decode cL_isAs 36 = .ok (.ireturn, 1) := by decide +kernel
theorem dL_isAs_37 : decode cL_isAs 37 = .ok (.iconst 0, 1) := by decide +kernel
theorem dL_isAs_38 : decode cL_isAs 38 = .ok (.istore_n 2, 1) := by decide +kernel
theorem dL_isAs_39 : decode cL_isAs 39 = .ok (.iconst 0, 1) := by decide +kernel
theorem dL_isAs_40 : decode cL_isAs 40 = .ok (.istore_n 3, 1) := by decide +kernel
theorem dL_isAs_41 : decode cL_isAs 41 = .ok (.iload_n 3, 1) := by decide +kernel
theorem dL_isAs_42 : decode cL_isAs 42 = .ok (.aload_n 1, 1) := by decide +kernel
theorem dL_isAs_43 : decode cL_isAs 43 = .ok (.getfield 166, 3) := by decide +kernel
theorem dL_isAs_46 : decode cL_isAs 46 = .ok (.arraylength, 1) := by decide +kernel
theorem dL_isAs_47 : decode cL_isAs 47 = .ok (.if_icmp .ge 94, 3) := by decide +kernel
theorem dL_isAs_50 : decode cL_isAs 50 = .ok (.aload_n 1, 1) := by decide +kernel
theorem dL_isAs_51 : decode cL_isAs 51 = .ok (.getfield 166, 3) := by decide +kernel
theorem dL_isAs_54 : decode cL_isAs 54 = .ok (.iload_n 3, 1) := by decide +kernel
theorem dL_isAs_55 : decode cL_isAs 55 = .ok (.iaload, 1) := by decide +kernel
theorem dL_isAs_56 : decode cL_isAs 56 = .ok (.istore 4, 2) := by decide +kernel
theorem dL_isAs_58 : decode cL_isAs 58 = .ok (.aload_n 0, 1) := by decide +kernel
theorem dL_isAs_59 : decode cL_isAs 59 = .ok (.iconst 3, 1) := by decide +kernel
theorem dL_isAs_60 : decode cL_isAs 60 = .ok (.iload_n 3, 1) := by decide +kernel
theorem dL_isAs_61 : decode cL_isAs 61 = .ok (.iconst 0, 1) := by decide +kernel
theorem dL_isAs_62 : decode cL_isAs 62 = .ok (.iconst 0, 1) := by decide +kernel
theorem dL_isAs_63 : decode cL_isAs 63 = .ok (.invokestatic 121, 3) := by decide +kernel
theorem dL_isAs_66 : decode cL_isAs 66 = .ok (.iload 4, 2) := by decide +kernel
theorem dL_isAs_68 : decode cL_isAs 68 = .ok (.if_icmp .ne 49, 3) := by decide +kernel
theorem dL_isAs_71 : decode cL_isAs 71 = .ok (.aload_n 0, 1) := by decide +kernel
theorem dL_isAs_72 : decode cL_isAs 72 = .ok (.iconst 4, 1) := by decide +kernel
theorem dL_isAs_73 : decode cL_isAs 73 = .ok (.iload_n 3, 1) := by decide +kernel
theorem dL_isAs_74 : decode cL_isAs 74 = .ok (.iconst 0, 1) := by decide +kernel
theorem dL_isAs_75 : decode cL_isAs 75 = .ok (.iconst 0, 1) := by decide +kernel
theorem dL_isAs_76 : decode cL_isAs 76 = .ok (.invokestatic 121, 3) := by decide +kernel
theorem dL_isAs_79 : decode cL_isAs 79 = .ok (.aload_n 1, 1) := by decide +kernel
theorem dL_isAs_80 : decode cL_isAs 80 = .ok (.iload 4, 2) := by decide +kernel
theorem dL_isAs_82 : decode cL_isAs 82 = .ok (.invokevirtual 163, 3) := by decide +kernel
theorem dL_isAs_85 : decode cL_isAs 85 = .ok (.if_icmp .ne 32, 3) := by decide +kernel
theorem dL_isAs_88 : decode cL_isAs 88 = .ok (.aload_n 0, 1) := by decide +kernel
theorem dL_isAs_89 : decode cL_isAs 89 = .ok (.iconst 4, 1) := by decide +kernel
theorem dL_isAs_90 : decode cL_isAs 90 = .ok (.iload_n 3, 1) := by decide +kernel
theorem dL_isAs_91 : decode cL_isAs 91 = .ok (.iconst 1, 1) := by decide +kernel
theorem dL_isAs_92 : decode cL_isAs 92 = .ok (.iconst 0, 1) := by decide +kernel
theorem dL_isAs_93 : decode cL_isAs 93 = .ok (.invokestatic 121, 3) := by decide +kernel
theorem dL_isAs_96 : decode cL_isAs 96 = .ok (.aload_n 1, 1) := by decide +kernel
theorem dL_isAs_97 : decode cL_isAs 97 = .ok (.iload 4, 2) := by decide +kernel
theorem dL_isAs_99 : decode cL_isAs 99 = .ok (.invokevirtual 160, 3) := by decide +kernel
theorem dL_isAs_102 : decode cL_isAs 102 = .ok (.if_icmp .ne 15, 3) := by decide +kernel
theorem dL_isAs_105 : decode cL_isAs 105 = .ok (.aload_n 0, 1) := by decide +kernel
theorem dL_isAs_106 : decode cL_isAs 106 = .ok (.iconst 4, 1) := by decide +kernel
theorem dL_isAs_107 : decode cL_isAs 107 = .ok (.iload_n 3, 1) := by decide +kernel
theorem dL_isAs_108 : decode cL_isAs 108 = .ok (.iconst 2, 1) := by decide +kernel
theorem dL_isAs_109 : decode cL_isAs 109 = .ok (.iconst 0, 1) := by decide +kernel
theorem dL_isAs_110 : decode cL_isAs 110 = .ok (.invokestatic 121, 3) := by decide +kernel
theorem dL_isAs_113 : decode cL_isAs 113 = .ok (.iload_n 2, 1) := by decide +kernel
theorem dL_isAs_114 : decode cL_isAs 114 = .ok (.if_icmp .eq 5, 3) := by decide +kernel
theorem dL_isAs_117 : decode cL_isAs 117 = .ok (.iconst 0, 1) := by decide +kernel
theorem dL_isAs_118 : decode cL_isAs 118 = .ok (.ireturn, 1) := by decide +kernel
theorem dL_isAs_119 : decode cL_isAs 119 = .ok (.iload_n 2, 1) := by decide +kernel
theorem dL_isAs_120 : decode cL_isAs 120 = .ok (.aload_n 1, 1) := by decide +kernel
theorem dL_isAs_121 : decode cL_isAs 121 = .ok (.iload 4, 2) := by decide +kernel
theorem dL_isAs_123 : decode cL_isAs 123 = .ok (.invokevirtual 160, 3) := by decide +kernel
theorem dL_isAs_126 : decode cL_isAs 126 = .ok (.aload_n 1, 1) := by decide +kernel
theorem dL_isAs_127 : decode cL_isAs 127 = .ok (.iload 4, 2) := by decide +kernel
theorem dL_isAs_129 : decode cL_isAs 129 = .ok (.invokevirtual 163, 3) := by decide +kernel
theorem dL_isAs_132 : decode cL_isAs 132 = .ok (.isub, 1) := by decide +kernel
theorem dL_isAs_133 : decode cL_isAs 133 = .ok (.iadd, 1) := by decide +kernel
theorem dL_isAs_134 : decode cL_isAs 134 = .ok (.istore_n 2, 1) := by decide +kernel
theorem dL_isAs_135 : decode cL_isAs 135 = .ok (.iinc 3 1, 3) := by decide +kernel
theorem dL_isAs_138 : decode cL_isAs 138 = .ok (.goto (-97), 3) := by decide +kernel
theorem dL_isAs_141 : decode cL_isAs 141 = .ok (.iconst 0, 1) := by decide +kernel
theorem dL_isAs_142 : decode cL_isAs 142 = .ok (.istore_n 3, 1) := by decide +kernel
theorem dL_isAs_143 : decode cL_isAs 143 = .ok (.iload_n 3, 1) := by decide +kernel
theorem dL_isAs_144 : decode cL_isAs 144 = .ok (.aload_n 1, 1) := by decide +kernel
theorem dL_isAs_145 : decode cL_isAs 145 = .ok (.getfield 147, 3) := by decide +kernel
theorem dL_isAs_148 : decode cL_isAs 148 = .ok (.if_icmp .ge 134, 3) := by decide +kernel
theorem dL_isAs_151 : decode cL_isAs 151 = .ok (.aload_n 0, 1) := by decide +kernel
theorem dL_isAs_152 : decode cL_isAs 152 = .ok (.iconst 2, 1) := by decide +kernel
theorem dL_isAs_153 : decode cL_isAs 153 = .ok (.iload_n 3, 1) := by decide +kernel
theorem dL_isAs_154 : decode cL_isAs 154 = .ok (.iconst 0, 1) := by decide +kernel
theorem dL_isAs_155 : decode cL_isAs 155 = .ok (.iconst 0, 1) := by decide +kernel
theorem dL_isAs_156 : decode cL_isAs 156 = .ok (.invokestatic 121, 3) := by decide +kernel
theorem dL_isAs_159 : decode cL_isAs 159 = .ok (.aload_n 1, 1) := by decide +kernel
theorem dL_isAs_160 : decode cL_isAs 160 = .ok (.getfield 204, 3) := by decide +kernel
theorem dL_isAs_163 : decode cL_isAs 163 = .ok (.iload_n 3, 1) := by decide +kernel
theorem dL_isAs_164 : decode cL_isAs 164 = .ok (.iaload, 1) := by decide +kernel
theorem dL_isAs_165 : decode cL_isAs 165 = .ok (.if_icmp .ne 73, 3) := by decide +kernel
theorem dL_isAs_168 : decode cL_isAs 168 = .ok (.aload_n 0, 1) := by decide +kernel
theorem dL_isAs_169 : decode cL_isAs 169 = .ok (.iconst 2, 1) := by decide +kernel
theorem dL_isAs_170 : decode cL_isAs 170 = .ok (.iload_n 3, 1) := by decide +kernel
theorem dL_isAs_171 : decode cL_isAs 171 = .ok (.iconst 1, 1) := by decide +kernel
theorem dL_isAs_172 : decode cL_isAs 172 = .ok (.iconst 0, 1) := by decide +kernel
theorem dL_isAs_173 : decode cL_isAs 173 = .ok (.invokestatic 121, 3) := by decide +kernel
theorem dL_isAs_176 : decode cL_isAs 176 = .ok (.aload_n 1, 1) := by decide +kernel
theorem dL_isAs_177 : decode cL_isAs 177 = .ok (.getfield 207, 3) := by decide +kernel
theorem dL_isAs_180 : decode cL_isAs 180 = .ok (.iload_n 3, 1) := by decide +kernel
theorem dL_isAs_181 : decode cL_isAs 181 = .ok (.iaload, 1) := by decide +kernel
theorem dL_isAs_182 : decode cL_isAs 182 = .ok (.if_icmp .ne 56, 3) := by decide +kernel
theorem dL_isAs_185 : decode cL_isAs 185 = .ok (.aload_n 0, 1) := by decide +kernel
theorem dL_isAs_186 : decode cL_isAs 186 = .ok (.iconst 2, 1) := by decide +kernel
theorem dL_isAs_187 : decode cL_isAs 187 = .ok (.iload_n 3, 1) := by decide +kernel
theorem dL_isAs_188 : decode cL_isAs 188 = .ok (.bipush 6, 2) := by decide +kernel
theorem dL_isAs_190 : decode cL_isAs 190 = .ok (.iconst 0, 1) := by decide +kernel
theorem dL_isAs_191 : decode cL_isAs 191 = .ok (.invokestatic 121, 3) := by decide +kernel
theorem dL_isAs_194 : decode cL_isAs 194 = .ok (.aload_n 1, 1) := by decide +kernel
theorem dL_isAs_195 : decode cL_isAs 195 = .ok (.getfield 150, 3) := by decide +kernel
theorem dL_isAs_198 : decode cL_isAs 198 = .ok (.iload_n 3, 1) := by decide +kernel
theorem dL_isAs_199 : decode cL_isAs 199 = .ok (.iaload, 1) := by decide +kernel
theorem dL_isAs_200 : decode cL_isAs 200 = .ok (.if_icmp .ne 38, 3) := by decide +kernel
theorem dL_isAs_203 : decode cL_isAs 203 = .ok (.aload_n 0, 1) := by decide +kernel
theorem dL_isAs_204 : decode cL_isAs 204 = .ok (.iconst 2, 1) := by decide +kernel
theorem dL_isAs_205 : decode cL_isAs 205 = .ok (.iload_n 3, 1) := by decide +kernel
theorem dL_isAs_206 : decode cL_isAs 206 = .ok (.bipush 7, 2) := by decide +kernel
theorem dL_isAs_208 : decode cL_isAs 208 = .ok (.iconst 0, 1) := by decide +kernel
theorem dL_isAs_209 : decode cL_isAs 209 = .ok (.invokestatic 121, 3) := by decide +kernel
theorem dL_isAs_212 : decode cL_isAs 212 = .ok (.aload_n 1, 1) := by decide +kernel
theorem dL_isAs_213 : decode cL_isAs 213 = .ok (.getfield 154, 3) := by decide +kernel
theorem dL_isAs_216 : decode cL_isAs 216 = .ok (.iload_n 3, 1) := by decide +kernel
theorem dL_isAs_217 : decode cL_isAs 217 = .ok (.iaload, 1) := by decide +kernel
theorem dL_isAs_218 : decode cL_isAs 218 = .ok (.if_icmp .ne 20, 3) := by decide +kernel
theorem dL_isAs_221 : decode cL_isAs 221 = .ok (.aload_n 0, 1) := by decide +kernel
theorem dL_isAs_222 : decode cL_isAs 222 = .ok (.iconst 2, 1) := by decide +kernel
theorem dL_isAs_223 : decode cL_isAs 223 = .ok (.iload_n 3, 1) := by decide +kernel
theorem dL_isAs_224 : decode cL_isAs 224 = .ok (.bipush 8, 2) := by decide +kernel
theorem dL_isAs_226 : decode cL_isAs 226 = .ok (.iconst 0, 1) := by decide +kernel
theorem dL_isAs_227 : decode cL_isAs 227 = .ok (.invokestatic 121, 3) := by decide +kernel
theorem dL_isAs_230 : decode cL_isAs 230 = .ok (.aload_n 1, 1) := by decide +kernel
theorem dL_isAs_231 : decode cL_isAs 231 = .ok (.iload_n 3, 1) := by decide +kernel
theorem dL_isAs_232 : decode cL_isAs 232 = .ok (.invokevirtual 157, 3) := by decide +kernel
theorem dL_isAs_235 : decode cL_isAs 235 = .ok (.if_icmp .eq 5, 3) := by decide +kernel
theorem dL_isAs_238 : decode cL_isAs 238 = .ok (.iconst 0, 1) := by decide +kernel
theorem dL_isAs_239 : decode cL_isAs 239 = .ok (.ireturn, 1) := by decide +kernel
theorem dL_isAs_240 : decode cL_isAs 240 = .ok (.aload_n 0, 1) := by decide +kernel
theorem dL_isAs_241 : decode cL_isAs 241 = .ok (.iconst 2, 1) := by decide +kernel
theorem dL_isAs_242 : decode cL_isAs 242 = .ok (.iload_n 3, 1) := by decide +kernel
theorem dL_isAs_243 : decode cL_isAs 243 = .ok (.iconst 5, 1) := by decide +kernel
theorem dL_isAs_244 : decode cL_isAs 244 = .ok (.iconst 0, 1) := by decide +kernel
theorem dL_isAs_245 : decode cL_isAs 245 = .ok (.invokestatic 121, 3) := by decide +kernel
theorem dL_isAs_248 : decode cL_isAs 248 = .ok (.iload_n 3, 1) := by decide +kernel
theorem dL_isAs_249 : decode cL_isAs 249 = .ok (.aload_n 1, 1) := by decide +kernel
theorem dL_isAs_250 : decode cL_isAs 250 = .ok (.getfield 147, 3) := by decide +kernel
theorem dL_isAs_253 : decode cL_isAs 253 = .ok (.iconst 1, 1) := by decide +kernel
theorem dL_isAs_254 : decode cL_isAs 254 = .ok (.isub, 1) := by decide +kernel
theorem dL_isAs_255 : decode cL_isAs 255 = .ok (.if_icmp .ne 10, 3) := by decide +kernel
theorem dL_isAs_258 : decode cL_isAs 258 = .ok (.aload_n 1, 1) := by decide +kernel
theorem dL_isAs_259 : decode cL_isAs 259 = .ok (.getfield 210, 3) := by decide +kernel
theorem dL_isAs_262 : decode cL_isAs 262 = .ok (.goto 9, 3) := by decide +kernel
theorem dL_isAs_265 : decode cL_isAs 265 = .ok (.aload_n 1, 1) := by decide +kernel
theorem dL_isAs_266 : decode cL_isAs 266 = .ok (.getfield 212, 3) := by decide +kernel
theorem dL_isAs_269 : decode cL_isAs 269 = .ok (.iload_n 3, 1) := by decide +kernel
theorem dL_isAs_270 : decode cL_isAs 270 = .ok (.iaload, 1) := by decide +kernel
theorem dL_isAs_271 : decode cL_isAs 271 = .ok (.if_icmp .eq 5, 3) := by decide +kernel
theorem dL_isAs_274 : decode cL_isAs 274 = .ok (.iconst 0, 1) := by decide +kernel
theorem dL_isAs_275 : decode cL_isAs 275 = .ok (.ireturn, 1) := by decide +kernel
theorem dL_isAs_276 : decode cL_isAs 276 = .ok (.iinc 3 1, 3) := by decide +kernel
theorem dL_isAs_279 : decode cL_isAs 279 = .ok (.goto (-136), 3) := by decide +kernel
theorem dL_isAs_282 : decode cL_isAs 282 = .ok (.aload_n 0, 1) := by decide +kernel
theorem dL_isAs_283 : decode cL_isAs 283 = .ok (.iconst 3, 1) := by decide +kernel
theorem dL_isAs_284 : decode cL_isAs 284 = .ok (.aload_n 1, 1) := by decide +kernel
theorem dL_isAs_285 : decode cL_isAs 285 = .ok (.getfield 166, 3) := by decide +kernel
theorem dL_isAs_288 : decode cL_isAs 288 = .ok (.arraylength, 1) := by decide +kernel
theorem dL_isAs_289 : decode cL_isAs 289 = .ok (.iconst 0, 1) := by decide +kernel
theorem dL_isAs_290 : decode cL_isAs 290 = .ok (.iconst 0, 1) := by decide +kernel
theorem dL_isAs_291 : decode cL_isAs 291 = .ok (.invokestatic 121, 3) := by decide +kernel
theorem dL_isAs_294 : decode cL_isAs 294 = .ok (.ldc 77, 2) := by decide +kernel
theorem dL_isAs_296 : decode cL_isAs 296 = .ok (.if_icmp .ne 7, 3) := by decide +kernel
theorem dL_isAs_299 : decode cL_isAs 299 = .ok (.iconst 1, 1) := by decide +kernel
theorem dL_isAs_300 : decode cL_isAs 300 = .ok (.goto 4, 3) := by decide +kernel
theorem dL_isAs_303 : decode cL_isAs 303 = .ok (.iconst 0, 1) := by decide +kernel
theorem dL_isAs_304 : decode cL_isAs 304 = .ok (.ireturn, 1) := by decide +kernel
theorem ct_L_isAs : Cond.static yL_isAs ∈ TW := TW_of 1358 (by decide +kernel) (by decide +kernel)
abbrev cL_areWords : ByteArray := method_8_code
def yL_areWords : MethodName := ⟨RL, "areWords", "(LTranscriptCutter;LTranscriptCutterLaw$Drawn;)Z"⟩
theorem dL_areWords_0 : decode cL_areWords 0 = .ok (.iconst 0, 1) := by decide +kernel
theorem dL_areWords_1 : decode cL_areWords 1 = .ok (.istore_n 2, 1) := by decide +kernel
theorem dL_areWords_2 : decode cL_areWords 2 = .ok (.iload_n 2, 1) := by decide +kernel
theorem dL_areWords_3 : decode cL_areWords 3 = .ok (.aload_n 1, 1) := by decide +kernel
theorem dL_areWords_4 : decode cL_areWords 4 = .ok (.getfield 106, 3) := by decide +kernel
theorem dL_areWords_7 : decode cL_areWords 7 = .ok (.if_icmp .ge 90, 3) := by decide +kernel
theorem dL_areWords_10 : decode cL_areWords 10 = .ok (.aload_n 1, 1) := by decide +kernel
theorem dL_areWords_11 : decode cL_areWords 11 = .ok (.getfield 214, 3) := by decide +kernel
theorem dL_areWords_14 : decode cL_areWords 14 = .ok (.iload_n 2, 1) := by decide +kernel
theorem dL_areWords_15 : decode cL_areWords 15 = .ok (.aaload, 1) := by decide +kernel
theorem dL_areWords_16 : decode cL_areWords 16 = .ok (.astore_n 3, 1) := by decide +kernel
theorem dL_areWords_17 : decode cL_areWords 17 = .ok (.aload_n 0, 1) := by decide +kernel
theorem dL_areWords_18 : decode cL_areWords 18 = .ok (.iconst 1, 1) := by decide +kernel
theorem dL_areWords_19 : decode cL_areWords 19 = .ok (.iload_n 2, 1) := by decide +kernel
theorem dL_areWords_20 : decode cL_areWords 20 = .ok (.iconst 0, 1) := by decide +kernel
theorem dL_areWords_21 : decode cL_areWords 21 = .ok (.iconst 0, 1) := by decide +kernel
theorem dL_areWords_22 : decode cL_areWords 22 = .ok (.invokestatic 121, 3) := by decide +kernel
theorem dL_areWords_25 : decode cL_areWords 25 = .ok (.aload_n 3, 1) := by decide +kernel
theorem dL_areWords_26 : decode cL_areWords 26 = .ok (.iconst 0, 1) := by decide +kernel
theorem dL_areWords_27 : decode cL_areWords 27 = .ok (.iaload, 1) := by decide +kernel
theorem dL_areWords_28 : decode cL_areWords 28 = .ok (.if_icmp .ne 61, 3) := by decide +kernel
theorem dL_areWords_31 : decode cL_areWords 31 = .ok (.aload_n 0, 1) := by decide +kernel
theorem dL_areWords_32 : decode cL_areWords 32 = .ok (.iconst 1, 1) := by decide +kernel
theorem dL_areWords_33 : decode cL_areWords 33 = .ok (.iload_n 2, 1) := by decide +kernel
theorem dL_areWords_34 : decode cL_areWords 34 = .ok (.iconst 1, 1) := by decide +kernel
theorem dL_areWords_35 : decode cL_areWords 35 = .ok (.iconst 0, 1) := by decide +kernel
theorem dL_areWords_36 : decode cL_areWords 36 = .ok (.invokestatic 121, 3) := by decide +kernel
theorem dL_areWords_39 : decode cL_areWords 39 = .ok (.aload_n 3, 1) := by decide +kernel
theorem dL_areWords_40 : decode cL_areWords 40 = .ok (.iconst 2, 1) := by decide +kernel
theorem dL_areWords_41 : decode cL_areWords 41 = .ok (.iaload, 1) := by decide +kernel
theorem dL_areWords_42 : decode cL_areWords 42 = .ok (.if_icmp .ne 47, 3) := by decide +kernel
theorem dL_areWords_45 : decode cL_areWords 45 = .ok (.aload_n 0, 1) := by decide +kernel
theorem dL_areWords_46 : decode cL_areWords 46 = .ok (.iconst 1, 1) := by decide +kernel
theorem dL_areWords_47 : decode cL_areWords 47 = .ok (.iload_n 2, 1) := by decide +kernel
theorem dL_areWords_48 : decode cL_areWords 48 = .ok (.iconst 2, 1) := by decide +kernel
theorem dL_areWords_49 : decode cL_areWords 49 = .ok (.iconst 0, 1) := by decide +kernel
theorem dL_areWords_50 : decode cL_areWords 50 = .ok (.invokestatic 121, 3) := by decide +kernel
theorem dL_areWords_53 : decode cL_areWords 53 = .ok (.aload_n 3, 1) := by decide +kernel
theorem dL_areWords_54 : decode cL_areWords 54 = .ok (.iconst 3, 1) := by decide +kernel
theorem dL_areWords_55 : decode cL_areWords 55 = .ok (.iaload, 1) := by decide +kernel
theorem dL_areWords_56 : decode cL_areWords 56 = .ok (.if_icmp .ne 33, 3) := by decide +kernel
theorem dL_areWords_59 : decode cL_areWords 59 = .ok (.aload_n 0, 1) := by decide +kernel
theorem dL_areWords_60 : decode cL_areWords 60 = .ok (.iconst 1, 1) := by decide +kernel
theorem dL_areWords_61 : decode cL_areWords 61 = .ok (.iload_n 2, 1) := by decide +kernel
theorem dL_areWords_62 : decode cL_areWords 62 = .ok (.iconst 3, 1) := by decide +kernel
theorem dL_areWords_63 : decode cL_areWords 63 = .ok (.iconst 0, 1) := by decide +kernel
theorem dL_areWords_64 : decode cL_areWords 64 = .ok (.invokestatic 121, 3) := by decide +kernel
theorem dL_areWords_67 : decode cL_areWords 67 = .ok (.aload_n 3, 1) := by decide +kernel
theorem dL_areWords_68 : decode cL_areWords 68 = .ok (.iconst 4, 1) := by decide +kernel
theorem dL_areWords_69 : decode cL_areWords 69 = .ok (.iaload, 1) := by decide +kernel
theorem dL_areWords_70 : decode cL_areWords 70 = .ok (.if_icmp .ne 19, 3) := by decide +kernel
theorem dL_areWords_73 : decode cL_areWords 73 = .ok (.aload_n 0, 1) := by decide +kernel
theorem dL_areWords_74 : decode cL_areWords 74 = .ok (.iconst 1, 1) := by decide +kernel
theorem dL_areWords_75 : decode cL_areWords 75 = .ok (.iload_n 2, 1) := by decide +kernel
theorem dL_areWords_76 : decode cL_areWords 76 = .ok (.iconst 4, 1) := by decide +kernel
theorem dL_areWords_77 : decode cL_areWords 77 = .ok (.iconst 0, 1) := by decide +kernel
theorem dL_areWords_78 : decode cL_areWords 78 = .ok (.invokestatic 121, 3) := by decide +kernel
theorem dL_areWords_81 : decode cL_areWords 81 = .ok (.aload_n 1, 1) := by decide +kernel
theorem dL_areWords_82 : decode cL_areWords 82 = .ok (.iload_n 2, 1) := by decide +kernel
theorem dL_areWords_83 : decode cL_areWords 83 = .ok (.invokevirtual 141, 3) := by decide +kernel
theorem dL_areWords_86 : decode cL_areWords 86 = .ok (.if_icmp .eq 5, 3) := by decide +kernel
theorem dL_areWords_89 : decode cL_areWords 89 = .ok (.iconst 0, 1) := by decide +kernel
theorem dL_areWords_90 : decode cL_areWords 90 = .ok (.ireturn, 1) := by decide +kernel
theorem dL_areWords_91 : decode cL_areWords 91 = .ok (.iinc 2 1, 3) := by decide +kernel
theorem dL_areWords_94 : decode cL_areWords 94 = .ok (.goto (-92), 3) := by decide +kernel
theorem dL_areWords_97 : decode cL_areWords 97 = .ok (.aload_n 1, 1) := by decide +kernel
theorem dL_areWords_98 : decode cL_areWords 98 = .ok (.invokevirtual 117, 3) := by decide +kernel
theorem dL_areWords_101 : decode cL_areWords 101 = .ok (.astore_n 2, 1) := by decide +kernel
theorem dL_areWords_102 : decode cL_areWords 102 = .ok (.aload_n 0, 1) := by decide +kernel
theorem dL_areWords_103 : decode cL_areWords 103 = .ok (.invokevirtual 218, 3) := by decide +kernel
theorem dL_areWords_106 : decode cL_areWords 106 = .ok (.aload_n 2, 1) := by decide +kernel
theorem dL_areWords_107 : decode cL_areWords 107 = .ok (.arraylength, 1) := by decide +kernel
theorem dL_areWords_108 : decode cL_areWords 108 = .ok (.if_icmp .ne 13, 3) := by decide +kernel
theorem dL_areWords_111 : decode cL_areWords 111 = .ok (.aload_n 0, 1) := by decide +kernel
theorem dL_areWords_112 : decode cL_areWords 112 = .ok (.aload_n 2, 1) := by decide +kernel
theorem dL_areWords_113 : decode cL_areWords 113 = .ok (.arraylength, 1) := by decide +kernel
theorem dL_areWords_114 : decode cL_areWords 114 = .ok (.invokevirtual 221, 3) := by decide +kernel
theorem dL_areWords_117 : decode cL_areWords 117 = .ok (.iconst (-1), 1) := by decide +kernel
theorem dL_areWords_118 : decode cL_areWords 118 = .ok (.if_icmp .eq 5, 3) := by decide +kernel
theorem dL_areWords_121 : decode cL_areWords 121 = .ok (.iconst 0, 1) := by decide +kernel
theorem dL_areWords_122 : decode cL_areWords 122 = .ok (.ireturn, 1) := by decide +kernel
theorem dL_areWords_123 : decode cL_areWords 123 = .ok (.iconst 0, 1) := by decide +kernel
theorem dL_areWords_124 : decode cL_areWords 124 = .ok (.istore_n 3, 1) := by decide +kernel
theorem dL_areWords_125 : decode cL_areWords 125 = .ok (.iload_n 3, 1) := by decide +kernel
theorem dL_areWords_126 : decode cL_areWords 126 = .ok (.aload_n 2, 1) := by decide +kernel
theorem dL_areWords_127 : decode cL_areWords 127 = .ok (.arraylength, 1) := by decide +kernel
theorem dL_areWords_128 : decode cL_areWords 128 = .ok (.if_icmp .ge 37, 3) := by decide +kernel
theorem dL_areWords_131 : decode cL_areWords 131 = .ok (.aload_n 0, 1) := by decide +kernel
theorem dL_areWords_132 : decode cL_areWords 132 = .ok (.iload_n 3, 1) := by decide +kernel
theorem dL_areWords_133 : decode cL_areWords 133 = .ok (.invokevirtual 221, 3) := by decide +kernel
theorem dL_areWords_136 : decode cL_areWords 136 = .ok (.aload_n 2, 1) := by decide +kernel
theorem dL_areWords_137 : decode cL_areWords 137 = .ok (.iload_n 3, 1) := by decide +kernel
theorem dL_areWords_138 : decode cL_areWords 138 = .ok (.iaload, 1) := by decide +kernel
theorem dL_areWords_139 : decode cL_areWords 139 = .ok (.if_icmp .ne 18, 3) := by decide +kernel
theorem dL_areWords_142 : decode cL_areWords 142 = .ok (.aload_n 0, 1) := by decide +kernel
theorem dL_areWords_143 : decode cL_areWords 143 = .ok (.bipush 7, 2) := by decide +kernel
theorem dL_areWords_145 : decode cL_areWords 145 = .ok (.aload_n 2, 1) := by decide +kernel
theorem dL_areWords_146 : decode cL_areWords 146 = .ok (.iload_n 3, 1) := by decide +kernel
theorem dL_areWords_147 : decode cL_areWords 147 = .ok (.iaload, 1) := by decide +kernel
theorem dL_areWords_148 : decode cL_areWords 148 = .ok (.iconst 0, 1) := by decide +kernel
theorem dL_areWords_149 : decode cL_areWords 149 = .ok (.iconst 0, 1) := by decide +kernel
theorem dL_areWords_150 : decode cL_areWords 150 = .ok (.invokestatic 121, 3) := by decide +kernel
theorem dL_areWords_153 : decode cL_areWords 153 = .ok (.iload_n 3, 1) := by decide +kernel
theorem dL_areWords_154 : decode cL_areWords 154 = .ok (.if_icmp .eq 5, 3) := by decide +kernel
theorem dL_areWords_157 : decode cL_areWords 157 = .ok (.iconst 0, 1) := by decide +kernel
theorem dL_areWords_158 : decode cL_areWords 158 = .ok (.ireturn, 1) := by decide +kernel
theorem dL_areWords_159 : decode cL_areWords 159 = .ok (.iinc 3 1, 3) := by decide +kernel
theorem dL_areWords_162 : decode cL_areWords 162 = .ok (.goto (-37), 3) := by decide +kernel
theorem dL_areWords_165 : decode cL_areWords 165 = .ok (.aload_n 0, 1) := by decide +kernel
theorem dL_areWords_166 : decode cL_areWords 166 = .ok (.iconst 1, 1) := by decide +kernel
theorem dL_areWords_167 : decode cL_areWords 167 = .ok (.aload_n 1, 1) := by decide +kernel
theorem dL_areWords_168 : decode cL_areWords 168 = .ok (.getfield 106, 3) := by decide +kernel
theorem dL_areWords_171 : decode cL_areWords 171 = .ok (.iconst 0, 1) := by decide +kernel
theorem dL_areWords_172 : decode cL_areWords 172 = .ok (.iconst 0, 1) := by decide +kernel
theorem dL_areWords_173 : decode cL_areWords 173 = .ok (.invokestatic 121, 3) := by decide +kernel
theorem dL_areWords_176 : decode cL_areWords 176 = .ok (.ldc 77, 2) := by decide +kernel
theorem dL_areWords_178 : decode cL_areWords 178 = .ok (.if_icmp .ne 7, 3) := by decide +kernel
theorem dL_areWords_181 : decode cL_areWords 181 = .ok (.iconst 1, 1) := by decide +kernel
theorem dL_areWords_182 : decode cL_areWords 182 = .ok (.goto 4, 3) := by decide +kernel
theorem dL_areWords_185 : decode cL_areWords 185 = .ok (.iconst 0, 1) := by decide +kernel
theorem dL_areWords_186 : decode cL_areWords 186 = .ok (.ireturn, 1) := by decide +kernel
theorem ct_L_areWords : Cond.static yL_areWords ∈ TW := TW_of 1373 (by decide +kernel) (by decide +kernel)
abbrev cL_does : ByteArray := method_5_code
def yL_does : MethodName := ⟨RL, "does", "(LTranscriptCutter;LTranscriptCutterLaw$Drawn;LTranscriptCutterLaw$Draws;)Z"⟩
theorem dL_does_0 : decode cL_does 0 = .ok (.aload_n 2, 1) := by decide +kernel
theorem dL_does_1 : decode cL_does 1 = .ok (.aload_n 1, 1) := by decide +kernel
theorem dL_does_2 : decode cL_does 2 = .ok (.getfield 106, 3) := by decide +kernel
theorem dL_does_5 : decode cL_does 5 = .ok (.invokevirtual 112, 3) := by decide +kernel
theorem dL_does_8 : decode cL_does 8 = .ok (.istore_n 3, 1) := by decide +kernel
theorem dL_does_9 : decode cL_does 9 = .ok (.aload_n 1, 1) := by decide +kernel
theorem dL_does_10 : decode cL_does 10 = .ok (.invokevirtual 117, 3) := by decide +kernel
theorem dL_does_13 : decode cL_does 13 = .ok (.astore 4, 2) := by decide +kernel
theorem dL_does_15 : decode cL_does 15 = .ok (.aload_n 2, 1) := by decide +kernel
theorem dL_does_16 : decode cL_does 16 = .ok (.bipush 6, 2) := by decide +kernel
theorem dL_does_18 : decode cL_does 18 = .ok (.invokevirtual 112, 3) := by decide +kernel
theorem dL_does_21 : decode cL_does 21 = .ok (.tableswitch 373 0 3 #[31, 143, 200, 280], 31) := by decide +kernel
theorem dL_does_52 : decode cL_does 52 = .ok (.aload 4, 2) := by decide +kernel
theorem dL_does_54 : decode cL_does 54 = .ok (.arraylength, 1) := by decide +kernel
theorem dL_does_55 : decode cL_does 55 = .ok (.ifCond .ne 23, 3) := by decide +kernel
theorem dL_does_58 : decode cL_does 58 = .ok (.aload_n 0, 1) := by decide +kernel
theorem dL_does_59 : decode cL_does 59 = .ok (.bipush 12, 2) := by decide +kernel
theorem dL_does_61 : decode cL_does 61 = .ok (.iconst 0, 1) := by decide +kernel
theorem dL_does_62 : decode cL_does 62 = .ok (.iconst 0, 1) := by decide +kernel
theorem dL_does_63 : decode cL_does 63 = .ok (.iconst 0, 1) := by decide +kernel
theorem dL_does_64 : decode cL_does 64 = .ok (.invokestatic 121, 3) := by decide +kernel
theorem dL_does_67 : decode cL_does 67 = .ok (.ldc 80, 2) := by decide +kernel
theorem dL_does_69 : decode cL_does 69 = .ok (.if_icmp .ne 7, 3) := by decide +kernel
theorem dL_does_72 : decode cL_does 72 = .ok (.iconst 1, 1) := by decide +kernel
theorem dL_does_73 : decode cL_does 73 = .ok (.goto 4, 3) := by decide +kernel
theorem dL_does_76 : decode cL_does 76 = .ok (.iconst 0, 1) := by decide +kernel
theorem dL_does_77 : decode cL_does 77 = .ok (.ireturn, 1) := by decide +kernel
theorem dL_does_78 : decode cL_does 78 = .ok (.aload_n 2, 1) := by decide +kernel
theorem dL_does_79 : decode cL_does 79 = .ok (.aload 4, 2) := by decide +kernel
theorem dL_does_81 : decode cL_does 81 = .ok (.arraylength, 1) := by decide +kernel
theorem dL_does_82 : decode cL_does 82 = .ok (.invokevirtual 112, 3) := by decide +kernel
theorem dL_does_85 : decode cL_does 85 = .ok (.istore 5, 2) := by decide +kernel
theorem dL_does_87 : decode cL_does 87 = .ok (.aload 4, 2) := by decide +kernel
theorem dL_does_89 : decode cL_does 89 = .ok (.arraylength, 1) := by decide +kernel
theorem dL_does_90 : decode cL_does 90 = .ok (.iconst 1, 1) := by decide +kernel
theorem dL_does_91 : decode cL_does 91 = .ok (.isub, 1) := by decide +kernel
theorem dL_does_92 : decode cL_does 92 = .ok (.iload 5, 2) := by decide +kernel
theorem dL_does_94 : decode cL_does 94 = .ok (.aload_n 2, 1) := by decide +kernel
theorem dL_does_95 : decode cL_does 95 = .ok (.iconst 3, 1) := by decide +kernel
theorem dL_does_96 : decode cL_does 96 = .ok (.invokevirtual 112, 3) := by decide +kernel
theorem dL_does_99 : decode cL_does 99 = .ok (.iadd, 1) := by decide +kernel
theorem dL_does_100 : decode cL_does 100 = .ok (.invokestatic 125, 3) := by decide +kernel
theorem dL_does_103 : decode cL_does 103 = .ok (.istore 6, 2) := by decide +kernel
theorem dL_does_105 : decode cL_does 105 = .ok (.aload_n 1, 1) := by decide +kernel
theorem dL_does_106 : decode cL_does 106 = .ok (.invokevirtual 130, 3) := by decide +kernel
theorem dL_does_109 : decode cL_does 109 = .ok (.istore 7, 2) := by decide +kernel
theorem dL_does_111 : decode cL_does 111 = .ok (.iload 5, 2) := by decide +kernel
theorem dL_does_113 : decode cL_does 113 = .ok (.istore 8, 2) := by decide +kernel
theorem dL_does_115 : decode cL_does 115 = .ok (.iload 8, 2) := by decide +kernel
theorem dL_does_117 : decode cL_does 117 = .ok (.iload 6, 2) := by decide +kernel
theorem dL_does_119 : decode cL_does 119 = .ok (.if_icmp .gt 18, 3) := by decide +kernel
theorem dL_does_122 : decode cL_does 122 = .ok (.aload_n 1, 1) := by decide +kernel
theorem dL_does_123 : decode cL_does 123 = .ok (.aload 4, 2) := by decide +kernel
theorem dL_does_125 : decode cL_does 125 = .ok (.iload 8, 2) := by decide +kernel
theorem dL_does_127 : decode cL_does 127 = .ok (.iaload, 1) := by decide +kernel
theorem dL_does_128 : decode cL_does 128 = .ok (.invokevirtual 133, 3) := by decide +kernel
theorem dL_does_131 : decode cL_does 131 = .ok (.iinc 8 1, 3) := by decide +kernel
theorem dL_does_134 : decode cL_does 134 = .ok (.goto (-19), 3) := by decide +kernel
theorem dL_does_137 : decode cL_does 137 = .ok (.aload_n 0, 1) := by decide +kernel
theorem dL_does_138 : decode cL_does 138 = .ok (.bipush 12, 2) := by decide +kernel
theorem dL_does_140 : decode cL_does 140 = .ok (.iload 5, 2) := by decide +kernel
theorem dL_does_142 : decode cL_does 142 = .ok (.iload 6, 2) := by decide +kernel
theorem dL_does_144 : decode cL_does 144 = .ok (.iconst 0, 1) := by decide +kernel
theorem dL_does_145 : decode cL_does 145 = .ok (.invokestatic 121, 3) := by decide +kernel
theorem dL_does_148 : decode cL_does 148 = .ok (.iload 7, 2) := by decide +kernel
theorem dL_does_150 : decode cL_does 150 = .ok (.aload_n 1, 1) := by decide +kernel
theorem dL_does_151 : decode cL_does 151 = .ok (.invokevirtual 130, 3) := by decide +kernel
theorem dL_does_154 : decode cL_does 154 = .ok (.isub, 1) := by decide +kernel
theorem dL_does_155 : decode cL_does 155 = .ok (.if_icmp .ne 7, 3) := by decide +kernel
theorem dL_does_158 : decode cL_does 158 = .ok (.iconst 1, 1) := by decide +kernel
theorem dL_does_159 : decode cL_does 159 = .ok (.goto 4, 3) := by decide +kernel
theorem dL_does_162 : decode cL_does 162 = .ok (.iconst 0, 1) := by decide +kernel
theorem dL_does_163 : decode cL_does 163 = .ok (.ireturn, 1) := by decide +kernel
theorem dL_does_164 : decode cL_does 164 = .ok (.aload_n 1, 1) := by decide +kernel
theorem dL_does_165 : decode cL_does 165 = .ok (.getfield 137, 3) := by decide +kernel
theorem dL_does_168 : decode cL_does 168 = .ok (.iload_n 3, 1) := by decide +kernel
theorem dL_does_169 : decode cL_does 169 = .ok (.baload, 1) := by decide +kernel
theorem dL_does_170 : decode cL_does 170 = .ok (.ifCond .eq 23, 3) := by decide +kernel
theorem dL_does_173 : decode cL_does 173 = .ok (.aload_n 0, 1) := by decide +kernel
theorem dL_does_174 : decode cL_does 174 = .ok (.bipush 13, 2) := by decide +kernel
theorem dL_does_176 : decode cL_does 176 = .ok (.iload_n 3, 1) := by decide +kernel
theorem dL_does_177 : decode cL_does 177 = .ok (.iconst 0, 1) := by decide +kernel
theorem dL_does_178 : decode cL_does 178 = .ok (.iconst 0, 1) := by decide +kernel
theorem dL_does_179 : decode cL_does 179 = .ok (.invokestatic 121, 3) := by decide +kernel
theorem dL_does_182 : decode cL_does 182 = .ok (.ldc 83, 2) := by decide +kernel
theorem dL_does_184 : decode cL_does 184 = .ok (.if_icmp .ne 7, 3) := by decide +kernel
theorem dL_does_187 : decode cL_does 187 = .ok (.iconst 1, 1) := by decide +kernel
theorem dL_does_188 : decode cL_does 188 = .ok (.goto 4, 3) := by decide +kernel
theorem dL_does_191 : decode cL_does 191 = .ok (.iconst 0, 1) := by decide +kernel
theorem dL_does_192 : decode cL_does 192 = .ok (.ireturn, 1) := by decide +kernel
theorem dL_does_193 : decode cL_does 193 = .ok (.aload_n 1, 1) := by decide +kernel
theorem dL_does_194 : decode cL_does 194 = .ok (.iload_n 3, 1) := by decide +kernel
theorem dL_does_195 : decode cL_does 195 = .ok (.invokevirtual 133, 3) := by decide +kernel
theorem dL_does_198 : decode cL_does 198 = .ok (.aload_n 0, 1) := by decide +kernel
theorem dL_does_199 : decode cL_does 199 = .ok (.bipush 13, 2) := by decide +kernel
theorem dL_does_201 : decode cL_does 201 = .ok (.iload_n 3, 1) := by decide +kernel
theorem dL_does_202 : decode cL_does 202 = .ok (.iconst 0, 1) := by decide +kernel
theorem dL_does_203 : decode cL_does 203 = .ok (.iconst 0, 1) := by decide +kernel
theorem dL_does_204 : decode cL_does 204 = .ok (.invokestatic 121, 3) := by decide +kernel
theorem dL_does_207 : decode cL_does 207 = .ok (.aload_n 1, 1) := by decide +kernel
theorem dL_does_208 : decode cL_does 208 = .ok (.iload_n 3, 1) := by decide +kernel
theorem dL_does_209 : decode cL_does 209 = .ok (.invokevirtual 141, 3) := by decide +kernel
theorem dL_does_212 : decode cL_does 212 = .ok (.if_icmp .ne 7, 3) := by decide +kernel
theorem dL_does_215 : decode cL_does 215 = .ok (.iconst 1, 1) := by decide +kernel
theorem dL_does_216 : decode cL_does 216 = .ok (.goto 4, 3) := by decide +kernel
theorem dL_does_219 : decode cL_does 219 = .ok (.iconst 0, 1) := by decide +kernel
theorem dL_does_220 : decode cL_does 220 = .ok (.ireturn, 1) := by decide +kernel
theorem dL_does_221 : decode cL_does 221 = .ok (.aload_n 1, 1) := by decide +kernel
theorem dL_does_222 : decode cL_does 222 = .ok (.getfield 106, 3) := by decide +kernel
theorem dL_does_225 : decode cL_does 225 = .ok (.iconst 1, 1) := by decide +kernel
theorem dL_does_226 : decode cL_does 226 = .ok (.isub, 1) := by decide +kernel
theorem dL_does_227 : decode cL_does 227 = .ok (.iload_n 3, 1) := by decide +kernel
theorem dL_does_228 : decode cL_does 228 = .ok (.aload_n 2, 1) := by decide +kernel
theorem dL_does_229 : decode cL_does 229 = .ok (.iconst 4, 1) := by decide +kernel
theorem dL_does_230 : decode cL_does 230 = .ok (.invokevirtual 112, 3) := by decide +kernel
theorem dL_does_233 : decode cL_does 233 = .ok (.iadd, 1) := by decide +kernel
theorem dL_does_234 : decode cL_does 234 = .ok (.invokestatic 125, 3) := by decide +kernel
theorem dL_does_237 : decode cL_does 237 = .ok (.istore 5, 2) := by decide +kernel
theorem dL_does_239 : decode cL_does 239 = .ok (.iconst 0, 1) := by decide +kernel
theorem dL_does_240 : decode cL_does 240 = .ok (.istore 6, 2) := by decide +kernel
theorem dL_does_242 : decode cL_does 242 = .ok (.iload_n 3, 1) := by decide +kernel
theorem dL_does_243 : decode cL_does 243 = .ok (.istore 7, 2) := by decide +kernel
theorem dL_does_245 : decode cL_does 245 = .ok (.iload 7, 2) := by decide +kernel
theorem dL_does_247 : decode cL_does 247 = .ok (.iload 5, 2) := by decide +kernel
theorem dL_does_249 : decode cL_does 249 = .ok (.if_icmp .gt 31, 3) := by decide +kernel
theorem dL_does_252 : decode cL_does 252 = .ok (.aload_n 1, 1) := by decide +kernel
theorem dL_does_253 : decode cL_does 253 = .ok (.getfield 137, 3) := by decide +kernel
theorem dL_does_256 : decode cL_does 256 = .ok (.iload 7, 2) := by decide +kernel
theorem dL_does_258 : decode cL_does 258 = .ok (.baload, 1) := by decide +kernel
theorem dL_does_259 : decode cL_does 259 = .ok (.ifCond .ne 6, 3) := by decide +kernel
theorem dL_does_262 : decode cL_does 262 = .ok (.goto 12, 3) := by decide +kernel
theorem dL_does_265 : decode cL_does 265 = .ok (.aload_n 1, 1) := by decide +kernel
theorem dL_does_266 : decode cL_does 266 = .ok (.iload 7, 2) := by decide +kernel
theorem dL_does_268 : decode cL_does 268 = .ok (.invokevirtual 144, 3) := by decide +kernel
theorem dL_does_271 : decode cL_does 271 = .ok (.iinc 6 1, 3) := by decide +kernel
theorem dL_does_274 : decode cL_does 274 = .ok (.iinc 7 1, 3) := by decide +kernel
theorem dL_does_277 : decode cL_does 277 = .ok (.goto (-32), 3) := by decide +kernel
theorem dL_does_280 : decode cL_does 280 = .ok (.aload_n 0, 1) := by decide +kernel
theorem dL_does_281 : decode cL_does 281 = .ok (.bipush 14, 2) := by decide +kernel
theorem dL_does_283 : decode cL_does 283 = .ok (.iload_n 3, 1) := by decide +kernel
theorem dL_does_284 : decode cL_does 284 = .ok (.iload 5, 2) := by decide +kernel
theorem dL_does_286 : decode cL_does 286 = .ok (.iconst 0, 1) := by decide +kernel
theorem dL_does_287 : decode cL_does 287 = .ok (.invokestatic 121, 3) := by decide +kernel
theorem dL_does_290 : decode cL_does 290 = .ok (.iload 6, 2) := by decide +kernel
theorem dL_does_292 : decode cL_does 292 = .ok (.if_icmp .ne 7, 3) := by decide +kernel
theorem dL_does_295 : decode cL_does 295 = .ok (.iconst 1, 1) := by decide +kernel
theorem dL_does_296 : decode cL_does 296 = .ok (.goto 4, 3) := by decide +kernel
theorem dL_does_299 : decode cL_does 299 = .ok (.iconst 0, 1) := by decide +kernel
theorem dL_does_300 : decode cL_does 300 = .ok (.ireturn, 1) := by decide +kernel
theorem dL_does_301 : decode cL_does 301 = .ok (.aload_n 2, 1) := by decide +kernel
theorem dL_does_302 : decode cL_does 302 = .ok (.aload_n 1, 1) := by decide +kernel
theorem dL_does_303 : decode cL_does 303 = .ok (.getfield 147, 3) := by decide +kernel
theorem dL_does_306 : decode cL_does 306 = .ok (.invokevirtual 112, 3) := by decide +kernel
theorem dL_does_309 : decode cL_does 309 = .ok (.istore 5, 2) := by decide +kernel
theorem dL_does_311 : decode cL_does 311 = .ok (.aload_n 1, 1) := by decide +kernel
theorem dL_does_312 : decode cL_does 312 = .ok (.getfield 150, 3) := by decide +kernel
theorem dL_does_315 : decode cL_does 315 = .ok (.iload 5, 2) := by decide +kernel
theorem dL_does_317 : decode cL_does 317 = .ok (.aload_n 2, 1) := by decide +kernel
theorem dL_does_318 : decode cL_does 318 = .ok (.bipush 25, 2) := by decide +kernel
theorem dL_does_320 : decode cL_does 320 = .ok (.invokevirtual 112, 3) := by decide +kernel
theorem dL_does_323 : decode cL_does 323 = .ok (.iastore, 1) := by decide +kernel
theorem dL_does_324 : decode cL_does 324 = .ok (.aload_n 1, 1) := by decide +kernel
theorem dL_does_325 : decode cL_does 325 = .ok (.getfield 154, 3) := by decide +kernel
theorem dL_does_328 : decode cL_does 328 = .ok (.iload 5, 2) := by decide +kernel
theorem dL_does_330 : decode cL_does 330 = .ok (.aload_n 2, 1) := by decide +kernel
theorem dL_does_331 : decode cL_does 331 = .ok (.bipush 25, 2) := by decide +kernel
theorem dL_does_333 : decode cL_does 333 = .ok (.invokevirtual 112, 3) := by decide +kernel
theorem dL_does_336 : decode cL_does 336 = .ok (.iastore, 1) := by decide +kernel
theorem dL_does_337 : decode cL_does 337 = .ok (.aload_n 0, 1) := by decide +kernel
theorem dL_does_338 : decode cL_does 338 = .ok (.bipush 16, 2) := by decide +kernel
theorem dL_does_340 : decode cL_does 340 = .ok (.iload 5, 2) := by decide +kernel
theorem dL_does_342 : decode cL_does 342 = .ok (.aload_n 1, 1) := by decide +kernel
theorem dL_does_343 : decode cL_does 343 = .ok (.getfield 150, 3) := by decide +kernel
theorem dL_does_346 : decode cL_does 346 = .ok (.iload 5, 2) := by decide +kernel
theorem dL_does_348 : decode cL_does 348 = .ok (.iaload, 1) := by decide +kernel
theorem dL_does_349 : decode cL_does 349 = .ok (.aload_n 1, 1) := by decide +kernel
theorem dL_does_350 : decode cL_does 350 = .ok (.getfield 154, 3) := by decide +kernel
theorem dL_does_353 : decode cL_does 353 = .ok (.iload 5, 2) := by decide +kernel
theorem dL_does_355 : decode cL_does 355 = .ok (.iaload, 1) := by decide +kernel
theorem dL_does_356 : decode cL_does 356 = .ok (.invokestatic 121, 3) := by decide +kernel
theorem dL_does_359 : decode cL_does 359 = .ok (.aload_n 1, 1) := by decide +kernel
theorem dL_does_360 : decode cL_does 360 = .ok (.iload 5, 2) := by decide +kernel
theorem dL_does_362 : decode cL_does 362 = .ok (.invokevirtual 157, 3) := by decide +kernel
theorem dL_does_365 : decode cL_does 365 = .ok (.ifCond .ge 7, 3) := by decide +kernel
theorem dL_does_368 : decode cL_does 368 = .ok (.iconst 0, 1) := by decide +kernel
theorem dL_does_369 : decode cL_does 369 = .ok (.goto 16, 3) := by decide +kernel
theorem dL_does_372 : decode cL_does 372 = .ok (.aload_n 1, 1) := by decide +kernel
theorem dL_does_373 : decode cL_does 373 = .ok (.iload 5, 2) := by decide +kernel
theorem dL_does_375 : decode cL_does 375 = .ok (.invokevirtual 160, 3) := by decide +kernel
theorem dL_does_378 : decode cL_does 378 = .ok (.aload_n 1, 1) := by decide +kernel
theorem dL_does_379 : decode cL_does 379 = .ok (.iload 5, 2) := by decide +kernel
theorem dL_does_381 : decode cL_does 381 = .ok (.invokevirtual 163, 3) := by decide +kernel
theorem dL_does_384 : decode cL_does 384 = .ok (.isub, 1) := by decide +kernel
theorem dL_does_385 : decode cL_does 385 = .ok (.if_icmp .ne 7, 3) := by decide +kernel
theorem dL_does_388 : decode cL_does 388 = .ok (.iconst 1, 1) := by decide +kernel
theorem dL_does_389 : decode cL_does 389 = .ok (.goto 4, 3) := by decide +kernel
theorem dL_does_392 : decode cL_does 392 = .ok (.iconst 0, 1) := by decide +kernel
theorem dL_does_393 : decode cL_does 393 = .ok (.ireturn, 1) := by decide +kernel
theorem dL_does_394 : decode cL_does 394 = .ok (.aload_n 1, 1) := by decide +kernel
theorem dL_does_395 : decode cL_does 395 = .ok (.getfield 166, 3) := by decide +kernel
theorem dL_does_398 : decode cL_does 398 = .ok (.arraylength, 1) := by decide +kernel
theorem dL_does_399 : decode cL_does 399 = .ok (.istore 5, 2) := by decide +kernel
theorem dL_does_401 : decode cL_does 401 = .ok (.iload 5, 2) := by decide +kernel
theorem dL_does_403 : decode cL_does 403 = .ok (.ifCond .ne 23, 3) := by decide +kernel
theorem dL_does_406 : decode cL_does 406 = .ok (.aload_n 0, 1) := by decide +kernel
theorem dL_does_407 : decode cL_does 407 = .ok (.bipush 15, 2) := by decide +kernel
theorem dL_does_409 : decode cL_does 409 = .ok (.iconst 0, 1) := by decide +kernel
theorem dL_does_410 : decode cL_does 410 = .ok (.iconst 0, 1) := by decide +kernel
theorem dL_does_411 : decode cL_does 411 = .ok (.iconst (-1), 1) := by decide +kernel
theorem dL_does_412 : decode cL_does 412 = .ok (.invokestatic 121, 3) := by decide +kernel
theorem dL_does_415 : decode cL_does 415 = .ok (.ldc 77, 2) := by decide +kernel
theorem dL_does_417 : decode cL_does 417 = .ok (.if_icmp .ne 7, 3) := by decide +kernel
theorem dL_does_420 : decode cL_does 420 = .ok (.iconst 1, 1) := by decide +kernel
theorem dL_does_421 : decode cL_does 421 = .ok (.goto 4, 3) := by decide +kernel
theorem dL_does_424 : decode cL_does 424 = .ok (.iconst 0, 1) := by decide +kernel
theorem dL_does_425 : decode cL_does 425 = .ok (.ireturn, 1) := by decide +kernel
theorem dL_does_426 : decode cL_does 426 = .ok (.aload_n 2, 1) := by decide +kernel
theorem dL_does_427 : decode cL_does 427 = .ok (.iload 5, 2) := by decide +kernel
theorem dL_does_429 : decode cL_does 429 = .ok (.invokevirtual 112, 3) := by decide +kernel
theorem dL_does_432 : decode cL_does 432 = .ok (.istore 6, 2) := by decide +kernel
theorem dL_does_434 : decode cL_does 434 = .ok (.iload 5, 2) := by decide +kernel
theorem dL_does_436 : decode cL_does 436 = .ok (.iconst 1, 1) := by decide +kernel
theorem dL_does_437 : decode cL_does 437 = .ok (.isub, 1) := by decide +kernel
theorem dL_does_438 : decode cL_does 438 = .ok (.iload 6, 2) := by decide +kernel
theorem dL_does_440 : decode cL_does 440 = .ok (.aload_n 2, 1) := by decide +kernel
theorem dL_does_441 : decode cL_does 441 = .ok (.iconst 2, 1) := by decide +kernel
theorem dL_does_442 : decode cL_does 442 = .ok (.invokevirtual 112, 3) := by decide +kernel
theorem dL_does_445 : decode cL_does 445 = .ok (.iadd, 1) := by decide +kernel
theorem dL_does_446 : decode cL_does 446 = .ok (.invokestatic 125, 3) := by decide +kernel
theorem dL_does_449 : decode cL_does 449 = .ok (.istore 7, 2) := by decide +kernel
theorem dL_does_451 : decode cL_does 451 = .ok (.aload_n 2, 1) := by decide +kernel
theorem dL_does_452 : decode cL_does 452 = .ok (.iload 5, 2) := by decide +kernel
theorem dL_does_454 : decode cL_does 454 = .ok (.iconst 1, 1) := by decide +kernel
theorem dL_does_455 : decode cL_does 455 = .ok (.iadd, 1) := by decide +kernel
theorem dL_does_456 : decode cL_does 456 = .ok (.invokevirtual 112, 3) := by decide +kernel
theorem dL_does_459 : decode cL_does 459 = .ok (.iconst 1, 1) := by decide +kernel
theorem dL_does_460 : decode cL_does 460 = .ok (.isub, 1) := by decide +kernel
theorem dL_does_461 : decode cL_does 461 = .ok (.istore 8, 2) := by decide +kernel
theorem dL_does_463 : decode cL_does 463 = .ok (.iload 8, 2) := by decide +kernel
theorem dL_does_465 : decode cL_does 465 = .ok (.iload 6, 2) := by decide +kernel
theorem dL_does_467 : decode cL_does 467 = .ok (.if_icmp .lt 33, 3) := by decide +kernel
theorem dL_does_470 : decode cL_does 470 = .ok (.iload 8, 2) := by decide +kernel
theorem dL_does_472 : decode cL_does 472 = .ok (.iload 7, 2) := by decide +kernel
theorem dL_does_474 : decode cL_does 474 = .ok (.if_icmp .gt 26, 3) := by decide +kernel
theorem dL_does_477 : decode cL_does 477 = .ok (.aload_n 0, 1) := by decide +kernel
theorem dL_does_478 : decode cL_does 478 = .ok (.bipush 15, 2) := by decide +kernel
theorem dL_does_480 : decode cL_does 480 = .ok (.iload 6, 2) := by decide +kernel
theorem dL_does_482 : decode cL_does 482 = .ok (.iload 7, 2) := by decide +kernel
theorem dL_does_484 : decode cL_does 484 = .ok (.iload 8, 2) := by decide +kernel
theorem dL_does_486 : decode cL_does 486 = .ok (.invokestatic 121, 3) := by decide +kernel
theorem dL_does_489 : decode cL_does 489 = .ok (.ldc 80, 2) := by decide +kernel
theorem dL_does_491 : decode cL_does 491 = .ok (.if_icmp .ne 7, 3) := by decide +kernel
theorem dL_does_494 : decode cL_does 494 = .ok (.iconst 1, 1) := by decide +kernel
theorem dL_does_495 : decode cL_does 495 = .ok (.goto 4, 3) := by decide +kernel
theorem dL_does_498 : decode cL_does 498 = .ok (.iconst 0, 1) := by decide +kernel
theorem dL_does_499 : decode cL_does 499 = .ok (.ireturn, 1) := by decide +kernel
theorem dL_does_500 : decode cL_does 500 = .ok (.aload_n 1, 1) := by decide +kernel
theorem dL_does_501 : decode cL_does 501 = .ok (.iload 6, 2) := by decide +kernel
theorem dL_does_503 : decode cL_does 503 = .ok (.iload 7, 2) := by decide +kernel
theorem dL_does_505 : decode cL_does 505 = .ok (.iload 8, 2) := by decide +kernel
theorem dL_does_507 : decode cL_does 507 = .ok (.invokevirtual 169, 3) := by decide +kernel
theorem dL_does_510 : decode cL_does 510 = .ok (.istore 9, 2) := by decide +kernel
theorem dL_does_512 : decode cL_does 512 = .ok (.aload_n 0, 1) := by decide +kernel
theorem dL_does_513 : decode cL_does 513 = .ok (.bipush 15, 2) := by decide +kernel
theorem dL_does_515 : decode cL_does 515 = .ok (.iload 6, 2) := by decide +kernel
theorem dL_does_517 : decode cL_does 517 = .ok (.iload 7, 2) := by decide +kernel
theorem dL_does_519 : decode cL_does 519 = .ok (.iload 8, 2) := by decide +kernel
theorem dL_does_521 : decode cL_does 521 = .ok (.invokestatic 121, 3) := by decide +kernel
theorem dL_does_524 : decode cL_does 524 = .ok (.iload 9, 2) := by decide +kernel
theorem dL_does_526 : decode cL_does 526 = .ok (.if_icmp .ne 7, 3) := by decide +kernel
theorem dL_does_529 : decode cL_does 529 = .ok (.iconst 1, 1) := by decide +kernel
theorem dL_does_530 : decode cL_does 530 = .ok (.goto 4, 3) := by decide +kernel
theorem dL_does_533 : decode cL_does 533 = .ok (.iconst 0, 1) := by decide +kernel
theorem dL_does_534 : decode cL_does 534 = .ok (.ireturn, 1) := by decide +kernel
theorem ct_L_does : Cond.static yL_does ∈ TW := TW_of 1309 (by decide +kernel) (by decide +kernel)
theorem su_J4 : Cond.superclass RJ4 RJ5 ∈ TW := TW_of 434 (by decide +kernel) (by decide +kernel)
theorem oi_i : Cond.instanceMethod objectInit ∈ TW := TW_of 52 (by decide +kernel) (by decide +kernel)
theorem oi_c : Cond.code objectInit ⟨#[0xb1]⟩ 1 none ∈ TW := TW_of 53 (by decide +kernel) (by decide +kernel)
theorem ac_int : Cond.arrayClass (newarray.typeOf .int) ∈ TW := TW_of 184 (by decide +kernel) (by decide +kernel)
theorem ac_boolean : Cond.arrayClass (newarray.typeOf .boolean) ∈ TW := TW_of 185 (by decide +kernel) (by decide +kernel)
theorem ac_byte : Cond.arrayClass (newarray.typeOf .byte) ∈ TW := TW_of 84 (by decide +kernel) (by decide +kernel)
theorem in_J4 : Cond.instantiable RJ4 4 ∈ TW := TW_of 405 (by decide +kernel) (by decide +kernel)
theorem iz_J4 : Cond.initialized RJ4 ∈ TW := TW_of 27 (by decide +kernel) (by decide +kernel)
def nf_J4 : List Value := [.null, .int 0, .int 0, .int 0]
theorem df_J4 : ∀ j, j < 4 → defaultValue (tyJ4 j) = vp_V nf_J4 j := by decide +kernel
theorem ne_J4 {Z : ZT} {a : Nat → Nat} : celP Z a 2 0 (dfl 2) = .inr (11, nf_J4) := rfl
theorem in_J0 : Cond.instantiable RJ0 4 ∈ TW := TW_of 584 (by decide +kernel) (by decide +kernel)
theorem iz_J0 : Cond.initialized RJ0 ∈ TW := TW_of 28 (by decide +kernel) (by decide +kernel)
def nf_J0 : List Value := [.null, .int 0, .int 0, .int 0]
theorem df_J0 : ∀ j, j < 4 → defaultValue (tyJ0 j) = vp_V nf_J0 j := by decide +kernel
theorem ne_J0 {Z : ZT} {a : Nat → Nat} : celP Z a 3 0 (dfl 3) = .inr (12, nf_J0) := rfl
theorem mc_X12_13 : Cond.constant RX12 13 (1103515245) ∈ TW := TW_of 403 (by decide +kernel) (by decide +kernel)
theorem ml_J8_194 : Cond.methodLink RJ8 194 Lib.Math.max.name ∈ TW := TW_of 457 (by decide +kernel) (by decide +kernel)
theorem mc_J8_200 : Cond.constant RJ8 200 (2147483639) ∈ TW := TW_of 460 (by decide +kernel) (by decide +kernel)
theorem cw_J5_114 : CWd RJ5 114 yJ8_newLength_cabcc cJ8_newLength_cabcc 4 (some .int) 3 := ⟨TW_of 454 (by decide +kernel) (by decide +kernel), TW_of 456 (by decide +kernel) (by decide +kernel), TW_of 30 (by decide +kernel) (by decide +kernel), by decide +kernel⟩
theorem mc_J5_39 : Cond.constant RJ5 39 (2147483647) ∈ TW := TW_of 464 (by decide +kernel) (by decide +kernel)
theorem ml_J7_310 : Cond.methodLink RJ7 310 ⟨"[B", "clone", "()Ljava/lang/Object;"⟩ ∈ TW := TW_of 468 (by decide +kernel) (by decide +kernel)
theorem cl_J7_311 : Cond.classLink RJ7 311 "[B" ∈ TW := TW_of 474 (by decide +kernel) (by decide +kernel)
theorem ml_J7_304 : Cond.methodLink RJ7 304 Lib.Math.min.name ∈ TW := TW_of 475 (by decide +kernel) (by decide +kernel)
theorem ml_J7_150 : Cond.methodLink RJ7 150 arraycopyName ∈ TW := TW_of 478 (by decide +kernel) (by decide +kernel)
theorem cw_J5_104 : CWd RJ5 104 yJ5_newCapacity_0f7a4 cJ5_newCapacity_0f7a4 6 (some .int) 1 := ⟨TW_of 450 (by decide +kernel) (by decide +kernel), TW_of 453 (by decide +kernel) (by decide +kernel), TW_of 26 (by decide +kernel) (by decide +kernel), by decide +kernel⟩
theorem cw_J5_108 : CWd RJ5 108 yJ7_copyOf_9075b cJ7_copyOf_9075b 3 (some (.array .byte)) 2 := ⟨TW_of 465 (by decide +kernel) (by decide +kernel), TW_of 467 (by decide +kernel) (by decide +kernel), TW_of 32 (by decide +kernel) (by decide +kernel), by decide +kernel⟩
theorem mst_J5_18 : Cond.fieldLink RJ5 18 "java/lang/String" "COMPACT_STRINGS" "Z" ∈ TW := TW_of 413 (by decide +kernel) (by decide +kernel)
theorem cw_J5_40 : CWd RJ5 40 yscoder cscoder 1 (some .byte) 0 := ⟨TW_of 529 (by decide +kernel) (by decide +kernel), TW_of 519 (by decide +kernel) (by decide +kernel), TW_of 28 (by decide +kernel) (by decide +kernel), by decide +kernel⟩
theorem cw_J5_397 : CWd RJ5 397 yJ5_inflateIfNeededFor_a7421 cJ5_inflateIfNeededFor_a7421 2 none 1 := ⟨TW_of 525 (by decide +kernel) (by decide +kernel), TW_of 528 (by decide +kernel) (by decide +kernel), TW_of 26 (by decide +kernel) (by decide +kernel), by decide +kernel⟩
theorem cw_J5_399 : CWd RJ5 399 ysgetBytes csgetBytes 4 none 3 := ⟨TW_of 549 (by decide +kernel) (by decide +kernel), TW_of 552 (by decide +kernel) (by decide +kernel), TW_of 28 (by decide +kernel) (by decide +kernel), by decide +kernel⟩
theorem cw_J5_100 : CWd RJ5 100 yJ5_ensureCapacityInternal_d00df cJ5_ensureCapacityInternal_d00df 3 none 1 := ⟨TW_of 446 (by decide +kernel) (by decide +kernel), TW_of 449 (by decide +kernel) (by decide +kernel), TW_of 26 (by decide +kernel) (by decide +kernel), by decide +kernel⟩
theorem cw_J5_208 : CWd RJ5 208 yJ5_putStringAt_47b60 cJ5_putStringAt_47b60 3 none 2 := ⟨TW_of 521 (by decide +kernel) (by decide +kernel), TW_of 524 (by decide +kernel) (by decide +kernel), TW_of 26 (by decide +kernel) (by decide +kernel), by decide +kernel⟩
theorem cw_J4_29 : CWd RJ4 29 yJ5_append_cf1ce cJ5_append_cf1ce 3 (some (.object "java/lang/AbstractStringBuilder")) 1 := ⟨TW_of 439 (by decide +kernel) (by decide +kernel), TW_of 441 (by decide +kernel) (by decide +kernel), TW_of 26 (by decide +kernel) (by decide +kernel), by decide +kernel⟩
theorem mst_J6_83 : Cond.fieldLink RJ6 83 "java/lang/Integer" "DigitOnes" "[B" ∈ TW := TW_of 671 (by decide +kernel) (by decide +kernel)
theorem mst_J6_87 : Cond.fieldLink RJ6 87 "java/lang/Integer" "DigitTens" "[B" ∈ TW := TW_of 673 (by decide +kernel) (by decide +kernel)
theorem cw_J5_245 : CWd RJ5 245 yJ6_stringSize_0f7a4 cJ6_stringSize_0f7a4 4 (some .int) 1 := ⟨TW_of 665 (by decide +kernel) (by decide +kernel), TW_of 667 (by decide +kernel) (by decide +kernel), TW_of 41 (by decide +kernel) (by decide +kernel), by decide +kernel⟩
theorem cw_J5_83 : CWd RJ5 83 yJ5_isLatin1_aae02 cJ5_isLatin1_aae02 1 (some .boolean) 0 := ⟨TW_of 481 (by decide +kernel) (by decide +kernel), TW_of 485 (by decide +kernel) (by decide +kernel), TW_of 26 (by decide +kernel) (by decide +kernel), by decide +kernel⟩
theorem cw_J5_248 : CWd RJ5 248 yJ6_getChars_ba4f3 cJ6_getChars_ba4f3 7 (some .int) 3 := ⟨TW_of 668 (by decide +kernel) (by decide +kernel), TW_of 670 (by decide +kernel) (by decide +kernel), TW_of 41 (by decide +kernel) (by decide +kernel), by decide +kernel⟩
theorem cw_J4_53 : CWd RJ4 53 yJ5_append_c97b9 cJ5_append_c97b9 4 (some (.object "java/lang/AbstractStringBuilder")) 1 := ⟨TW_of 662 (by decide +kernel) (by decide +kernel), TW_of 664 (by decide +kernel) (by decide +kernel), TW_of 26 (by decide +kernel) (by decide +kernel), by decide +kernel⟩
theorem cw_J5_191 : CWd RJ5 191 yJ1_canEncode_fc78d cJ1_canEncode_fc78d 1 (some .boolean) 1 := ⟨TW_of 563 (by decide +kernel) (by decide +kernel), TW_of 565 (by decide +kernel) (by decide +kernel), TW_of 35 (by decide +kernel) (by decide +kernel), by decide +kernel⟩
theorem cw_J4_50 : CWd RJ4 50 yJ5_append_3fe6f cJ5_append_3fe6f 2 (some (.object "java/lang/AbstractStringBuilder")) 1 := ⟨TW_of 560 (by decide +kernel) (by decide +kernel), TW_of 562 (by decide +kernel) (by decide +kernel), TW_of 26 (by decide +kernel) (by decide +kernel), by decide +kernel⟩
theorem ml_J5_3 : Cond.methodLink RJ5 3 objectInit ∈ TW := TW_of 412 (by decide +kernel) (by decide +kernel)
theorem cw_J4_1 : CWd RJ4 1 yJ5_init_d00df cJ5_init_d00df 2 none 1 := ⟨TW_of 409 (by decide +kernel) (by decide +kernel), TW_of 411 (by decide +kernel) (by decide +kernel), TW_of 26 (by decide +kernel) (by decide +kernel), by decide +kernel⟩
theorem cw_J4_343 : CWd RJ4 343 yJ5_length_8abf5 cJ5_length_8abf5 1 (some .int) 0 := ⟨TW_of 603 (by decide +kernel) (by decide +kernel), TW_of 604 (by decide +kernel) (by decide +kernel), TW_of 26 (by decide +kernel) (by decide +kernel), by decide +kernel⟩
theorem cw_J7_343 : CWd RJ7 343 yJ7_checkLength_df160 cJ7_checkLength_df160 2 none 2 := ⟨TW_of 612 (by decide +kernel) (by decide +kernel), TW_of 614 (by decide +kernel) (by decide +kernel), TW_of 32 (by decide +kernel) (by decide +kernel), by decide +kernel⟩
theorem cw_J7_339 : CWd RJ7 339 yJ7_copyOfRangeByte_39247 cJ7_copyOfRangeByte_39247 5 (some (.array .byte)) 3 := ⟨TW_of 609 (by decide +kernel) (by decide +kernel), TW_of 611 (by decide +kernel) (by decide +kernel), TW_of 32 (by decide +kernel) (by decide +kernel), by decide +kernel⟩
theorem ml_J0_1 : Cond.methodLink RJ0 1 objectInit ∈ TW := TW_of 591 (by decide +kernel) (by decide +kernel)
theorem cw_J0_552 : CWd RJ0 552 yJ5_getValue_6d5f1 cJ5_getValue_6d5f1 1 (some (.array .byte)) 0 := ⟨TW_of 592 (by decide +kernel) (by decide +kernel), TW_of 596 (by decide +kernel) (by decide +kernel), TW_of 26 (by decide +kernel) (by decide +kernel), by decide +kernel⟩
theorem cwX_J0_549 : CWX RJ0 549 yJ5_length_8abf5 yJ4_length_8abf5 cJ5_length_8abf5 cJ4_length_8abf5 1 1 (some .int) (some .int) 0 RJ4 := ⟨TW_of 597 (by decide +kernel) (by decide +kernel), TW_of 602 (by decide +kernel) (by decide +kernel), TW_of 27 (by decide +kernel) (by decide +kernel), sm_J5_length_8abf5, ci_J5_length_8abf5, TW_of 604 (by decide +kernel) (by decide +kernel), ci_J4_length_8abf5, TW_of 600 (by decide +kernel) (by decide +kernel), by decide +kernel⟩
theorem cw_J0_1047 : CWd RJ0 1047 yJ5_isLatin1_aae02 cJ5_isLatin1_aae02 1 (some .boolean) 0 := ⟨TW_of 605 (by decide +kernel) (by decide +kernel), TW_of 485 (by decide +kernel) (by decide +kernel), TW_of 26 (by decide +kernel) (by decide +kernel), by decide +kernel⟩
theorem cw_J0_54 : CWd RJ0 54 yJ7_copyOfRange_39247 cJ7_copyOfRange_39247 3 (some (.array .byte)) 3 := ⟨TW_of 606 (by decide +kernel) (by decide +kernel), TW_of 608 (by decide +kernel) (by decide +kernel), TW_of 32 (by decide +kernel) (by decide +kernel), by decide +kernel⟩
theorem mst_J0_38 : Cond.fieldLink RJ0 38 "java/lang/String" "COMPACT_STRINGS" "Z" ∈ TW := TW_of 520 (by decide +kernel) (by decide +kernel)
theorem cw_J0_489 : CWd RJ0 489 yJ0_init_db425 cJ0_init_db425 5 none 2 := ⟨TW_of 588 (by decide +kernel) (by decide +kernel), TW_of 590 (by decide +kernel) (by decide +kernel), TW_of 28 (by decide +kernel) (by decide +kernel), by decide +kernel⟩
theorem cl_J4_18 : Cond.classLink RJ4 18 "java/lang/String" ∈ TW := TW_of 583 (by decide +kernel) (by decide +kernel)
theorem cw_J4_137 : CWd RJ4 137 yJ0_init_81219 cJ0_init_81219 2 none 1 := ⟨TW_of 585 (by decide +kernel) (by decide +kernel), TW_of 587 (by decide +kernel) (by decide +kernel), TW_of 28 (by decide +kernel) (by decide +kernel), by decide +kernel⟩
theorem ml_X11_80 : Cond.methodLink RX11 80 Lib.Math.max.name ∈ TW := TW_of 735 (by decide +kernel) (by decide +kernel)
theorem ml_X11_124 : Cond.methodLink RX11 124 Lib.Math.min.name ∈ TW := TW_of 755 (by decide +kernel) (by decide +kernel)
theorem ml_X11_1 : Cond.methodLink RX11 1 objectInit ∈ TW := TW_of 395 (by decide +kernel) (by decide +kernel)
theorem cl_X11_7 : Cond.classLink RX11 7 "[I" ∈ TW := TW_of 396 (by decide +kernel) (by decide +kernel)
theorem cw_X11_49 : CWd RX11 49 yX12_next cX12_next 2 (some .int) 1 := ⟨TW_of 399 (by decide +kernel) (by decide +kernel), TW_of 402 (by decide +kernel) (by decide +kernel), TW_of 15 (by decide +kernel) (by decide +kernel), by decide +kernel⟩
theorem cl_X11_62 : Cond.classLink RX11 62 "java/lang/StringBuilder" ∈ TW := TW_of 404 (by decide +kernel) (by decide +kernel)
theorem cw_X11_64 : CWd RX11 64 yJ4_init_da8c8 cJ4_init_da8c8 1 none 0 := ⟨TW_of 406 (by decide +kernel) (by decide +kernel), TW_of 408 (by decide +kernel) (by decide +kernel), TW_of 27 (by decide +kernel) (by decide +kernel), by decide +kernel⟩
theorem cw_X11_65 : CWd RX11 65 yJ4_append_15ec4 cJ4_append_15ec4 2 (some (.object "java/lang/StringBuilder")) 1 := ⟨TW_of 435 (by decide +kernel) (by decide +kernel), TW_of 438 (by decide +kernel) (by decide +kernel), TW_of 27 (by decide +kernel) (by decide +kernel), by decide +kernel⟩
theorem cw_X11_71 : CWd RX11 71 yJ4_append_cf468 cJ4_append_cf468 2 (some (.object "java/lang/StringBuilder")) 1 := ⟨TW_of 556 (by decide +kernel) (by decide +kernel), TW_of 559 (by decide +kernel) (by decide +kernel), TW_of 27 (by decide +kernel) (by decide +kernel), by decide +kernel⟩
theorem cw_X11_76 : CWd RX11 76 yJ4_toString_0e30d cJ4_toString_0e30d 1 (some (.object "java/lang/String")) 0 := ⟨TW_of 579 (by decide +kernel) (by decide +kernel), TW_of 582 (by decide +kernel) (by decide +kernel), TW_of 27 (by decide +kernel) (by decide +kernel), by decide +kernel⟩
theorem cw_X11_86 : CWd RX11 86 yX11_putWord cX11_putWord 3 none 1 := ⟨TW_of 736 (by decide +kernel) (by decide +kernel), TW_of 739 (by decide +kernel) (by decide +kernel), TW_of 25 (by decide +kernel) (by decide +kernel), by decide +kernel⟩
theorem cw_X11_94 : CWd RX11 94 yX11_wordOf cX11_wordOf 4 (some (.array .int)) 2 := ⟨TW_of 742 (by decide +kernel) (by decide +kernel), TW_of 745 (by decide +kernel) (by decide +kernel), TW_of 25 (by decide +kernel) (by decide +kernel), by decide +kernel⟩
theorem cw_X11_100 : CWd RX11 100 yJ4_append_bf812 cJ4_append_bf812 2 (some (.object "java/lang/StringBuilder")) 1 := ⟨TW_of 747 (by decide +kernel) (by decide +kernel), TW_of 661 (by decide +kernel) (by decide +kernel), TW_of 27 (by decide +kernel) (by decide +kernel), by decide +kernel⟩
theorem cw_X11_118 : CWd RX11 118 yX11_layBlocks cX11_layBlocks 6 none 0 := ⟨TW_of 751 (by decide +kernel) (by decide +kernel), TW_of 754 (by decide +kernel) (by decide +kernel), TW_of 25 (by decide +kernel) (by decide +kernel), by decide +kernel⟩
theorem cw_X11_127 : CWd RX11 127 yX11_to cX11_to 2 (some .int) 1 := ⟨TW_of 1322 (by decide +kernel) (by decide +kernel), TW_of 1325 (by decide +kernel) (by decide +kernel), TW_of 25 (by decide +kernel) (by decide +kernel), by decide +kernel⟩
theorem cw_X11_130 : CWd RX11 130 yX11_from cX11_from 2 (some .int) 1 := ⟨TW_of 1326 (by decide +kernel) (by decide +kernel), TW_of 1329 (by decide +kernel) (by decide +kernel), TW_of 25 (by decide +kernel) (by decide +kernel), by decide +kernel⟩
theorem cw_X11_133 : CWd RX11 133 yX11_shotOf cX11_shotOf 3 (some .int) 1 := ⟨TW_of 1334 (by decide +kernel) (by decide +kernel), TW_of 1337 (by decide +kernel) (by decide +kernel), TW_of 25 (by decide +kernel) (by decide +kernel), by decide +kernel⟩
theorem ml_X11_136 : Cond.methodLink RX11 136 arraycopyName ∈ TW := TW_of 1316 (by decide +kernel) (by decide +kernel)
theorem cw_X11_142 : CWd RX11 142 yX11_putShot cX11_putShot 5 none 2 := ⟨TW_of 1346 (by decide +kernel) (by decide +kernel), TW_of 1349 (by decide +kernel) (by decide +kernel), TW_of 25 (by decide +kernel) (by decide +kernel), by decide +kernel⟩
theorem cw_L_89 : CWd RL 89 yL_four cL_four 4 (some .int) 2 := ⟨TW_of 1292 (by decide +kernel) (by decide +kernel), TW_of 1294 (by decide +kernel) (by decide +kernel), TW_of 14 (by decide +kernel) (by decide +kernel), by decide +kernel⟩
theorem cw_L_95 : CWd RL 95 yX10_append cX10_append 6 (some .int) 5 := ⟨TW_of 1296 (by decide +kernel) (by decide +kernel), TW_of 1299 (by decide +kernel) (by decide +kernel), TW_of 16 (by decide +kernel) (by decide +kernel), by decide +kernel⟩
theorem cw_L_99 : CWd RL 99 yX10_truncate cX10_truncate 2 (some .boolean) 1 := ⟨TW_of 1304 (by decide +kernel) (by decide +kernel), TW_of 1307 (by decide +kernel) (by decide +kernel), TW_of 16 (by decide +kernel) (by decide +kernel), by decide +kernel⟩
theorem cw_L_197 : CWd RL 197 yX10_shots cX10_shots 1 (some .int) 0 := ⟨TW_of 1360 (by decide +kernel) (by decide +kernel), TW_of 1363 (by decide +kernel) (by decide +kernel), TW_of 16 (by decide +kernel) (by decide +kernel), by decide +kernel⟩
theorem cw_L_200 : CWd RL 200 yX10_filmLength cX10_filmLength 1 (some .int) 0 := ⟨TW_of 1364 (by decide +kernel) (by decide +kernel), TW_of 1367 (by decide +kernel) (by decide +kernel), TW_of 16 (by decide +kernel) (by decide +kernel), by decide +kernel⟩
theorem cw_L_130 : CWd RL 130 yX11_filmLength cX11_filmLength 6 (some .int) 0 := ⟨TW_of 1318 (by decide +kernel) (by decide +kernel), TW_of 1321 (by decide +kernel) (by decide +kernel), TW_of 25 (by decide +kernel) (by decide +kernel), by decide +kernel⟩
theorem cw_L_201 : CWd RL 201 yX10_count cX10_count 3 (some .int) 1 := ⟨TW_of 1368 (by decide +kernel) (by decide +kernel), TW_of 1371 (by decide +kernel) (by decide +kernel), TW_of 16 (by decide +kernel) (by decide +kernel), by decide +kernel⟩
theorem cwL_L_121 : (Cond.methodLink RL 121 yL_asks ∈ TW ∧ Cond.initialized yL_asks.cls ∈ TW) ∧ (yL_asks.cls ≠ "java/lang/invoke/MethodHandle" ∧ yL_asks.cls ≠ "java/lang/invoke/VarHandle" ∧ (parseMethodDescriptor yL_asks.desc).map (fun d => d.parameters.length) = some 5) := ⟨⟨TW_of 830 (by decide +kernel) (by decide +kernel), TW_of 14 (by decide +kernel) (by decide +kernel)⟩, by decide +kernel⟩
theorem cw_L_163 : CWd RL 163 yX11_from cX11_from 2 (some .int) 1 := ⟨TW_of 1352 (by decide +kernel) (by decide +kernel), TW_of 1329 (by decide +kernel) (by decide +kernel), TW_of 25 (by decide +kernel) (by decide +kernel), by decide +kernel⟩
theorem cw_L_160 : CWd RL 160 yX11_to cX11_to 2 (some .int) 1 := ⟨TW_of 1351 (by decide +kernel) (by decide +kernel), TW_of 1325 (by decide +kernel) (by decide +kernel), TW_of 25 (by decide +kernel) (by decide +kernel), by decide +kernel⟩
theorem cw_L_157 : CWd RL 157 yX11_shotOf cX11_shotOf 3 (some .int) 1 := ⟨TW_of 1350 (by decide +kernel) (by decide +kernel), TW_of 1337 (by decide +kernel) (by decide +kernel), TW_of 25 (by decide +kernel) (by decide +kernel), by decide +kernel⟩
theorem mc_L_77 : Cond.constant RL 77 (-2000000050) ∈ TW := TW_of 1285 (by decide +kernel) (by decide +kernel)
theorem cw_L_141 : CWd RL 141 yX11_state cX11_state 2 (some .int) 1 := ⟨TW_of 1338 (by decide +kernel) (by decide +kernel), TW_of 1341 (by decide +kernel) (by decide +kernel), TW_of 25 (by decide +kernel) (by decide +kernel), by decide +kernel⟩
theorem cw_L_117 : CWd RL 117 yX11_transcript cX11_transcript 8 (some (.array .int)) 0 := ⟨TW_of 1312 (by decide +kernel) (by decide +kernel), TW_of 1315 (by decide +kernel) (by decide +kernel), TW_of 25 (by decide +kernel) (by decide +kernel), by decide +kernel⟩
theorem cw_L_218 : CWd RL 218 yX10_transcriptSize cX10_transcriptSize 1 (some .int) 0 := ⟨TW_of 1375 (by decide +kernel) (by decide +kernel), TW_of 1378 (by decide +kernel) (by decide +kernel), TW_of 16 (by decide +kernel) (by decide +kernel), by decide +kernel⟩
theorem cw_L_221 : CWd RL 221 yX10_transcriptWord cX10_transcriptWord 2 (some .int) 1 := ⟨TW_of 1379 (by decide +kernel) (by decide +kernel), TW_of 1382 (by decide +kernel) (by decide +kernel), TW_of 16 (by decide +kernel) (by decide +kernel), by decide +kernel⟩
theorem cw_L_112 : CWd RL 112 yX12_next cX12_next 2 (some .int) 1 := ⟨TW_of 1311 (by decide +kernel) (by decide +kernel), TW_of 402 (by decide +kernel) (by decide +kernel), TW_of 15 (by decide +kernel) (by decide +kernel), by decide +kernel⟩
theorem mc_L_80 : Cond.constant RL 80 (-2000000053) ∈ TW := TW_of 1286 (by decide +kernel) (by decide +kernel)
theorem ml_L_125 : Cond.methodLink RL 125 Lib.Math.min.name ∈ TW := TW_of 1317 (by decide +kernel) (by decide +kernel)
theorem cw_L_133 : CWd RL 133 yX11_cutOne cX11_cutOne 6 none 1 := ⟨TW_of 1330 (by decide +kernel) (by decide +kernel), TW_of 1333 (by decide +kernel) (by decide +kernel), TW_of 25 (by decide +kernel) (by decide +kernel), by decide +kernel⟩
theorem mc_L_83 : Cond.constant RL 83 (-2000000054) ∈ TW := TW_of 1287 (by decide +kernel) (by decide +kernel)
theorem cw_L_144 : CWd RL 144 yX11_restoreOne cX11_restoreOne 8 none 1 := ⟨TW_of 1342 (by decide +kernel) (by decide +kernel), TW_of 1345 (by decide +kernel) (by decide +kernel), TW_of 25 (by decide +kernel) (by decide +kernel), by decide +kernel⟩
theorem cw_L_169 : CWd RL 169 yX11_move cX11_move 9 (some .int) 3 := ⟨TW_of 1353 (by decide +kernel) (by decide +kernel), TW_of 1356 (by decide +kernel) (by decide +kernel), TW_of 25 (by decide +kernel) (by decide +kernel), by decide +kernel⟩
