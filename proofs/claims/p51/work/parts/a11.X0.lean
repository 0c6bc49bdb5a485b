abbrev cX0_copyFrom : ByteArray := prog_2_method_2_code
def yX0_copyFrom : MethodName := ⟨RX0, "copyFrom", "(LTranscriptCutter$Edit;)V"⟩
theorem dX0_copyFrom_0 : decode cX0_copyFrom 0 = .ok (.aload_n 0, 1) := by decide +kernel
theorem dX0_copyFrom_1 : decode cX0_copyFrom 1 = .ok (.aload_n 1, 1) := by decide +kernel
theorem dX0_copyFrom_2 : decode cX0_copyFrom 2 = .ok (.getfield 25, 3) := by decide +kernel
theorem dX0_copyFrom_5 : decode cX0_copyFrom 5 = .ok (.putfield 25, 3) := by decide +kernel
theorem dX0_copyFrom_8 : decode cX0_copyFrom 8 = .ok (.iconst 0, 1) := by decide +kernel
theorem dX0_copyFrom_9 : decode cX0_copyFrom 9 = .ok (.istore_n 2, 1) := by decide +kernel
theorem dX0_copyFrom_10 : decode cX0_copyFrom 10 = .ok (.iload_n 2, 1) := by decide +kernel
theorem dX0_copyFrom_11 : decode cX0_copyFrom 11 = .ok (.bipush 40, 2) := by decide +kernel
theorem dX0_copyFrom_13 : decode cX0_copyFrom 13 = .ok (.if_icmp .ge 57, 3) := by decide +kernel
theorem dX0_copyFrom_16 : decode cX0_copyFrom 16 = .ok (.aload_n 0, 1) := by decide +kernel
theorem dX0_copyFrom_17 : decode cX0_copyFrom 17 = .ok (.getfield 9, 3) := by decide +kernel
theorem dX0_copyFrom_20 : decode cX0_copyFrom 20 = .ok (.iload_n 2, 1) := by decide +kernel
theorem dX0_copyFrom_21 : decode cX0_copyFrom 21 = .ok (.aload_n 1, 1) := by decide +kernel
theorem dX0_copyFrom_22 : decode cX0_copyFrom 22 = .ok (.getfield 9, 3) := by decide +kernel
theorem dX0_copyFrom_25 : decode cX0_copyFrom 25 = .ok (.iload_n 2, 1) := by decide +kernel
theorem dX0_copyFrom_26 : decode cX0_copyFrom 26 = .ok (.baload, 1) := by decide +kernel
theorem dX0_copyFrom_27 : decode cX0_copyFrom 27 = .ok (.bastore, 1) := by decide +kernel
theorem dX0_copyFrom_28 : decode cX0_copyFrom 28 = .ok (.aload_n 0, 1) := by decide +kernel
theorem dX0_copyFrom_29 : decode cX0_copyFrom 29 = .ok (.getfield 15, 3) := by decide +kernel
theorem dX0_copyFrom_32 : decode cX0_copyFrom 32 = .ok (.iload_n 2, 1) := by decide +kernel
theorem dX0_copyFrom_33 : decode cX0_copyFrom 33 = .ok (.aload_n 1, 1) := by decide +kernel
theorem dX0_copyFrom_34 : decode cX0_copyFrom 34 = .ok (.getfield 15, 3) := by decide +kernel
theorem dX0_copyFrom_37 : decode cX0_copyFrom 37 = .ok (.iload_n 2, 1) := by decide +kernel
theorem dX0_copyFrom_38 : decode cX0_copyFrom 38 = .ok (.iaload, 1) := by decide +kernel
theorem dX0_copyFrom_39 : decode cX0_copyFrom 39 = .ok (.iastore, 1) := by decide +kernel
theorem dX0_copyFrom_40 : decode cX0_copyFrom 40 = .ok (.aload_n 0, 1) := by decide +kernel
theorem dX0_copyFrom_41 : decode cX0_copyFrom 41 = .ok (.getfield 19, 3) := by decide +kernel
theorem dX0_copyFrom_44 : decode cX0_copyFrom 44 = .ok (.iload_n 2, 1) := by decide +kernel
theorem dX0_copyFrom_45 : decode cX0_copyFrom 45 = .ok (.aload_n 1, 1) := by decide +kernel
theorem dX0_copyFrom_46 : decode cX0_copyFrom 46 = .ok (.getfield 19, 3) := by decide +kernel
theorem dX0_copyFrom_49 : decode cX0_copyFrom 49 = .ok (.iload_n 2, 1) := by decide +kernel
theorem dX0_copyFrom_50 : decode cX0_copyFrom 50 = .ok (.iaload, 1) := by decide +kernel
theorem dX0_copyFrom_51 : decode cX0_copyFrom 51 = .ok (.iastore, 1) := by decide +kernel
theorem dX0_copyFrom_52 : decode cX0_copyFrom 52 = .ok (.aload_n 0, 1) := by decide +kernel
theorem dX0_copyFrom_53 : decode cX0_copyFrom 53 = .ok (.getfield 22, 3) := by decide +kernel
theorem dX0_copyFrom_56 : decode cX0_copyFrom 56 = .ok (.iload_n 2, 1) := by decide +kernel
theorem dX0_copyFrom_57 : decode cX0_copyFrom 57 = .ok (.aload_n 1, 1) := by decide +kernel
theorem dX0_copyFrom_58 : decode cX0_copyFrom 58 = .ok (.getfield 22, 3) := by decide +kernel
theorem dX0_copyFrom_61 : decode cX0_copyFrom 61 = .ok (.iload_n 2, 1) := by decide +kernel
theorem dX0_copyFrom_62 : decode cX0_copyFrom 62 = .ok (.iaload, 1) := by decide +kernel
theorem dX0_copyFrom_63 : decode cX0_copyFrom 63 = .ok (.iastore, 1) := by decide +kernel
theorem dX0_copyFrom_64 : decode cX0_copyFrom 64 = .ok (.iinc 2 1, 3) := by decide +kernel
theorem dX0_copyFrom_67 : decode cX0_copyFrom 67 = .ok (.goto (-57), 3) := by decide +kernel
theorem dX0_copyFrom_70 : decode cX0_copyFrom 70 = .ok (.return_, 1) := by decide +kernel
theorem ci_X0_copyFrom : Cond.instanceMethod yX0_copyFrom ∈ TW := TW_of 1155 (by decide +kernel) (by decide +kernel)
theorem cs_X0_copyFrom : Cond.selects yX0_copyFrom.cls yX0_copyFrom yX0_copyFrom ∈ TW := TW_of 1156 (by decide +kernel) (by decide +kernel)
abbrev cX0_keepEverything : ByteArray := prog_2_method_3_code
def yX0_keepEverything : MethodName := ⟨RX0, "keepEverything", "(I)V"⟩
theorem dX0_keepEverything_0 : decode cX0_keepEverything 0 = .ok (.aload_n 0, 1) := by decide +kernel
theorem dX0_keepEverything_1 : decode cX0_keepEverything 1 = .ok (.iload_n 1, 1) := by decide +kernel
theorem dX0_keepEverything_2 : decode cX0_keepEverything 2 = .ok (.putfield 25, 3) := by decide +kernel
theorem dX0_keepEverything_5 : decode cX0_keepEverything 5 = .ok (.iconst 0, 1) := by decide +kernel
theorem dX0_keepEverything_6 : decode cX0_keepEverything 6 = .ok (.istore_n 2, 1) := by decide +kernel
theorem dX0_keepEverything_7 : decode cX0_keepEverything 7 = .ok (.iload_n 2, 1) := by decide +kernel
theorem dX0_keepEverything_8 : decode cX0_keepEverything 8 = .ok (.bipush 40, 2) := by decide +kernel
theorem dX0_keepEverything_10 : decode cX0_keepEverything 10 = .ok (.if_icmp .ge 37, 3) := by decide +kernel
theorem dX0_keepEverything_13 : decode cX0_keepEverything 13 = .ok (.aload_n 0, 1) := by decide +kernel
theorem dX0_keepEverything_14 : decode cX0_keepEverything 14 = .ok (.getfield 9, 3) := by decide +kernel
theorem dX0_keepEverything_17 : decode cX0_keepEverything 17 = .ok (.iload_n 2, 1) := by decide +kernel
theorem dX0_keepEverything_18 : decode cX0_keepEverything 18 = .ok (.iconst 1, 1) := by decide +kernel
theorem dX0_keepEverything_19 : decode cX0_keepEverything 19 = .ok (.bastore, 1) := by decide +kernel
theorem dX0_keepEverything_20 : decode cX0_keepEverything 20 = .ok (.aload_n 0, 1) := by decide +kernel
theorem dX0_keepEverything_21 : decode cX0_keepEverything 21 = .ok (.getfield 15, 3) := by decide +kernel
theorem dX0_keepEverything_24 : decode cX0_keepEverything 24 = .ok (.iload_n 2, 1) := by decide +kernel
theorem dX0_keepEverything_25 : decode cX0_keepEverything 25 = .ok (.iload_n 2, 1) := by decide +kernel
theorem dX0_keepEverything_26 : decode cX0_keepEverything 26 = .ok (.iastore, 1) := by decide +kernel
theorem dX0_keepEverything_27 : decode cX0_keepEverything 27 = .ok (.aload_n 0, 1) := by decide +kernel
theorem dX0_keepEverything_28 : decode cX0_keepEverything 28 = .ok (.getfield 19, 3) := by decide +kernel
theorem dX0_keepEverything_31 : decode cX0_keepEverything 31 = .ok (.iload_n 2, 1) := by decide +kernel
theorem dX0_keepEverything_32 : decode cX0_keepEverything 32 = .ok (.iconst 0, 1) := by decide +kernel
theorem dX0_keepEverything_33 : decode cX0_keepEverything 33 = .ok (.iastore, 1) := by decide +kernel
theorem dX0_keepEverything_34 : decode cX0_keepEverything 34 = .ok (.aload_n 0, 1) := by decide +kernel
theorem dX0_keepEverything_35 : decode cX0_keepEverything 35 = .ok (.getfield 22, 3) := by decide +kernel
theorem dX0_keepEverything_38 : decode cX0_keepEverything 38 = .ok (.iload_n 2, 1) := by decide +kernel
theorem dX0_keepEverything_39 : decode cX0_keepEverything 39 = .ok (.iconst 0, 1) := by decide +kernel
theorem dX0_keepEverything_40 : decode cX0_keepEverything 40 = .ok (.iastore, 1) := by decide +kernel
theorem dX0_keepEverything_41 : decode cX0_keepEverything 41 = .ok (.iinc 2 1, 3) := by decide +kernel
theorem dX0_keepEverything_44 : decode cX0_keepEverything 44 = .ok (.goto (-37), 3) := by decide +kernel
theorem dX0_keepEverything_47 : decode cX0_keepEverything 47 = .ok (.return_, 1) := by decide +kernel
theorem ci_X0_keepEverything : Cond.instanceMethod yX0_keepEverything ∈ TW := TW_of 973 (by decide +kernel) (by decide +kernel)
theorem cs_X0_keepEverything : Cond.selects yX0_keepEverything.cls yX0_keepEverything yX0_keepEverything ∈ TW := TW_of 974 (by decide +kernel) (by decide +kernel)
abbrev cX0_holdsBlock : ByteArray := prog_2_method_4_code
def yX0_holdsBlock : MethodName := ⟨RX0, "holdsBlock", "(I)Z"⟩
theorem dX0_holdsBlock_0 : decode cX0_holdsBlock 0 = .ok (.iconst 0, 1) := by decide +kernel
theorem dX0_holdsBlock_1 : decode cX0_holdsBlock 1 = .ok (.istore_n 2, 1) := by decide +kernel
theorem dX0_holdsBlock_2 : decode cX0_holdsBlock 2 = .ok (.iload_n 2, 1) := by decide +kernel
theorem dX0_holdsBlock_3 : decode cX0_holdsBlock 3 = .ok (.aload_n 0, 1) := by decide +kernel
theorem dX0_holdsBlock_4 : decode cX0_holdsBlock 4 = .ok (.getfield 25, 3) := by decide +kernel
theorem dX0_holdsBlock_7 : decode cX0_holdsBlock 7 = .ok (.if_icmp .ge 21, 3) := by decide +kernel
theorem dX0_holdsBlock_10 : decode cX0_holdsBlock 10 = .ok (.aload_n 0, 1) := by decide +kernel
theorem dX0_holdsBlock_11 : decode cX0_holdsBlock 11 = .ok (.getfield 15, 3) := by decide +kernel
theorem dX0_holdsBlock_14 : decode cX0_holdsBlock 14 = .ok (.iload_n 2, 1) := by decide +kernel
theorem dX0_holdsBlock_15 : decode cX0_holdsBlock 15 = .ok (.iaload, 1) := by decide +kernel
theorem dX0_holdsBlock_16 : decode cX0_holdsBlock 16 = .ok (.iload_n 1, 1) := by decide +kernel
theorem dX0_holdsBlock_17 : decode cX0_holdsBlock 17 = .ok (.if_icmp .ne 5, 3) := by decide +kernel
theorem dX0_holdsBlock_20 : decode cX0_holdsBlock 20 = .ok (.iconst 1, 1) := by decide +kernel
theorem dX0_holdsBlock_21 : decode cX0_holdsBlock 21 = .ok (.ireturn, 1) := by decide +kernel
theorem dX0_holdsBlock_22 : decode cX0_holdsBlock 22 = .ok (.iinc 2 1, 3) := by decide +kernel
theorem dX0_holdsBlock_25 : decode cX0_holdsBlock 25 = .ok (.goto (-23), 3) := by decide +kernel
theorem dX0_holdsBlock_28 : decode cX0_holdsBlock 28 = .ok (.iconst 0, 1) := by decide +kernel
theorem dX0_holdsBlock_29 : decode cX0_holdsBlock 29 = .ok (.ireturn, 1) := by decide +kernel
theorem ci_X0_holdsBlock : Cond.instanceMethod yX0_holdsBlock ∈ TW := TW_of 1193 (by decide +kernel) (by decide +kernel)
theorem cs_X0_holdsBlock : Cond.selects yX0_holdsBlock.cls yX0_holdsBlock yX0_holdsBlock ∈ TW := TW_of 1194 (by decide +kernel) (by decide +kernel)
abbrev cX0_shotBehindLowerBlocks : ByteArray := prog_2_method_6_code
def yX0_shotBehindLowerBlocks : MethodName := ⟨RX0, "shotBehindLowerBlocks", "(I)I"⟩
theorem dX0_shotBehindLowerBlocks_0 : decode cX0_shotBehindLowerBlocks 0 = .ok (.iconst (-1), 1) := by decide +kernel
theorem dX0_shotBehindLowerBlocks_1 : decode cX0_shotBehindLowerBlocks 1 = .ok (.istore_n 2, 1) := by decide +kernel
theorem dX0_shotBehindLowerBlocks_2 : decode cX0_shotBehindLowerBlocks 2 = .ok (.iconst 0, 1) := by decide +kernel
theorem dX0_shotBehindLowerBlocks_3 : decode cX0_shotBehindLowerBlocks 3 = .ok (.istore_n 3, 1) := by decide +kernel
theorem dX0_shotBehindLowerBlocks_4 : decode cX0_shotBehindLowerBlocks 4 = .ok (.iconst 0, 1) := by decide +kernel
theorem dX0_shotBehindLowerBlocks_5 : decode cX0_shotBehindLowerBlocks 5 = .ok (.istore 4, 2) := by decide +kernel
theorem dX0_shotBehindLowerBlocks_7 : decode cX0_shotBehindLowerBlocks 7 = .ok (.iload 4, 2) := by decide +kernel
theorem dX0_shotBehindLowerBlocks_9 : decode cX0_shotBehindLowerBlocks 9 = .ok (.aload_n 0, 1) := by decide +kernel
theorem dX0_shotBehindLowerBlocks_10 : decode cX0_shotBehindLowerBlocks 10 = .ok (.getfield 25, 3) := by decide +kernel
theorem dX0_shotBehindLowerBlocks_13 : decode cX0_shotBehindLowerBlocks 13 = .ok (.if_icmp .ge 44, 3) := by decide +kernel
theorem dX0_shotBehindLowerBlocks_16 : decode cX0_shotBehindLowerBlocks 16 = .ok (.aload_n 0, 1) := by decide +kernel
theorem dX0_shotBehindLowerBlocks_17 : decode cX0_shotBehindLowerBlocks 17 = .ok (.getfield 15, 3) := by decide +kernel
theorem dX0_shotBehindLowerBlocks_20 : decode cX0_shotBehindLowerBlocks 20 = .ok (.iload 4, 2) := by decide +kernel
theorem dX0_shotBehindLowerBlocks_22 : decode cX0_shotBehindLowerBlocks 22 = .ok (.iaload, 1) := by decide +kernel
theorem dX0_shotBehindLowerBlocks_23 : decode cX0_shotBehindLowerBlocks 23 = .ok (.iload_n 1, 1) := by decide +kernel
theorem dX0_shotBehindLowerBlocks_24 : decode cX0_shotBehindLowerBlocks 24 = .ok (.if_icmp .ge 27, 3) := by decide +kernel
theorem dX0_shotBehindLowerBlocks_27 : decode cX0_shotBehindLowerBlocks 27 = .ok (.aload_n 0, 1) := by decide +kernel
theorem dX0_shotBehindLowerBlocks_28 : decode cX0_shotBehindLowerBlocks 28 = .ok (.getfield 15, 3) := by decide +kernel
theorem dX0_shotBehindLowerBlocks_31 : decode cX0_shotBehindLowerBlocks 31 = .ok (.iload 4, 2) := by decide +kernel
theorem dX0_shotBehindLowerBlocks_33 : decode cX0_shotBehindLowerBlocks 33 = .ok (.iaload, 1) := by decide +kernel
theorem dX0_shotBehindLowerBlocks_34 : decode cX0_shotBehindLowerBlocks 34 = .ok (.iload_n 2, 1) := by decide +kernel
theorem dX0_shotBehindLowerBlocks_35 : decode cX0_shotBehindLowerBlocks 35 = .ok (.if_icmp .le 16, 3) := by decide +kernel
theorem dX0_shotBehindLowerBlocks_38 : decode cX0_shotBehindLowerBlocks 38 = .ok (.aload_n 0, 1) := by decide +kernel
theorem dX0_shotBehindLowerBlocks_39 : decode cX0_shotBehindLowerBlocks 39 = .ok (.getfield 15, 3) := by decide +kernel
theorem dX0_shotBehindLowerBlocks_42 : decode cX0_shotBehindLowerBlocks 42 = .ok (.iload 4, 2) := by decide +kernel
theorem dX0_shotBehindLowerBlocks_44 : decode cX0_shotBehindLowerBlocks 44 = .ok (.iaload, 1) := by decide +kernel
theorem dX0_shotBehindLowerBlocks_45 : decode cX0_shotBehindLowerBlocks 45 = .ok (.istore_n 2, 1) := by decide +kernel
theorem dX0_shotBehindLowerBlocks_46 : decode cX0_shotBehindLowerBlocks 46 = .ok (.iload 4, 2) := by decide +kernel
theorem dX0_shotBehindLowerBlocks_48 : decode cX0_shotBehindLowerBlocks 48 = .ok (.iconst 1, 1) := by decide +kernel
theorem dX0_shotBehindLowerBlocks_49 : decode cX0_shotBehindLowerBlocks 49 = .ok (.iadd, 1) := by decide +kernel
theorem dX0_shotBehindLowerBlocks_50 : decode cX0_shotBehindLowerBlocks 50 = .ok (.istore_n 3, 1) := by decide +kernel
theorem dX0_shotBehindLowerBlocks_51 : decode cX0_shotBehindLowerBlocks 51 = .ok (.iinc 4 1, 3) := by decide +kernel
theorem dX0_shotBehindLowerBlocks_54 : decode cX0_shotBehindLowerBlocks 54 = .ok (.goto (-47), 3) := by decide +kernel
theorem dX0_shotBehindLowerBlocks_57 : decode cX0_shotBehindLowerBlocks 57 = .ok (.iload_n 3, 1) := by decide +kernel
theorem dX0_shotBehindLowerBlocks_58 : decode cX0_shotBehindLowerBlocks 58 = .ok (.ireturn, 1) := by decide +kernel
theorem ci_X0_shotBehindLowerBlocks : Cond.instanceMethod yX0_shotBehindLowerBlocks ∈ TW := TW_of 1202 (by decide +kernel) (by decide +kernel)
theorem cs_X0_shotBehindLowerBlocks : Cond.selects yX0_shotBehindLowerBlocks.cls yX0_shotBehindLowerBlocks yX0_shotBehindLowerBlocks ∈ TW := TW_of 13 (by decide +kernel) (by decide +kernel)
abbrev cX0_bringBackBlock : ByteArray := prog_2_method_5_code
def yX0_bringBackBlock : MethodName := ⟨RX0, "bringBackBlock", "(I)V"⟩
theorem dX0_bringBackBlock_0 : decode cX0_bringBackBlock 0 = .ok (.aload_n 0, 1) := by decide +kernel
theorem dX0_bringBackBlock_1 : decode cX0_bringBackBlock 1 = .ok (.getfield 25, 3) := by decide +kernel
theorem dX0_bringBackBlock_4 : decode cX0_bringBackBlock 4 = .ok (.bipush 40, 2) := by decide +kernel
theorem dX0_bringBackBlock_6 : decode cX0_bringBackBlock 6 = .ok (.if_icmp .lt 4, 3) := by decide +kernel
theorem dX0_bringBackBlock_9 : decode cX0_bringBackBlock 9 = .ok (.return_, 1) := by decide +kernel
theorem dX0_bringBackBlock_10 : decode cX0_bringBackBlock 10 = .ok (.aload_n 0, 1) := by decide +kernel
theorem dX0_bringBackBlock_11 : decode cX0_bringBackBlock 11 = .ok (.iload_n 1, 1) := by decide +kernel
theorem dX0_bringBackBlock_12 : decode cX0_bringBackBlock 12 = .ok (.invokevirtual 29, 3) := by decide +kernel
theorem dX0_bringBackBlock_15 : decode cX0_bringBackBlock 15 = .ok (.istore_n 2, 1) := by decide +kernel
theorem dX0_bringBackBlock_16 : decode cX0_bringBackBlock 16 = .ok (.aload_n 0, 1) := by decide +kernel
theorem dX0_bringBackBlock_17 : decode cX0_bringBackBlock 17 = .ok (.getfield 25, 3) := by decide +kernel
theorem dX0_bringBackBlock_20 : decode cX0_bringBackBlock 20 = .ok (.istore_n 3, 1) := by decide +kernel
theorem dX0_bringBackBlock_21 : decode cX0_bringBackBlock 21 = .ok (.iload_n 3, 1) := by decide +kernel
theorem dX0_bringBackBlock_22 : decode cX0_bringBackBlock 22 = .ok (.iload_n 2, 1) := by decide +kernel
theorem dX0_bringBackBlock_23 : decode cX0_bringBackBlock 23 = .ok (.if_icmp .le 23, 3) := by decide +kernel
theorem dX0_bringBackBlock_26 : decode cX0_bringBackBlock 26 = .ok (.aload_n 0, 1) := by decide +kernel
theorem dX0_bringBackBlock_27 : decode cX0_bringBackBlock 27 = .ok (.getfield 15, 3) := by decide +kernel
theorem dX0_bringBackBlock_30 : decode cX0_bringBackBlock 30 = .ok (.iload_n 3, 1) := by decide +kernel
theorem dX0_bringBackBlock_31 : decode cX0_bringBackBlock 31 = .ok (.aload_n 0, 1) := by decide +kernel
theorem dX0_bringBackBlock_32 : decode cX0_bringBackBlock 32 = .ok (.getfield 15, 3) := by decide +kernel
theorem dX0_bringBackBlock_35 : decode cX0_bringBackBlock 35 = .ok (.iload_n 3, 1) := by decide +kernel
theorem dX0_bringBackBlock_36 : decode cX0_bringBackBlock 36 = .ok (.iconst 1, 1) := by decide +kernel
theorem dX0_bringBackBlock_37 : decode cX0_bringBackBlock 37 = .ok (.isub, 1) := by decide +kernel
theorem dX0_bringBackBlock_38 : decode cX0_bringBackBlock 38 = .ok (.iaload, 1) := by decide +kernel
theorem dX0_bringBackBlock_39 : decode cX0_bringBackBlock 39 = .ok (.iastore, 1) := by decide +kernel
theorem dX0_bringBackBlock_40 : decode cX0_bringBackBlock 40 = .ok (.iinc 3 (-1), 3) := by decide +kernel
theorem dX0_bringBackBlock_43 : decode cX0_bringBackBlock 43 = .ok (.goto (-22), 3) := by decide +kernel
theorem dX0_bringBackBlock_46 : decode cX0_bringBackBlock 46 = .ok (.aload_n 0, 1) := by decide +kernel
theorem dX0_bringBackBlock_47 : decode cX0_bringBackBlock 47 = .ok (.getfield 15, 3) := by decide +kernel
theorem dX0_bringBackBlock_50 : decode cX0_bringBackBlock 50 = .ok (.iload_n 2, 1) := by decide +kernel
theorem dX0_bringBackBlock_51 : decode cX0_bringBackBlock 51 = .ok (.iload_n 1, 1) := by decide +kernel
theorem dX0_bringBackBlock_52 : decode cX0_bringBackBlock 52 = .ok (.iastore, 1) := by decide +kernel
theorem dX0_bringBackBlock_53 : decode cX0_bringBackBlock 53 = .ok (.aload_n 0, 1) := by decide +kernel
theorem dX0_bringBackBlock_54 : decode cX0_bringBackBlock 54 = .ok (.dup, 1) := by decide +kernel
theorem dX0_bringBackBlock_55 : decode cX0_bringBackBlock 55 = .ok (.getfield 25, 3) := by decide +kernel
theorem dX0_bringBackBlock_58 : decode cX0_bringBackBlock 58 = .ok (.iconst 1, 1) := by decide +kernel
theorem dX0_bringBackBlock_59 : decode cX0_bringBackBlock 59 = .ok (.iadd, 1) := by decide +kernel
theorem dX0_bringBackBlock_60 : decode cX0_bringBackBlock 60 = .ok (.putfield 25, 3) := by decide +kernel
theorem dX0_bringBackBlock_63 : decode cX0_bringBackBlock 63 = .ok (.aload_n 0, 1) := by decide +kernel
theorem dX0_bringBackBlock_64 : decode cX0_bringBackBlock 64 = .ok (.getfield 19, 3) := by decide +kernel
theorem dX0_bringBackBlock_67 : decode cX0_bringBackBlock 67 = .ok (.iload_n 1, 1) := by decide +kernel
theorem dX0_bringBackBlock_68 : decode cX0_bringBackBlock 68 = .ok (.iconst 0, 1) := by decide +kernel
theorem dX0_bringBackBlock_69 : decode cX0_bringBackBlock 69 = .ok (.iastore, 1) := by decide +kernel
theorem dX0_bringBackBlock_70 : decode cX0_bringBackBlock 70 = .ok (.aload_n 0, 1) := by decide +kernel
theorem dX0_bringBackBlock_71 : decode cX0_bringBackBlock 71 = .ok (.getfield 22, 3) := by decide +kernel
theorem dX0_bringBackBlock_74 : decode cX0_bringBackBlock 74 = .ok (.iload_n 1, 1) := by decide +kernel
theorem dX0_bringBackBlock_75 : decode cX0_bringBackBlock 75 = .ok (.iconst 0, 1) := by decide +kernel
theorem dX0_bringBackBlock_76 : decode cX0_bringBackBlock 76 = .ok (.iastore, 1) := by decide +kernel
theorem dX0_bringBackBlock_77 : decode cX0_bringBackBlock 77 = .ok (.return_, 1) := by decide +kernel
theorem ci_X0_bringBackBlock : Cond.instanceMethod yX0_bringBackBlock ∈ TW := TW_of 1197 (by decide +kernel) (by decide +kernel)
theorem cs_X0_bringBackBlock : Cond.selects yX0_bringBackBlock.cls yX0_bringBackBlock yX0_bringBackBlock ∈ TW := TW_of 1198 (by decide +kernel) (by decide +kernel)
theorem cw_X0_29 : CWd RX0 29 yX0_shotBehindLowerBlocks cX0_shotBehindLowerBlocks 5 (some .int) 1 := ⟨TW_of 1200 (by decide +kernel) (by decide +kernel), TW_of 1203 (by decide +kernel) (by decide +kernel), TW_of 20 (by decide +kernel) (by decide +kernel), by decide +kernel⟩
set_option maxRecDepth 20000 in
set_option maxHeartbeats 1000000 in
theorem l_X0_copyFrom_10 {l : Launch} {Z : ZT} {g : va_W} {p0 : Nat} {p1 : Nat} (hk_p0 : knd p0 = 0) (hk_p1 : knd p1 = 0) {p : Program} {e : Env} {s : State} {m : MethodId} {args : Array Value} {below : List Frame} {meth : Method} {c : Code} (C : CX p s m args meth c cX0_copyFrom RX0 3 none Z g) {out : Hp} : ∀ (n : Nat) (x2 : Int32) (h : Hp) (ls : Array Slot) (H : Heap) (locs : List Loc), XW Z h g s.heap H locs → lv_has ls 3 [(0, .ref (Z.1 p0)), (1, .ref (Z.1 p1)), (2, .int x2)] → Lp (F_X0_copyFrom_10 p0 p1) n (x2, h) = some out → W p l e (rmD 0) s m args below meth c H locs 0 0 (MQ below (va_Qv (fun (_ : Unit) => True) (fun _ => Wd Z out g) (FR Z)) args s 0 0 (FR Z)) (F0 m 10 ls []) := by
  intro n
  induction n with
  | zero => intro x2 h ls H locs hW hl hf; cases hf
  | succ n ih =>
    intro x2 h ls H locs hW hl hf
    rw [Lp_s] at hf
    refine lv_iload_n C.1 C.2.1 dX0_copyFrom_10 rfl (lv_at hl 2 rfl) ?_
    refine lv_bipush (v := 40) C.1 C.2.1 dX0_copyFrom_11 (by decide) ?_
    refine x_cmpge (tgt := 70) C hf dX0_copyFrom_13 (by decide) (fun hf => ?_) (fun hf => ?_)
    · obtain rfl := Option.some.inj hf
      exact x_vret C hW dX0_copyFrom_70 trivial
    · refine lv_aload_n C.1 C.2.1 dX0_copyFrom_16 rfl (lv_at hl 0 rfl) ?_
      refine xg_X0_9 C hW hk_p0 dX0_copyFrom_17 ?_
      refine lv_iload_n C.1 C.2.1 dX0_copyFrom_20 rfl (lv_at hl 2 rfl) ?_
      refine lv_aload_n C.1 C.2.1 dX0_copyFrom_21 rfl (lv_at hl 1 rfl) ?_
      refine xg_X0_9 C hW hk_p1 dX0_copyFrom_22 ?_
      refine lv_iload_n C.1 C.2.1 dX0_copyFrom_25 rfl (lv_at hl 2 rfl) ?_
      refine x_zaldC C hW (o_X0_0 hk_p1) hf dX0_copyFrom_26 (fun hf => ?_)
      obtain ⟨hz, hf⟩ := ck_t hf
      refine x_zastC C hW (o_X0_0 hk_p0) hz hf dX0_copyFrom_27 (fun h1 H locs hf hW => ?_)
      refine lv_aload_n C.1 C.2.1 dX0_copyFrom_28 rfl (lv_at hl 0 rfl) ?_
      refine xg_X0_15 C hW hk_p0 dX0_copyFrom_29 ?_
      refine lv_iload_n C.1 C.2.1 dX0_copyFrom_32 rfl (lv_at hl 2 rfl) ?_
      refine lv_aload_n C.1 C.2.1 dX0_copyFrom_33 rfl (lv_at hl 1 rfl) ?_
      refine xg_X0_15 C hW hk_p1 dX0_copyFrom_34 ?_
      refine lv_iload_n C.1 C.2.1 dX0_copyFrom_37 rfl (lv_at hl 2 rfl) ?_
      refine x_ialdC C hW (o_X0_2 hk_p1) hf dX0_copyFrom_38 (fun hf => ?_)
      refine x_iastC C hW (o_X0_2 hk_p0) hf dX0_copyFrom_39 (fun h2 H locs hf hW => ?_)
      refine lv_aload_n C.1 C.2.1 dX0_copyFrom_40 rfl (lv_at hl 0 rfl) ?_
      refine xg_X0_19 C hW hk_p0 dX0_copyFrom_41 ?_
      refine lv_iload_n C.1 C.2.1 dX0_copyFrom_44 rfl (lv_at hl 2 rfl) ?_
      refine lv_aload_n C.1 C.2.1 dX0_copyFrom_45 rfl (lv_at hl 1 rfl) ?_
      refine xg_X0_19 C hW hk_p1 dX0_copyFrom_46 ?_
      refine lv_iload_n C.1 C.2.1 dX0_copyFrom_49 rfl (lv_at hl 2 rfl) ?_
      refine x_ialdC C hW (o_X0_3 hk_p1) hf dX0_copyFrom_50 (fun hf => ?_)
      refine x_iastC C hW (o_X0_3 hk_p0) hf dX0_copyFrom_51 (fun h3 H locs hf hW => ?_)
      refine lv_aload_n C.1 C.2.1 dX0_copyFrom_52 rfl (lv_at hl 0 rfl) ?_
      refine xg_X0_22 C hW hk_p0 dX0_copyFrom_53 ?_
      refine lv_iload_n C.1 C.2.1 dX0_copyFrom_56 rfl (lv_at hl 2 rfl) ?_
      refine lv_aload_n C.1 C.2.1 dX0_copyFrom_57 rfl (lv_at hl 1 rfl) ?_
      refine xg_X0_22 C hW hk_p1 dX0_copyFrom_58 ?_
      refine lv_iload_n C.1 C.2.1 dX0_copyFrom_61 rfl (lv_at hl 2 rfl) ?_
      refine x_ialdC C hW (o_X0_4 hk_p1) hf dX0_copyFrom_62 (fun hf => ?_)
      refine x_iastC C hW (o_X0_4 hk_p0) hf dX0_copyFrom_63 (fun h4 H locs hf hW => ?_)
      refine x_iinc (w := 1) C hf dX0_copyFrom_64 hl (k := 2) rfl (by decide) (by decide) (fun v5 => [(2, .int v5), (0, .ref (Z.1 p0)), (1, .ref (Z.1 p1))]) (fun _ => rfl) (fun v5 ls hf hl => ?_)
      refine lv_goto (tgt := 10) C.1 C.2.1 dX0_copyFrom_67 (by decide) ?_
      exact ih v5 h4 ls _ _ hW (lv_sub hl [1, 2, 0] rfl) hf
set_option maxRecDepth 20000 in
set_option maxHeartbeats 1000000 in
theorem c_X0_copyFrom {l : Launch} {Z : ZT} {g : va_W} {h : Hp} {p0 : Nat} {p1 : Nat} (hk_p0 : knd p0 = 0) (hk_p1 : knd p1 = 0) {out : Hp} (hf : f_X0_copyFrom h p0 p1 = some out) : Met l yX0_copyFrom (wY yX0_copyFrom cX0_copyFrom 3 none) (rmD 0) (va_Pc [.ref (Z.1 p0), .ref (Z.1 p1)] (Wd Z h g)) (va_Qv (fun (_ : Unit) => True) (fun _ => Wd Z out g) (FR Z)) 0 0 (FR Z) := by
  refine metX RX0 rfl (by decide +kernel) (Nat.le_of_ble_eq_true rfl) ?_
  intro p e s m args below meth c C hW ls hl
  have hl : lv_has ls 3 [(0, .ref (Z.1 p0)), (1, .ref (Z.1 p1))] := hl
  unfold f_X0_copyFrom at hf
  refine lv_aload_n C.1 C.2.1 dX0_copyFrom_0 rfl (lv_at hl 0 rfl) ?_
  refine lv_aload_n C.1 C.2.1 dX0_copyFrom_1 rfl (lv_at hl 1 rfl) ?_
  refine xg_X0_25 C hW hk_p1 dX0_copyFrom_2 ?_
  refine xp_X0_25 C hW hk_p0 hf dX0_copyFrom_5 (fun h6 H locs hf hW => ?_)
  refine lv_iconst (v := 0) C.1 C.2.1 dX0_copyFrom_8 (by decide) ?_
  refine lv_istore_n (lv' := [(2, .int (0 : Int32)), (0, .ref (Z.1 p0)), (1, .ref (Z.1 p1))]) C.1 C.2.1 dX0_copyFrom_9 rfl hl (by decide) rfl (fun ls hl => ?_)
  exact l_X0_copyFrom_10 hk_p0 hk_p1 C FU (0 : Int32) h6 ls _ _ hW (lv_sub hl [1, 2, 0] rfl) hf
set_option maxRecDepth 20000 in
set_option maxHeartbeats 1000000 in
theorem l_X0_keepEverything_7 {l : Launch} {Z : ZT} {g : va_W} {p0 : Nat} {p1 : Int32} (hk_p0 : knd p0 = 0) {p : Program} {e : Env} {s : State} {m : MethodId} {args : Array Value} {below : List Frame} {meth : Method} {c : Code} (C : CX p s m args meth c cX0_keepEverything RX0 3 none Z g) {out : Hp} : ∀ (n : Nat) (x2 : Int32) (h : Hp) (ls : Array Slot) (H : Heap) (locs : List Loc), XW Z h g s.heap H locs → lv_has ls 3 [(0, .ref (Z.1 p0)), (1, .int p1), (2, .int x2)] → Lp (F_X0_keepEverything_7 p0 p1) n (x2, h) = some out → W p l e (rmD 0) s m args below meth c H locs 0 0 (MQ below (va_Qv (fun (_ : Unit) => True) (fun _ => Wd Z out g) (FR Z)) args s 0 0 (FR Z)) (F0 m 7 ls []) := by
  intro n
  induction n with
  | zero => intro x2 h ls H locs hW hl hf; cases hf
  | succ n ih =>
    intro x2 h ls H locs hW hl hf
    rw [Lp_s] at hf
    refine lv_iload_n C.1 C.2.1 dX0_keepEverything_7 rfl (lv_at hl 2 rfl) ?_
    refine lv_bipush (v := 40) C.1 C.2.1 dX0_keepEverything_8 (by decide) ?_
    refine x_cmpge (tgt := 47) C hf dX0_keepEverything_10 (by decide) (fun hf => ?_) (fun hf => ?_)
    · obtain rfl := Option.some.inj hf
      exact x_vret C hW dX0_keepEverything_47 trivial
    · refine lv_aload_n C.1 C.2.1 dX0_keepEverything_13 rfl (lv_at hl 0 rfl) ?_
      refine xg_X0_9 C hW hk_p0 dX0_keepEverything_14 ?_
      refine lv_iload_n C.1 C.2.1 dX0_keepEverything_17 rfl (lv_at hl 2 rfl) ?_
      refine lv_iconst (v := 1) C.1 C.2.1 dX0_keepEverything_18 (by decide) ?_
      refine x_zastC C hW (o_X0_0 hk_p0) (by decide) hf dX0_keepEverything_19 (fun h1 H locs hf hW => ?_)
      refine lv_aload_n C.1 C.2.1 dX0_keepEverything_20 rfl (lv_at hl 0 rfl) ?_
      refine xg_X0_15 C hW hk_p0 dX0_keepEverything_21 ?_
      refine lv_iload_n C.1 C.2.1 dX0_keepEverything_24 rfl (lv_at hl 2 rfl) ?_
      refine lv_iload_n C.1 C.2.1 dX0_keepEverything_25 rfl (lv_at hl 2 rfl) ?_
      refine x_iastC C hW (o_X0_2 hk_p0) hf dX0_keepEverything_26 (fun h2 H locs hf hW => ?_)
      refine lv_aload_n C.1 C.2.1 dX0_keepEverything_27 rfl (lv_at hl 0 rfl) ?_
      refine xg_X0_19 C hW hk_p0 dX0_keepEverything_28 ?_
      refine lv_iload_n C.1 C.2.1 dX0_keepEverything_31 rfl (lv_at hl 2 rfl) ?_
      refine lv_iconst (v := 0) C.1 C.2.1 dX0_keepEverything_32 (by decide) ?_
      refine x_iastC C hW (o_X0_3 hk_p0) hf dX0_keepEverything_33 (fun h3 H locs hf hW => ?_)
      refine lv_aload_n C.1 C.2.1 dX0_keepEverything_34 rfl (lv_at hl 0 rfl) ?_
      refine xg_X0_22 C hW hk_p0 dX0_keepEverything_35 ?_
      refine lv_iload_n C.1 C.2.1 dX0_keepEverything_38 rfl (lv_at hl 2 rfl) ?_
      refine lv_iconst (v := 0) C.1 C.2.1 dX0_keepEverything_39 (by decide) ?_
      refine x_iastC C hW (o_X0_4 hk_p0) hf dX0_keepEverything_40 (fun h4 H locs hf hW => ?_)
      refine x_iinc (w := 1) C hf dX0_keepEverything_41 hl (k := 2) rfl (by decide) (by decide) (fun v5 => [(2, .int v5), (0, .ref (Z.1 p0)), (1, .int p1)]) (fun _ => rfl) (fun v5 ls hf hl => ?_)
      refine lv_goto (tgt := 7) C.1 C.2.1 dX0_keepEverything_44 (by decide) ?_
      exact ih v5 h4 ls _ _ hW (lv_sub hl [1, 2, 0] rfl) hf
set_option maxRecDepth 20000 in
set_option maxHeartbeats 1000000 in
theorem c_X0_keepEverything {l : Launch} {Z : ZT} {g : va_W} {h : Hp} {p0 : Nat} {p1 : Int32} (hk_p0 : knd p0 = 0) {out : Hp} (hf : f_X0_keepEverything h p0 p1 = some out) : Met l yX0_keepEverything (wY yX0_keepEverything cX0_keepEverything 3 none) (rmD 0) (va_Pc [.ref (Z.1 p0), .int p1] (Wd Z h g)) (va_Qv (fun (_ : Unit) => True) (fun _ => Wd Z out g) (FR Z)) 0 0 (FR Z) := by
  refine metX RX0 rfl (by decide +kernel) (Nat.le_of_ble_eq_true rfl) ?_
  intro p e s m args below meth c C hW ls hl
  have hl : lv_has ls 3 [(0, .ref (Z.1 p0)), (1, .int p1)] := hl
  unfold f_X0_keepEverything at hf
  refine lv_aload_n C.1 C.2.1 dX0_keepEverything_0 rfl (lv_at hl 0 rfl) ?_
  refine lv_iload_n C.1 C.2.1 dX0_keepEverything_1 rfl (lv_at hl 1 rfl) ?_
  refine xp_X0_25 C hW hk_p0 hf dX0_keepEverything_2 (fun h6 H locs hf hW => ?_)
  refine lv_iconst (v := 0) C.1 C.2.1 dX0_keepEverything_5 (by decide) ?_
  refine lv_istore_n (lv' := [(2, .int (0 : Int32)), (0, .ref (Z.1 p0)), (1, .int p1)]) C.1 C.2.1 dX0_keepEverything_6 rfl hl (by decide) rfl (fun ls hl => ?_)
  exact l_X0_keepEverything_7 hk_p0 C FU (0 : Int32) h6 ls _ _ hW (lv_sub hl [1, 2, 0] rfl) hf
set_option maxRecDepth 20000 in
set_option maxHeartbeats 1000000 in
theorem l_X0_holdsBlock_2 {l : Launch} {Z : ZT} {g : va_W} {h : Hp} {p0 : Nat} {p1 : Int32} (hk_p0 : knd p0 = 0) {p : Program} {e : Env} {s : State} {m : MethodId} {args : Array Value} {below : List Frame} {meth : Method} {c : Code} (C : CX p s m args meth c cX0_holdsBlock RX0 3 (some .boolean) Z g) {out : Int32} : ∀ (n : Nat) (x2 : Int32) (ls : Array Slot) (H : Heap) (locs : List Loc), XW Z h g s.heap H locs → lv_has ls 3 [(0, .ref (Z.1 p0)), (1, .int p1), (2, .int x2)] → Lp (F_X0_holdsBlock_2 h p0 p1) n x2 = some out → W p l e (rmD 0) s m args below meth c H locs 0 0 (MQ below (va_Qi (fun r (_ : Unit) => r = out) (fun _ => Wd Z h g) (FR Z)) args s 0 0 (FR Z)) (F0 m 2 ls []) := by
  intro n
  induction n with
  | zero => intro x2 ls H locs hW hl hf; cases hf
  | succ n ih =>
    intro x2 ls H locs hW hl hf
    rw [Lp_s] at hf
    refine lv_iload_n C.1 C.2.1 dX0_holdsBlock_2 rfl (lv_at hl 2 rfl) ?_
    refine lv_aload_n C.1 C.2.1 dX0_holdsBlock_3 rfl (lv_at hl 0 rfl) ?_
    refine xg_X0_25 C hW hk_p0 dX0_holdsBlock_4 ?_
    refine x_cmpge (tgt := 28) C hf dX0_holdsBlock_7 (by decide) (fun hf => ?_) (fun hf => ?_)
    · refine lv_iconst (v := 0) C.1 C.2.1 dX0_holdsBlock_28 (by decide) ?_
      exact x_zret C hW (by decide) dX0_holdsBlock_29 (Option.some.inj hf)
    · refine lv_aload_n C.1 C.2.1 dX0_holdsBlock_10 rfl (lv_at hl 0 rfl) ?_
      refine xg_X0_15 C hW hk_p0 dX0_holdsBlock_11 ?_
      refine lv_iload_n C.1 C.2.1 dX0_holdsBlock_14 rfl (lv_at hl 2 rfl) ?_
      refine x_ialdC C hW (o_X0_2 hk_p0) hf dX0_holdsBlock_15 (fun hf => ?_)
      refine lv_iload_n C.1 C.2.1 dX0_holdsBlock_16 rfl (lv_at hl 1 rfl) ?_
      refine x_cmpne (tgt := 22) C hf dX0_holdsBlock_17 (by decide) (fun hf => ?_) (fun hf => ?_)
      · refine x_iinc (w := 1) C hf dX0_holdsBlock_22 hl (k := 2) rfl (by decide) (by decide) (fun v1 => [(2, .int v1), (0, .ref (Z.1 p0)), (1, .int p1)]) (fun _ => rfl) (fun v1 ls hf hl => ?_)
        refine lv_goto (tgt := 2) C.1 C.2.1 dX0_holdsBlock_25 (by decide) ?_
        exact ih v1 ls _ _ hW (lv_sub hl [1, 2, 0] rfl) hf
      · refine lv_iconst (v := 1) C.1 C.2.1 dX0_holdsBlock_20 (by decide) ?_
        exact x_zret C hW (by decide) dX0_holdsBlock_21 (Option.some.inj hf)
set_option maxRecDepth 20000 in
set_option maxHeartbeats 1000000 in
theorem c_X0_holdsBlock {l : Launch} {Z : ZT} {g : va_W} {h : Hp} {p0 : Nat} {p1 : Int32} (hk_p0 : knd p0 = 0) {out : Int32} (hf : f_X0_holdsBlock h p0 p1 = some out) : Met l yX0_holdsBlock (wY yX0_holdsBlock cX0_holdsBlock 3 (some .boolean)) (rmD 0) (va_Pc [.ref (Z.1 p0), .int p1] (Wd Z h g)) (va_Qi (fun r (_ : Unit) => r = out) (fun _ => Wd Z h g) (FR Z)) 0 0 (FR Z) := by
  refine metX RX0 rfl (by decide +kernel) (Nat.le_of_ble_eq_true rfl) ?_
  intro p e s m args below meth c C hW ls hl
  have hl : lv_has ls 3 [(0, .ref (Z.1 p0)), (1, .int p1)] := hl
  unfold f_X0_holdsBlock at hf
  refine lv_iconst (v := 0) C.1 C.2.1 dX0_holdsBlock_0 (by decide) ?_
  refine lv_istore_n (lv' := [(2, .int (0 : Int32)), (0, .ref (Z.1 p0)), (1, .int p1)]) C.1 C.2.1 dX0_holdsBlock_1 rfl hl (by decide) rfl (fun ls hl => ?_)
  exact l_X0_holdsBlock_2 hk_p0 C FU (0 : Int32) ls _ _ hW (lv_sub hl [1, 2, 0] rfl) hf
set_option maxRecDepth 20000 in
set_option maxHeartbeats 1000000 in
theorem j_X0_shotBehindLowerBlocks_51 {l : Launch} {Z : ZT} {g : va_W} {h : Hp} {p0 : Nat} {p1 : Int32} {r7 : Int32 × Int32 × Int32 → Option (Int32)} {x2 : Int32} {x3 : Int32} {x4 : Int32} (hk_p0 : knd p0 = 0) {p : Program} {e : Env} {s : State} {m : MethodId} {args : Array Value} {below : List Frame} {meth : Method} {c : Code} (C : CX p s m args meth c cX0_shotBehindLowerBlocks RX0 5 (some .int) Z g) {out : Int32} (hr7 : ∀ (x2 : Int32) (x3 : Int32) (x4 : Int32) (ls : Array Slot) (H : Heap) (locs : List Loc), XW Z h g s.heap H locs → lv_has ls 5 [(0, .ref (Z.1 p0)), (1, .int p1), (2, .int x2), (3, .int x3), (4, .int x4)] → r7 (x2, x3, x4) = some out → W p l e (rmD 0) s m args below meth c H locs 0 0 (MQ below (va_Qi (fun r (_ : Unit) => r = out) (fun _ => Wd Z h g) (FR Z)) args s 0 0 (FR Z)) (F0 m 7 ls [])) {ls : Array Slot} {H : Heap} {locs : List Loc} (hW : XW Z h g s.heap H locs) (hl : lv_has ls 5 [(0, .ref (Z.1 p0)), (1, .int p1), (2, .int x2), (3, .int x3), (4, .int x4)]) (hf : J_X0_shotBehindLowerBlocks_51 h p0 p1 r7 x2 x3 x4 = some out) : W p l e (rmD 0) s m args below meth c H locs 0 0 (MQ below (va_Qi (fun r (_ : Unit) => r = out) (fun _ => Wd Z h g) (FR Z)) args s 0 0 (FR Z)) (F0 m 51 ls []) := by
  rw [J_X0_shotBehindLowerBlocks_51] at hf
  refine x_iinc (w := 1) C hf dX0_shotBehindLowerBlocks_51 hl (k := 4) rfl (by decide) (by decide) (fun v1 => [(4, .int v1), (0, .ref (Z.1 p0)), (1, .int p1), (2, .int x2), (3, .int x3)]) (fun _ => rfl) (fun v1 ls hf hl => ?_)
  refine lv_goto (tgt := 7) C.1 C.2.1 dX0_shotBehindLowerBlocks_54 (by decide) ?_
  exact hr7 x2 x3 v1 ls _ _ hW (lv_sub hl [1, 2, 3, 4, 0] rfl) hf
set_option maxRecDepth 20000 in
set_option maxHeartbeats 1000000 in
theorem l_X0_shotBehindLowerBlocks_7 {l : Launch} {Z : ZT} {g : va_W} {h : Hp} {p0 : Nat} {p1 : Int32} (hk_p0 : knd p0 = 0) {p : Program} {e : Env} {s : State} {m : MethodId} {args : Array Value} {below : List Frame} {meth : Method} {c : Code} (C : CX p s m args meth c cX0_shotBehindLowerBlocks RX0 5 (some .int) Z g) {out : Int32} : ∀ (n : Nat) (x2 : Int32) (x3 : Int32) (x4 : Int32) (ls : Array Slot) (H : Heap) (locs : List Loc), XW Z h g s.heap H locs → lv_has ls 5 [(0, .ref (Z.1 p0)), (1, .int p1), (2, .int x2), (3, .int x3), (4, .int x4)] → Lp (F_X0_shotBehindLowerBlocks_7 h p0 p1) n (x2, x3, x4) = some out → W p l e (rmD 0) s m args below meth c H locs 0 0 (MQ below (va_Qi (fun r (_ : Unit) => r = out) (fun _ => Wd Z h g) (FR Z)) args s 0 0 (FR Z)) (F0 m 7 ls []) := by
  intro n
  induction n with
  | zero => intro x2 x3 x4 ls H locs hW hl hf; cases hf
  | succ n ih =>
    intro x2 x3 x4 ls H locs hW hl hf
    rw [Lp_s] at hf
    refine lv_iload C.1 C.2.1 dX0_shotBehindLowerBlocks_7 (lv_at hl 4 rfl) ?_
    refine lv_aload_n C.1 C.2.1 dX0_shotBehindLowerBlocks_9 rfl (lv_at hl 0 rfl) ?_
    refine xg_X0_25 C hW hk_p0 dX0_shotBehindLowerBlocks_10 ?_
    refine x_cmpge (tgt := 57) C hf dX0_shotBehindLowerBlocks_13 (by decide) (fun hf => ?_) (fun hf => ?_)
    · refine lv_iload_n C.1 C.2.1 dX0_shotBehindLowerBlocks_57 rfl (lv_at hl 3 rfl) ?_
      exact x_iret C hW dX0_shotBehindLowerBlocks_58 (Option.some.inj hf)
    · refine lv_aload_n C.1 C.2.1 dX0_shotBehindLowerBlocks_16 rfl (lv_at hl 0 rfl) ?_
      refine xg_X0_15 C hW hk_p0 dX0_shotBehindLowerBlocks_17 ?_
      refine lv_iload C.1 C.2.1 dX0_shotBehindLowerBlocks_20 (lv_at hl 4 rfl) ?_
      refine x_ialdC C hW (o_X0_2 hk_p0) hf dX0_shotBehindLowerBlocks_22 (fun hf => ?_)
      refine lv_iload_n C.1 C.2.1 dX0_shotBehindLowerBlocks_23 rfl (lv_at hl 1 rfl) ?_
      refine x_cmpge (tgt := 51) C hf dX0_shotBehindLowerBlocks_24 (by decide) (fun hf => ?_) (fun hf => ?_)
      · exact j_X0_shotBehindLowerBlocks_51 hk_p0 C (fun z0 z1 z2 => ih z0 z1 z2) hW (lv_sub hl [0, 1, 2, 3, 4] rfl) hf
      · refine lv_aload_n C.1 C.2.1 dX0_shotBehindLowerBlocks_27 rfl (lv_at hl 0 rfl) ?_
        refine xg_X0_15 C hW hk_p0 dX0_shotBehindLowerBlocks_28 ?_
        refine lv_iload C.1 C.2.1 dX0_shotBehindLowerBlocks_31 (lv_at hl 4 rfl) ?_
        refine x_ialdC C hW (o_X0_2 hk_p0) hf dX0_shotBehindLowerBlocks_33 (fun hf => ?_)
        refine lv_iload_n C.1 C.2.1 dX0_shotBehindLowerBlocks_34 rfl (lv_at hl 2 rfl) ?_
        refine x_cmple (tgt := 51) C hf dX0_shotBehindLowerBlocks_35 (by decide) (fun hf => ?_) (fun hf => ?_)
        · exact j_X0_shotBehindLowerBlocks_51 hk_p0 C (fun z0 z1 z2 => ih z0 z1 z2) hW (lv_sub hl [0, 1, 2, 3, 4] rfl) hf
        · refine lv_aload_n C.1 C.2.1 dX0_shotBehindLowerBlocks_38 rfl (lv_at hl 0 rfl) ?_
          refine xg_X0_15 C hW hk_p0 dX0_shotBehindLowerBlocks_39 ?_
          refine lv_iload C.1 C.2.1 dX0_shotBehindLowerBlocks_42 (lv_at hl 4 rfl) ?_
          refine x_ialdC C hW (o_X0_2 hk_p0) hf dX0_shotBehindLowerBlocks_44 (fun hf => ?_)
          refine x_istn C hf dX0_shotBehindLowerBlocks_45 rfl hl (by decide) (fun v2 => [(2, .int v2), (0, .ref (Z.1 p0)), (1, .int p1), (3, .int x3), (4, .int x4)]) (fun _ => rfl) (fun v2 ls hf hl => ?_)
          refine lv_iload C.1 C.2.1 dX0_shotBehindLowerBlocks_46 (lv_at hl 4 rfl) ?_
          refine lv_iconst (v := 1) C.1 C.2.1 dX0_shotBehindLowerBlocks_48 (by decide) ?_
          refine lv_iadd C.1 C.2.1 dX0_shotBehindLowerBlocks_49 ?_
          refine x_istn C hf dX0_shotBehindLowerBlocks_50 rfl hl (by decide) (fun v3 => [(3, .int v3), (2, .int v2), (0, .ref (Z.1 p0)), (1, .int p1), (4, .int x4)]) (fun _ => rfl) (fun v3 ls hf hl => ?_)
          exact j_X0_shotBehindLowerBlocks_51 hk_p0 C (fun z0 z1 z2 => ih z0 z1 z2) hW (lv_sub hl [2, 3, 1, 0, 4] rfl) hf
set_option maxRecDepth 20000 in
set_option maxHeartbeats 1000000 in
theorem c_X0_shotBehindLowerBlocks {l : Launch} {Z : ZT} {g : va_W} {h : Hp} {p0 : Nat} {p1 : Int32} (hk_p0 : knd p0 = 0) {out : Int32} (hf : f_X0_shotBehindLowerBlocks h p0 p1 = some out) : Met l yX0_shotBehindLowerBlocks (wY yX0_shotBehindLowerBlocks cX0_shotBehindLowerBlocks 5 (some .int)) (rmD 0) (va_Pc [.ref (Z.1 p0), .int p1] (Wd Z h g)) (va_Qi (fun r (_ : Unit) => r = out) (fun _ => Wd Z h g) (FR Z)) 0 0 (FR Z) := by
  refine metX RX0 rfl (by decide +kernel) (Nat.le_of_ble_eq_true rfl) ?_
  intro p e s m args below meth c C hW ls hl
  have hl : lv_has ls 5 [(0, .ref (Z.1 p0)), (1, .int p1)] := hl
  unfold f_X0_shotBehindLowerBlocks at hf
  refine lv_iconst (v := -1) C.1 C.2.1 dX0_shotBehindLowerBlocks_0 (by decide) ?_
  refine lv_istore_n (lv' := [(2, .int (-1 : Int32)), (0, .ref (Z.1 p0)), (1, .int p1)]) C.1 C.2.1 dX0_shotBehindLowerBlocks_1 rfl hl (by decide) rfl (fun ls hl => ?_)
  refine lv_iconst (v := 0) C.1 C.2.1 dX0_shotBehindLowerBlocks_2 (by decide) ?_
  refine lv_istore_n (lv' := [(3, .int (0 : Int32)), (2, .int (-1 : Int32)), (0, .ref (Z.1 p0)), (1, .int p1)]) C.1 C.2.1 dX0_shotBehindLowerBlocks_3 rfl hl (by decide) rfl (fun ls hl => ?_)
  refine lv_iconst (v := 0) C.1 C.2.1 dX0_shotBehindLowerBlocks_4 (by decide) ?_
  refine lv_istore (lv' := [(4, .int (0 : Int32)), (3, .int (0 : Int32)), (2, .int (-1 : Int32)), (0, .ref (Z.1 p0)), (1, .int p1)]) C.1 C.2.1 dX0_shotBehindLowerBlocks_5 hl (by decide) rfl (fun ls hl => ?_)
  exact l_X0_shotBehindLowerBlocks_7 hk_p0 C FU (-1 : Int32) (0 : Int32) (0 : Int32) ls _ _ hW (lv_sub hl [3, 4, 2, 1, 0] rfl) hf
set_option maxRecDepth 20000 in
set_option maxHeartbeats 1000000 in
theorem j_X0_bringBackBlock_46 {l : Launch} {Z : ZT} {g : va_W} {p0 : Nat} {p1 : Int32} {h : Hp} {x2 : Int32} (hk_p0 : knd p0 = 0) {p : Program} {e : Env} {s : State} {m : MethodId} {args : Array Value} {below : List Frame} {meth : Method} {c : Code} (C : CX p s m args meth c cX0_bringBackBlock RX0 4 none Z g) {out : Hp} {ls : Array Slot} {H : Heap} {locs : List Loc} (hW : XW Z h g s.heap H locs) (hl : lv_has ls 4 [(0, .ref (Z.1 p0)), (1, .int p1), (2, .int x2)]) (hf : J_X0_bringBackBlock_46 p0 p1 h x2 = some out) : W p l e (rmD 1) s m args below meth c H locs 0 0 (MQ below (va_Qv (fun (_ : Unit) => True) (fun _ => Wd Z out g) (FR Z)) args s 0 0 (FR Z)) (F0 m 46 ls []) := by
  refine lv_aload_n C.1 C.2.1 dX0_bringBackBlock_46 rfl (lv_at hl 0 rfl) ?_
  refine xg_X0_15 C hW hk_p0 dX0_bringBackBlock_47 ?_
  refine lv_iload_n C.1 C.2.1 dX0_bringBackBlock_50 rfl (lv_at hl 2 rfl) ?_
  refine lv_iload_n C.1 C.2.1 dX0_bringBackBlock_51 rfl (lv_at hl 1 rfl) ?_
  refine x_iastC C hW (o_X0_2 hk_p0) hf dX0_bringBackBlock_52 (fun h1 H locs hf hW => ?_)
  refine lv_aload_n C.1 C.2.1 dX0_bringBackBlock_53 rfl (lv_at hl 0 rfl) ?_
  refine lv_dup C.1 C.2.1 dX0_bringBackBlock_54 rfl ?_
  refine xg_X0_25 C hW hk_p0 dX0_bringBackBlock_55 ?_
  refine lv_iconst (v := 1) C.1 C.2.1 dX0_bringBackBlock_58 (by decide) ?_
  refine lv_iadd C.1 C.2.1 dX0_bringBackBlock_59 ?_
  refine xp_X0_25 C hW hk_p0 hf dX0_bringBackBlock_60 (fun h2 H locs hf hW => ?_)
  refine lv_aload_n C.1 C.2.1 dX0_bringBackBlock_63 rfl (lv_at hl 0 rfl) ?_
  refine xg_X0_19 C hW hk_p0 dX0_bringBackBlock_64 ?_
  refine lv_iload_n C.1 C.2.1 dX0_bringBackBlock_67 rfl (lv_at hl 1 rfl) ?_
  refine lv_iconst (v := 0) C.1 C.2.1 dX0_bringBackBlock_68 (by decide) ?_
  refine x_iastC C hW (o_X0_3 hk_p0) hf dX0_bringBackBlock_69 (fun h3 H locs hf hW => ?_)
  refine lv_aload_n C.1 C.2.1 dX0_bringBackBlock_70 rfl (lv_at hl 0 rfl) ?_
  refine xg_X0_22 C hW hk_p0 dX0_bringBackBlock_71 ?_
  refine lv_iload_n C.1 C.2.1 dX0_bringBackBlock_74 rfl (lv_at hl 1 rfl) ?_
  refine lv_iconst (v := 0) C.1 C.2.1 dX0_bringBackBlock_75 (by decide) ?_
  refine x_iastC C hW (o_X0_4 hk_p0) hf dX0_bringBackBlock_76 (fun h4 H locs hf hW => ?_)
  obtain rfl := Option.some.inj hf
  exact x_vret C hW dX0_bringBackBlock_77 trivial
set_option maxRecDepth 20000 in
set_option maxHeartbeats 1000000 in
theorem l_X0_bringBackBlock_21 {l : Launch} {Z : ZT} {g : va_W} {p0 : Nat} {p1 : Int32} {x2 : Int32} (hk_p0 : knd p0 = 0) {p : Program} {e : Env} {s : State} {m : MethodId} {args : Array Value} {below : List Frame} {meth : Method} {c : Code} (C : CX p s m args meth c cX0_bringBackBlock RX0 4 none Z g) {out : Hp} : ∀ (n : Nat) (x3 : Int32) (h : Hp) (ls : Array Slot) (H : Heap) (locs : List Loc), XW Z h g s.heap H locs → lv_has ls 4 [(0, .ref (Z.1 p0)), (1, .int p1), (2, .int x2), (3, .int x3)] → Lp (F_X0_bringBackBlock_21 p0 p1 x2) n (x3, h) = some out → W p l e (rmD 1) s m args below meth c H locs 0 0 (MQ below (va_Qv (fun (_ : Unit) => True) (fun _ => Wd Z out g) (FR Z)) args s 0 0 (FR Z)) (F0 m 21 ls []) := by
  intro n
  induction n with
  | zero => intro x3 h ls H locs hW hl hf; cases hf
  | succ n ih =>
    intro x3 h ls H locs hW hl hf
    rw [Lp_s] at hf
    refine lv_iload_n C.1 C.2.1 dX0_bringBackBlock_21 rfl (lv_at hl 3 rfl) ?_
    refine lv_iload_n C.1 C.2.1 dX0_bringBackBlock_22 rfl (lv_at hl 2 rfl) ?_
    refine x_cmple (tgt := 46) C hf dX0_bringBackBlock_23 (by decide) (fun hf => ?_) (fun hf => ?_)
    · exact j_X0_bringBackBlock_46 hk_p0 C hW (lv_sub hl [0, 1, 2] rfl) hf
    · refine lv_aload_n C.1 C.2.1 dX0_bringBackBlock_26 rfl (lv_at hl 0 rfl) ?_
      refine xg_X0_15 C hW hk_p0 dX0_bringBackBlock_27 ?_
      refine lv_iload_n C.1 C.2.1 dX0_bringBackBlock_30 rfl (lv_at hl 3 rfl) ?_
      refine lv_aload_n C.1 C.2.1 dX0_bringBackBlock_31 rfl (lv_at hl 0 rfl) ?_
      refine xg_X0_15 C hW hk_p0 dX0_bringBackBlock_32 ?_
      refine lv_iload_n C.1 C.2.1 dX0_bringBackBlock_35 rfl (lv_at hl 3 rfl) ?_
      refine lv_iconst (v := 1) C.1 C.2.1 dX0_bringBackBlock_36 (by decide) ?_
      refine lv_isub C.1 C.2.1 dX0_bringBackBlock_37 ?_
      refine x_ialdC C hW (o_X0_2 hk_p0) hf dX0_bringBackBlock_38 (fun hf => ?_)
      refine x_iastC C hW (o_X0_2 hk_p0) hf dX0_bringBackBlock_39 (fun h5 H locs hf hW => ?_)
      refine x_iinc (w := -1) C hf dX0_bringBackBlock_40 hl (k := 3) rfl (by decide) (by decide) (fun v6 => [(3, .int v6), (0, .ref (Z.1 p0)), (1, .int p1), (2, .int x2)]) (fun _ => rfl) (fun v6 ls hf hl => ?_)
      refine lv_goto (tgt := 21) C.1 C.2.1 dX0_bringBackBlock_43 (by decide) ?_
      exact ih v6 h5 ls _ _ hW (lv_sub hl [1, 2, 3, 0] rfl) hf
set_option maxRecDepth 20000 in
set_option maxHeartbeats 1000000 in
theorem c_X0_bringBackBlock {l : Launch} {Z : ZT} {g : va_W} {h : Hp} {p0 : Nat} {p1 : Int32} (hk_p0 : knd p0 = 0) {out : Hp} (hf : f_X0_bringBackBlock h p0 p1 = some out) : Met l yX0_bringBackBlock (wY yX0_bringBackBlock cX0_bringBackBlock 4 none) (rmD 1) (va_Pc [.ref (Z.1 p0), .int p1] (Wd Z h g)) (va_Qv (fun (_ : Unit) => True) (fun _ => Wd Z out g) (FR Z)) 0 0 (FR Z) := by
  refine metX RX0 rfl (by decide +kernel) (Nat.le_of_ble_eq_true rfl) ?_
  intro p e s m args below meth c C hW ls hl
  have hl : lv_has ls 4 [(0, .ref (Z.1 p0)), (1, .int p1)] := hl
  unfold f_X0_bringBackBlock at hf
  refine lv_aload_n C.1 C.2.1 dX0_bringBackBlock_0 rfl (lv_at hl 0 rfl) ?_
  refine xg_X0_25 C hW hk_p0 dX0_bringBackBlock_1 ?_
  refine lv_bipush (v := 40) C.1 C.2.1 dX0_bringBackBlock_4 (by decide) ?_
  refine x_cmplt (tgt := 10) C hf dX0_bringBackBlock_6 (by decide) (fun hf => ?_) (fun hf => ?_)
  · refine lv_aload_n C.1 C.2.1 dX0_bringBackBlock_10 rfl (lv_at hl 0 rfl) ?_
    refine lv_iload_n C.1 C.2.1 dX0_bringBackBlock_11 rfl (lv_at hl 1 rfl) ?_
    obtain ⟨u7, hcu7, hf⟩ := bnd_t hf
    refine x_calli hW (x_runV C hW hl (wk0 hk_p0) rfl rfl (c_X0_shotBehindLowerBlocks hk_p0 hcu7) (cw_X0_29) ci_X0_shotBehindLowerBlocks cs_X0_shotBehindLowerBlocks (rm_ok (by decide) (by decide)) ⟨Nat.le_refl _, Nat.le_refl _⟩ (As := [.int p1]) rfl rfl (Nat.le_of_ble_eq_true rfl) dX0_bringBackBlock_12) (fun H locs hW => ?_)
    refine lv_istore_n (lv' := [(2, .int u7), (0, .ref (Z.1 p0)), (1, .int p1)]) C.1 C.2.1 dX0_bringBackBlock_15 rfl hl (by decide) rfl (fun ls hl => ?_)
    refine lv_aload_n C.1 C.2.1 dX0_bringBackBlock_16 rfl (lv_at hl 1 rfl) ?_
    refine xg_X0_25 C hW hk_p0 dX0_bringBackBlock_17 ?_
    refine x_istn C hf dX0_bringBackBlock_20 rfl hl (by decide) (fun v8 => [(3, .int v8), (2, .int u7), (0, .ref (Z.1 p0)), (1, .int p1)]) (fun _ => rfl) (fun v8 ls hf hl => ?_)
    exact l_X0_bringBackBlock_21 hk_p0 C FU v8 h ls _ _ hW (lv_sub hl [2, 3, 1, 0] rfl) hf
  · obtain rfl := Option.some.inj hf
    exact x_vret C hW dX0_bringBackBlock_9 trivial
