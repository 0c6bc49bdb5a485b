abbrev cX10_append : ByteArray := prog_1_method_2_code
def yX10_append : MethodName := ⟨RX10, "append", "(IIIII)I"⟩
theorem dX10_append_0 : decode cX10_append 0 = .ok (.aload_n 0, 1) := by decide +kernel
theorem dX10_append_1 : decode cX10_append 1 = .ok (.getfield 10, 3) := by decide +kernel
theorem dX10_append_4 : decode cX10_append 4 = .ok (.getfield 58, 3) := by decide +kernel
theorem dX10_append_7 : decode cX10_append 7 = .ok (.bipush 20, 2) := by decide +kernel
theorem dX10_append_9 : decode cX10_append 9 = .ok (.iadd, 1) := by decide +kernel
theorem dX10_append_10 : decode cX10_append 10 = .ok (.sipush 900, 3) := by decide +kernel
theorem dX10_append_13 : decode cX10_append 13 = .ok (.if_icmp .le 5, 3) := by decide +kernel
theorem dX10_append_16 : decode cX10_append 16 = .ok (.iconst (-1), 1) := by decide +kernel
theorem dX10_append_17 : decode cX10_append 17 = .ok (.ireturn, 1) := by decide +kernel
theorem dX10_append_18 : decode cX10_append 18 = .ok (.aload_n 0, 1) := by decide +kernel
theorem dX10_append_19 : decode cX10_append 19 = .ok (.getfield 10, 3) := by decide +kernel
theorem dX10_append_22 : decode cX10_append 22 = .ok (.iload_n 1, 1) := by decide +kernel
theorem dX10_append_23 : decode cX10_append 23 = .ok (.invokevirtual 62, 3) := by decide +kernel
theorem dX10_append_26 : decode cX10_append 26 = .ok (.aload_n 0, 1) := by decide +kernel
theorem dX10_append_27 : decode cX10_append 27 = .ok (.getfield 10, 3) := by decide +kernel
theorem dX10_append_30 : decode cX10_append 30 = .ok (.iload_n 2, 1) := by decide +kernel
theorem dX10_append_31 : decode cX10_append 31 = .ok (.invokevirtual 62, 3) := by decide +kernel
theorem dX10_append_34 : decode cX10_append 34 = .ok (.aload_n 0, 1) := by decide +kernel
theorem dX10_append_35 : decode cX10_append 35 = .ok (.getfield 10, 3) := by decide +kernel
theorem dX10_append_38 : decode cX10_append 38 = .ok (.iload_n 3, 1) := by decide +kernel
theorem dX10_append_39 : decode cX10_append 39 = .ok (.invokevirtual 62, 3) := by decide +kernel
theorem dX10_append_42 : decode cX10_append 42 = .ok (.aload_n 0, 1) := by decide +kernel
theorem dX10_append_43 : decode cX10_append 43 = .ok (.getfield 10, 3) := by decide +kernel
theorem dX10_append_46 : decode cX10_append 46 = .ok (.iload 4, 2) := by decide +kernel
theorem dX10_append_48 : decode cX10_append 48 = .ok (.invokevirtual 62, 3) := by decide +kernel
theorem dX10_append_51 : decode cX10_append 51 = .ok (.aload_n 0, 1) := by decide +kernel
theorem dX10_append_52 : decode cX10_append 52 = .ok (.getfield 10, 3) := by decide +kernel
theorem dX10_append_55 : decode cX10_append 55 = .ok (.iload 5, 2) := by decide +kernel
theorem dX10_append_57 : decode cX10_append 57 = .ok (.invokevirtual 62, 3) := by decide +kernel
theorem dX10_append_60 : decode cX10_append 60 = .ok (.aload_n 0, 1) := by decide +kernel
theorem dX10_append_61 : decode cX10_append 61 = .ok (.getfield 10, 3) := by decide +kernel
theorem dX10_append_64 : decode cX10_append 64 = .ok (.getfield 58, 3) := by decide +kernel
theorem dX10_append_67 : decode cX10_append 67 = .ok (.ireturn, 1) := by decide +kernel
theorem ci_X10_append : Cond.instanceMethod yX10_append ∈ TW := TW_of 1297 (by decide +kernel) (by decide +kernel)
theorem cs_X10_append : Cond.selects yX10_append.cls yX10_append yX10_append ∈ TW := TW_of 1298 (by decide +kernel) (by decide +kernel)
abbrev cX10_truncate : ByteArray := prog_1_method_3_code
def yX10_truncate : MethodName := ⟨RX10, "truncate", "(I)Z"⟩
theorem dX10_truncate_0 : decode cX10_truncate 0 = .ok (.iload_n 1, 1) := by decide +kernel
theorem dX10_truncate_1 : decode cX10_truncate 1 = .ok (.ifCond .lt 14, 3) := by decide +kernel
theorem dX10_truncate_4 : decode cX10_truncate 4 = .ok (.iload_n 1, 1) := by decide +kernel
theorem dX10_truncate_5 : decode cX10_truncate 5 = .ok (.aload_n 0, 1) := by decide +kernel
theorem dX10_truncate_6 : decode cX10_truncate 6 = .ok (.getfield 10, 3) := by decide +kernel
theorem dX10_truncate_9 : decode cX10_truncate 9 = .ok (.getfield 58, 3) := by decide +kernel
theorem dX10_truncate_12 : decode cX10_truncate 12 = .ok (.if_icmp .le 5, 3) := by decide +kernel
theorem dX10_truncate_15 : decode cX10_truncate 15 = .ok (.iconst 0, 1) := by decide +kernel
theorem dX10_truncate_16 : decode cX10_truncate 16 = .ok (.ireturn, 1) := by decide +kernel
theorem dX10_truncate_17 : decode cX10_truncate 17 = .ok (.aload_n 0, 1) := by decide +kernel
theorem dX10_truncate_18 : decode cX10_truncate 18 = .ok (.getfield 10, 3) := by decide +kernel
theorem dX10_truncate_21 : decode cX10_truncate 21 = .ok (.iload_n 1, 1) := by decide +kernel
theorem dX10_truncate_22 : decode cX10_truncate 22 = .ok (.putfield 58, 3) := by decide +kernel
theorem dX10_truncate_25 : decode cX10_truncate 25 = .ok (.iconst 1, 1) := by decide +kernel
theorem dX10_truncate_26 : decode cX10_truncate 26 = .ok (.ireturn, 1) := by decide +kernel
theorem ci_X10_truncate : Cond.instanceMethod yX10_truncate ∈ TW := TW_of 1305 (by decide +kernel) (by decide +kernel)
theorem cs_X10_truncate : Cond.selects yX10_truncate.cls yX10_truncate yX10_truncate ∈ TW := TW_of 1306 (by decide +kernel) (by decide +kernel)
abbrev cX10_errorKind : ByteArray := prog_1_method_7_code
def yX10_errorKind : MethodName := ⟨RX10, "errorKind", "()I"⟩
theorem dX10_errorKind_0 : decode cX10_errorKind 0 = .ok (.aload_n 0, 1) := by decide +kernel
theorem dX10_errorKind_1 : decode cX10_errorKind 1 = .ok (.getfield 10, 3) := by decide +kernel
theorem dX10_errorKind_4 : decode cX10_errorKind 4 = .ok (.getfield 112, 3) := by decide +kernel
theorem dX10_errorKind_7 : decode cX10_errorKind 7 = .ok (.ireturn, 1) := by decide +kernel
theorem ci_X10_errorKind : Cond.instanceMethod yX10_errorKind ∈ TW := TW_of 387 (by decide +kernel) (by decide +kernel)
theorem cs_X10_errorKind : Cond.selects yX10_errorKind.cls yX10_errorKind yX10_errorKind ∈ TW := TW_of 388 (by decide +kernel) (by decide +kernel)
abbrev cX10_count : ByteArray := prog_1_method_8_code
def yX10_count : MethodName := ⟨RX10, "count", "(I)I"⟩
theorem dX10_count_0 : decode cX10_count 0 = .ok (.aload_n 0, 1) := by decide +kernel
theorem dX10_count_1 : decode cX10_count 1 = .ok (.getfield 19, 3) := by decide +kernel
theorem dX10_count_4 : decode cX10_count 4 = .ok (.getfield 86, 3) := by decide +kernel
theorem dX10_count_7 : decode cX10_count 7 = .ok (.astore_n 2, 1) := by decide +kernel
theorem dX10_count_8 : decode cX10_count 8 = .ok (.iload_n 1, 1) := by decide +kernel
theorem dX10_count_9 : decode cX10_count 9 = .ok (.tableswitch 69 0 5 #[39, 44, 49, 54, 59, 64], 39) := by decide +kernel
theorem dX10_count_48 : decode cX10_count 48 = .ok (.aload_n 2, 1) := by decide +kernel
theorem dX10_count_49 : decode cX10_count 49 = .ok (.getfield 115, 3) := by decide +kernel
theorem dX10_count_52 : decode cX10_count 52 = .ok (.ireturn, 1) := by decide +kernel
theorem dX10_count_53 : decode cX10_count 53 = .ok (.aload_n 2, 1) := by decide +kernel
theorem dX10_count_54 : decode cX10_count 54 = .ok (.getfield 116, 3) := by decide +kernel
theorem dX10_count_57 : decode cX10_count 57 = .ok (.ireturn, 1) := by decide +kernel
theorem dX10_count_58 : decode cX10_count 58 = .ok (.aload_n 2, 1) := by decide +kernel
theorem dX10_count_59 : decode cX10_count 59 = .ok (.getfield 89, 3) := by decide +kernel
theorem dX10_count_62 : decode cX10_count 62 = .ok (.ireturn, 1) := by decide +kernel
theorem dX10_count_63 : decode cX10_count 63 = .ok (.aload_n 2, 1) := by decide +kernel
theorem dX10_count_64 : decode cX10_count 64 = .ok (.getfield 119, 3) := by decide +kernel
theorem dX10_count_67 : decode cX10_count 67 = .ok (.ireturn, 1) := by decide +kernel
theorem dX10_count_68 : decode cX10_count 68 = .ok (.aload_n 2, 1) := by decide +kernel
theorem dX10_count_69 : decode cX10_count 69 = .ok (.getfield 122, 3) := by decide +kernel
theorem dX10_count_72 : decode cX10_count 72 = .ok (.ireturn, 1) := by decide +kernel
theorem dX10_count_73 : decode cX10_count 73 = .ok (.aload_n 2, 1) := by decide +kernel
theorem dX10_count_74 : decode cX10_count 74 = .ok (.getfield 125, 3) := by decide +kernel
theorem dX10_count_77 : decode cX10_count 77 = .ok (.ireturn, 1) := by decide +kernel
theorem dX10_count_78 : decode cX10_count 78 = .ok (.iconst (-1), 1) := by decide +kernel
theorem dX10_count_79 : decode cX10_count 79 = .ok (.ireturn, 1) := by decide +kernel
theorem ci_X10_count : Cond.instanceMethod yX10_count ∈ TW := TW_of 1369 (by decide +kernel) (by decide +kernel)
theorem cs_X10_count : Cond.selects yX10_count.cls yX10_count yX10_count ∈ TW := TW_of 1370 (by decide +kernel) (by decide +kernel)
abbrev cX10_shots : ByteArray := prog_1_method_17_code
def yX10_shots : MethodName := ⟨RX10, "shots", "()I"⟩
theorem dX10_shots_0 : decode cX10_shots 0 = .ok (.aload_n 0, 1) := by decide +kernel
theorem dX10_shots_1 : decode cX10_shots 1 = .ok (.getfield 19, 3) := by decide +kernel
theorem dX10_shots_4 : decode cX10_shots 4 = .ok (.getfield 183, 3) := by decide +kernel
theorem dX10_shots_7 : decode cX10_shots 7 = .ok (.getfield 208, 3) := by decide +kernel
theorem dX10_shots_10 : decode cX10_shots 10 = .ok (.ireturn, 1) := by decide +kernel
theorem ci_X10_shots : Cond.instanceMethod yX10_shots ∈ TW := TW_of 1361 (by decide +kernel) (by decide +kernel)
theorem cs_X10_shots : Cond.selects yX10_shots.cls yX10_shots yX10_shots ∈ TW := TW_of 1362 (by decide +kernel) (by decide +kernel)
abbrev cX10_filmLength : ByteArray := prog_1_method_20_code
def yX10_filmLength : MethodName := ⟨RX10, "filmLength", "()I"⟩
theorem dX10_filmLength_0 : decode cX10_filmLength 0 = .ok (.aload_n 0, 1) := by decide +kernel
theorem dX10_filmLength_1 : decode cX10_filmLength 1 = .ok (.getfield 19, 3) := by decide +kernel
theorem dX10_filmLength_4 : decode cX10_filmLength 4 = .ok (.getfield 226, 3) := by decide +kernel
theorem dX10_filmLength_7 : decode cX10_filmLength 7 = .ok (.ireturn, 1) := by decide +kernel
theorem ci_X10_filmLength : Cond.instanceMethod yX10_filmLength ∈ TW := TW_of 1365 (by decide +kernel) (by decide +kernel)
theorem cs_X10_filmLength : Cond.selects yX10_filmLength.cls yX10_filmLength yX10_filmLength ∈ TW := TW_of 1366 (by decide +kernel) (by decide +kernel)
abbrev cX10_transcriptSize : ByteArray := prog_1_method_28_code
def yX10_transcriptSize : MethodName := ⟨RX10, "transcriptSize", "()I"⟩
theorem dX10_transcriptSize_0 : decode cX10_transcriptSize 0 = .ok (.aload_n 0, 1) := by decide +kernel
theorem dX10_transcriptSize_1 : decode cX10_transcriptSize 1 = .ok (.getfield 19, 3) := by decide +kernel
theorem dX10_transcriptSize_4 : decode cX10_transcriptSize 4 = .ok (.getfield 257, 3) := by decide +kernel
theorem dX10_transcriptSize_7 : decode cX10_transcriptSize 7 = .ok (.ireturn, 1) := by decide +kernel
theorem ci_X10_transcriptSize : Cond.instanceMethod yX10_transcriptSize ∈ TW := TW_of 1376 (by decide +kernel) (by decide +kernel)
theorem cs_X10_transcriptSize : Cond.selects yX10_transcriptSize.cls yX10_transcriptSize yX10_transcriptSize ∈ TW := TW_of 1377 (by decide +kernel) (by decide +kernel)
abbrev cX10_transcriptWord : ByteArray := prog_1_method_29_code
def yX10_transcriptWord : MethodName := ⟨RX10, "transcriptWord", "(I)I"⟩
theorem dX10_transcriptWord_0 : decode cX10_transcriptWord 0 = .ok (.iload_n 1, 1) := by decide +kernel
theorem dX10_transcriptWord_1 : decode cX10_transcriptWord 1 = .ok (.ifCond .lt 14, 3) := by decide +kernel
theorem dX10_transcriptWord_4 : decode cX10_transcriptWord 4 = .ok (.iload_n 1, 1) := by decide +kernel
theorem dX10_transcriptWord_5 : decode cX10_transcriptWord 5 = .ok (.aload_n 0, 1) := by decide +kernel
theorem dX10_transcriptWord_6 : decode cX10_transcriptWord 6 = .ok (.getfield 19, 3) := by decide +kernel
theorem dX10_transcriptWord_9 : decode cX10_transcriptWord 9 = .ok (.getfield 257, 3) := by decide +kernel
theorem dX10_transcriptWord_12 : decode cX10_transcriptWord 12 = .ok (.if_icmp .lt 5, 3) := by decide +kernel
theorem dX10_transcriptWord_15 : decode cX10_transcriptWord 15 = .ok (.iconst (-1), 1) := by decide +kernel
theorem dX10_transcriptWord_16 : decode cX10_transcriptWord 16 = .ok (.ireturn, 1) := by decide +kernel
theorem dX10_transcriptWord_17 : decode cX10_transcriptWord 17 = .ok (.aload_n 0, 1) := by decide +kernel
theorem dX10_transcriptWord_18 : decode cX10_transcriptWord 18 = .ok (.getfield 19, 3) := by decide +kernel
theorem dX10_transcriptWord_21 : decode cX10_transcriptWord 21 = .ok (.getfield 260, 3) := by decide +kernel
theorem dX10_transcriptWord_24 : decode cX10_transcriptWord 24 = .ok (.iload_n 1, 1) := by decide +kernel
theorem dX10_transcriptWord_25 : decode cX10_transcriptWord 25 = .ok (.iaload, 1) := by decide +kernel
theorem dX10_transcriptWord_26 : decode cX10_transcriptWord 26 = .ok (.ireturn, 1) := by decide +kernel
theorem ci_X10_transcriptWord : Cond.instanceMethod yX10_transcriptWord ∈ TW := TW_of 1380 (by decide +kernel) (by decide +kernel)
theorem cs_X10_transcriptWord : Cond.selects yX10_transcriptWord.cls yX10_transcriptWord yX10_transcriptWord ∈ TW := TW_of 1381 (by decide +kernel) (by decide +kernel)
theorem cw_X10_62 : CWd RX10 62 yX9_putFour cX9_putFour 3 none 1 := ⟨TW_of 1300 (by decide +kernel) (by decide +kernel), TW_of 1303 (by decide +kernel) (by decide +kernel), TW_of 17 (by decide +kernel) (by decide +kernel), by decide +kernel⟩
set_option maxRecDepth 20000 in
set_option maxHeartbeats 1000000 in
theorem c_X10_append {l : Launch} {Z : ZT} {g : va_W} {h : Hp} {p1 : Int32} {p2 : Int32} {p3 : Int32} {p4 : Int32} {p5 : Int32} {out : Int32 × Hp} (hf : f_X10_append h p1 p2 p3 p4 p5 = some out) : Met l yX10_append (wY yX10_append cX10_append 6 (some .int)) (rmD 1) (va_Pc [.ref (Z.1 0), .int p1, .int p2, .int p3, .int p4, .int p5] (Wd Z h g)) (va_Qi (fun r (_ : Unit) => r = out.1) (fun _ => Wd Z out.2 g) (FR Z)) 0 0 (FR Z) := by
  refine metX RX10 rfl (by decide +kernel) (Nat.le_of_ble_eq_true rfl) ?_
  intro p e s m args below meth c C hW ls hl
  have hl : lv_has ls 6 [(0, .ref (Z.1 0)), (1, .int p1), (2, .int p2), (3, .int p3), (4, .int p4), (5, .int p5)] := hl
  unfold f_X10_append at hf
  refine lv_aload_n C.1 C.2.1 dX10_append_0 rfl (lv_at hl 0 rfl) ?_
  refine xg_X10_10 C hW (k_0) dX10_append_1 ?_
  refine xg_X10_58 C hW (k_1) dX10_append_4 ?_
  refine lv_bipush (v := 20) C.1 C.2.1 dX10_append_7 (by decide) ?_
  refine lv_iadd C.1 C.2.1 dX10_append_9 ?_
  refine lv_sipush (v := 900) C.1 C.2.1 dX10_append_10 (by decide) ?_
  refine x_cmple (tgt := 18) C hf dX10_append_13 (by decide) (fun hf => ?_) (fun hf => ?_)
  · refine lv_aload_n C.1 C.2.1 dX10_append_18 rfl (lv_at hl 0 rfl) ?_
    refine xg_X10_10 C hW (k_0) dX10_append_19 ?_
    refine lv_iload_n C.1 C.2.1 dX10_append_22 rfl (lv_at hl 1 rfl) ?_
    obtain ⟨u1, hcu1, hf⟩ := bnd_t hf
    refine x_callv hW (x_runV C hW hl (wk7 (k_1)) rfl rfl (c_X9_putFour hcu1) (cw_X10_62) ci_X9_putFour cs_X9_putFour (rm_ok (by decide) (by decide)) ⟨Nat.le_refl _, Nat.le_refl _⟩ (As := [.int p1]) rfl rfl (Nat.le_of_ble_eq_true rfl) dX10_append_23) (fun H locs hW => ?_)
    refine lv_aload_n C.1 C.2.1 dX10_append_26 rfl (lv_at hl 0 rfl) ?_
    refine xg_X10_10 C hW (k_0) dX10_append_27 ?_
    refine lv_iload_n C.1 C.2.1 dX10_append_30 rfl (lv_at hl 2 rfl) ?_
    obtain ⟨u2, hcu2, hf⟩ := bnd_t hf
    refine x_callv hW (x_runV C hW hl (wk7 (k_1)) rfl rfl (c_X9_putFour hcu2) (cw_X10_62) ci_X9_putFour cs_X9_putFour (rm_ok (by decide) (by decide)) ⟨Nat.le_refl _, Nat.le_refl _⟩ (As := [.int p2]) rfl rfl (Nat.le_of_ble_eq_true rfl) dX10_append_31) (fun H locs hW => ?_)
    refine lv_aload_n C.1 C.2.1 dX10_append_34 rfl (lv_at hl 0 rfl) ?_
    refine xg_X10_10 C hW (k_0) dX10_append_35 ?_
    refine lv_iload_n C.1 C.2.1 dX10_append_38 rfl (lv_at hl 3 rfl) ?_
    obtain ⟨u3, hcu3, hf⟩ := bnd_t hf
    refine x_callv hW (x_runV C hW hl (wk7 (k_1)) rfl rfl (c_X9_putFour hcu3) (cw_X10_62) ci_X9_putFour cs_X9_putFour (rm_ok (by decide) (by decide)) ⟨Nat.le_refl _, Nat.le_refl _⟩ (As := [.int p3]) rfl rfl (Nat.le_of_ble_eq_true rfl) dX10_append_39) (fun H locs hW => ?_)
    refine lv_aload_n C.1 C.2.1 dX10_append_42 rfl (lv_at hl 0 rfl) ?_
    refine xg_X10_10 C hW (k_0) dX10_append_43 ?_
    refine lv_iload C.1 C.2.1 dX10_append_46 (lv_at hl 4 rfl) ?_
    obtain ⟨u4, hcu4, hf⟩ := bnd_t hf
    refine x_callv hW (x_runV C hW hl (wk7 (k_1)) rfl rfl (c_X9_putFour hcu4) (cw_X10_62) ci_X9_putFour cs_X9_putFour (rm_ok (by decide) (by decide)) ⟨Nat.le_refl _, Nat.le_refl _⟩ (As := [.int p4]) rfl rfl (Nat.le_of_ble_eq_true rfl) dX10_append_48) (fun H locs hW => ?_)
    refine lv_aload_n C.1 C.2.1 dX10_append_51 rfl (lv_at hl 0 rfl) ?_
    refine xg_X10_10 C hW (k_0) dX10_append_52 ?_
    refine lv_iload C.1 C.2.1 dX10_append_55 (lv_at hl 5 rfl) ?_
    obtain ⟨u5, hcu5, hf⟩ := bnd_t hf
    refine x_callv hW (x_runV C hW hl (wk7 (k_1)) rfl rfl (c_X9_putFour hcu5) (cw_X10_62) ci_X9_putFour cs_X9_putFour (rm_ok (by decide) (by decide)) ⟨Nat.le_refl _, Nat.le_refl _⟩ (As := [.int p5]) rfl rfl (Nat.le_of_ble_eq_true rfl) dX10_append_57) (fun H locs hW => ?_)
    refine lv_aload_n C.1 C.2.1 dX10_append_60 rfl (lv_at hl 0 rfl) ?_
    refine xg_X10_10 C hW (k_0) dX10_append_61 ?_
    refine xg_X10_58 C hW (k_1) dX10_append_64 ?_
    obtain rfl := Option.some.inj hf
    exact x_iret C hW dX10_append_67 rfl
  · refine lv_iconst (v := -1) C.1 C.2.1 dX10_append_16 (by decide) ?_
    obtain rfl := Option.some.inj hf
    exact x_iret C hW dX10_append_17 rfl
set_option maxRecDepth 20000 in
set_option maxHeartbeats 1000000 in
theorem c_X10_truncate {l : Launch} {Z : ZT} {g : va_W} {h : Hp} {p1 : Int32} {out : Int32 × Hp} (hf : f_X10_truncate h p1 = some out) : Met l yX10_truncate (wY yX10_truncate cX10_truncate 2 (some .boolean)) (rmD 0) (va_Pc [.ref (Z.1 0), .int p1] (Wd Z h g)) (va_Qi (fun r (_ : Unit) => r = out.1) (fun _ => Wd Z out.2 g) (FR Z)) 0 0 (FR Z) := by
  refine metX RX10 rfl (by decide +kernel) (Nat.le_of_ble_eq_true rfl) ?_
  intro p e s m args below meth c C hW ls hl
  have hl : lv_has ls 2 [(0, .ref (Z.1 0)), (1, .int p1)] := hl
  unfold f_X10_truncate at hf
  refine lv_iload_n C.1 C.2.1 dX10_truncate_0 rfl (lv_at hl 1 rfl) ?_
  refine x_iflt (tgt := 15) C hf dX10_truncate_1 (by decide) (fun hf => ?_) (fun hf => ?_)
  · refine lv_iconst (v := 0) C.1 C.2.1 dX10_truncate_15 (by decide) ?_
    obtain rfl := Option.some.inj hf
    exact x_zret C hW (by decide) dX10_truncate_16 rfl
  · refine lv_iload_n C.1 C.2.1 dX10_truncate_4 rfl (lv_at hl 1 rfl) ?_
    refine lv_aload_n C.1 C.2.1 dX10_truncate_5 rfl (lv_at hl 0 rfl) ?_
    refine xg_X10_10 C hW (k_0) dX10_truncate_6 ?_
    refine xg_X10_58 C hW (k_1) dX10_truncate_9 ?_
    refine x_cmple (tgt := 17) C hf dX10_truncate_12 (by decide) (fun hf => ?_) (fun hf => ?_)
    · refine lv_aload_n C.1 C.2.1 dX10_truncate_17 rfl (lv_at hl 0 rfl) ?_
      refine xg_X10_10 C hW (k_0) dX10_truncate_18 ?_
      refine lv_iload_n C.1 C.2.1 dX10_truncate_21 rfl (lv_at hl 1 rfl) ?_
      refine xp_X10_58 C hW (k_1) hf dX10_truncate_22 (fun h1 H locs hf hW => ?_)
      refine lv_iconst (v := 1) C.1 C.2.1 dX10_truncate_25 (by decide) ?_
      obtain rfl := Option.some.inj hf
      exact x_zret C hW (by decide) dX10_truncate_26 rfl
    · refine lv_iconst (v := 0) C.1 C.2.1 dX10_truncate_15 (by decide) ?_
      obtain rfl := Option.some.inj hf
      exact x_zret C hW (by decide) dX10_truncate_16 rfl
set_option maxRecDepth 20000 in
set_option maxHeartbeats 1000000 in
theorem c_X10_errorKind {l : Launch} {Z : ZT} {g : va_W} {h : Hp} {out : Int32} (hf : f_X10_errorKind h = some out) : Met l yX10_errorKind (wY yX10_errorKind cX10_errorKind 1 (some .int)) (rmD 0) (va_Pc [.ref (Z.1 0)] (Wd Z h g)) (va_Qi (fun r (_ : Unit) => r = out) (fun _ => Wd Z h g) (FR Z)) 0 0 (FR Z) := by
  refine metX RX10 rfl (by decide +kernel) (Nat.le_of_ble_eq_true rfl) ?_
  intro p e s m args below meth c C hW ls hl
  have hl : lv_has ls 1 [(0, .ref (Z.1 0))] := hl
  unfold f_X10_errorKind at hf
  refine lv_aload_n C.1 C.2.1 dX10_errorKind_0 rfl (lv_at hl 0 rfl) ?_
  refine xg_X10_10 C hW (k_0) dX10_errorKind_1 ?_
  refine xg_X10_112 C hW (k_1) dX10_errorKind_4 ?_
  exact x_iret C hW dX10_errorKind_7 (Option.some.inj hf)
set_option maxRecDepth 20000 in
set_option maxHeartbeats 1000000 in
theorem c_X10_count {l : Launch} {Z : ZT} {g : va_W} {h : Hp} {p1 : Int32} {out : Int32} (hf : f_X10_count h p1 = some out) : Met l yX10_count (wY yX10_count cX10_count 3 (some .int)) (rmD 0) (va_Pc [.ref (Z.1 0), .int p1] (Wd Z h g)) (va_Qi (fun r (_ : Unit) => r = out) (fun _ => Wd Z h g) (FR Z)) 0 0 (FR Z) := by
  refine metX RX10 rfl (by decide +kernel) (Nat.le_of_ble_eq_true rfl) ?_
  intro p e s m args below meth c C hW ls hl
  have hl : lv_has ls 3 [(0, .ref (Z.1 0)), (1, .int p1)] := hl
  unfold f_X10_count at hf
  refine lv_aload_n C.1 C.2.1 dX10_count_0 rfl (lv_at hl 0 rfl) ?_
  refine xg_X10_19 C hW (k_0) dX10_count_1 ?_
  refine xg_X10_86 C hW (k_3) hf dX10_count_4 (fun q1 hk_q1 hf => ?_)
  refine lv_astore_n (lv' := [(2, .ref (Z.1 q1)), (0, .ref (Z.1 0)), (1, .int p1)]) C.1 C.2.1 dX10_count_7 rfl hl (by decide) rfl (fun ls hl => ?_)
  refine lv_iload_n C.1 C.2.1 dX10_count_8 rfl (lv_at hl 2 rfl) ?_
  rcases Classical.em (p1 = 0) with q0 | q0
  · rw [if_pos q0] at hf
    refine x_swin (tgt := 48) C q0 dX10_count_9 (by decide) (by decide) rfl (by decide) ?_
    refine lv_aload_n C.1 C.2.1 dX10_count_48 rfl (lv_at hl 0 rfl) ?_
    refine xg_X10_115 C hW hk_q1 dX10_count_49 ?_
    exact x_iret C hW dX10_count_52 (Option.some.inj hf)
  · rw [if_neg q0] at hf
    rcases Classical.em (p1 = 1) with q1 | q1
    · rw [if_pos q1] at hf
      refine x_swin (tgt := 53) C q1 dX10_count_9 (by decide) (by decide) rfl (by decide) ?_
      refine lv_aload_n C.1 C.2.1 dX10_count_53 rfl (lv_at hl 0 rfl) ?_
      refine xg_X10_116 C hW hk_q1 dX10_count_54 ?_
      exact x_iret C hW dX10_count_57 (Option.some.inj hf)
    · rw [if_neg q1] at hf
      rcases Classical.em (p1 = 2) with q2 | q2
      · rw [if_pos q2] at hf
        refine x_swin (tgt := 58) C q2 dX10_count_9 (by decide) (by decide) rfl (by decide) ?_
        refine lv_aload_n C.1 C.2.1 dX10_count_58 rfl (lv_at hl 0 rfl) ?_
        refine xg_X10_89 C hW hk_q1 dX10_count_59 ?_
        exact x_iret C hW dX10_count_62 (Option.some.inj hf)
      · rw [if_neg q2] at hf
        rcases Classical.em (p1 = 3) with q3 | q3
        · rw [if_pos q3] at hf
          refine x_swin (tgt := 63) C q3 dX10_count_9 (by decide) (by decide) rfl (by decide) ?_
          refine lv_aload_n C.1 C.2.1 dX10_count_63 rfl (lv_at hl 0 rfl) ?_
          refine xg_X10_119 C hW hk_q1 dX10_count_64 ?_
          exact x_iret C hW dX10_count_67 (Option.some.inj hf)
        · rw [if_neg q3] at hf
          rcases Classical.em (p1 = 4) with q4 | q4
          · rw [if_pos q4] at hf
            refine x_swin (tgt := 68) C q4 dX10_count_9 (by decide) (by decide) rfl (by decide) ?_
            refine lv_aload_n C.1 C.2.1 dX10_count_68 rfl (lv_at hl 0 rfl) ?_
            refine xg_X10_122 C hW hk_q1 dX10_count_69 ?_
            exact x_iret C hW dX10_count_72 (Option.some.inj hf)
          · rw [if_neg q4] at hf
            rcases Classical.em (p1 = 5) with q5 | q5
            · rw [if_pos q5] at hf
              refine x_swin (tgt := 73) C q5 dX10_count_9 (by decide) (by decide) rfl (by decide) ?_
              refine lv_aload_n C.1 C.2.1 dX10_count_73 rfl (lv_at hl 0 rfl) ?_
              refine xg_X10_125 C hW hk_q1 dX10_count_74 ?_
              exact x_iret C hW dX10_count_77 (Option.some.inj hf)
            · rw [if_neg q5] at hf
              refine lv_tableOut (tgt := 78) C.1 C.2.1 dX10_count_9 (x_nN (n := 5) (fun k hk => by
                rcases (show k = 0 ∨ k = 1 ∨ k = 2 ∨ k = 3 ∨ k = 4 ∨ k = 5 by omega) with rfl | rfl | rfl | rfl | rfl | rfl
                · exact q0
                · exact q1
                · exact q2
                · exact q3
                · exact q4
                · exact q5
                ) (by decide)) (by decide) ?_
              refine lv_iconst (v := -1) C.1 C.2.1 dX10_count_78 (by decide) ?_
              exact x_iret C hW dX10_count_79 (Option.some.inj hf)
set_option maxRecDepth 20000 in
set_option maxHeartbeats 1000000 in
theorem c_X10_shots {l : Launch} {Z : ZT} {g : va_W} {h : Hp} {out : Int32} (hf : f_X10_shots h = some out) : Met l yX10_shots (wY yX10_shots cX10_shots 1 (some .int)) (rmD 0) (va_Pc [.ref (Z.1 0)] (Wd Z h g)) (va_Qi (fun r (_ : Unit) => r = out) (fun _ => Wd Z h g) (FR Z)) 0 0 (FR Z) := by
  refine metX RX10 rfl (by decide +kernel) (Nat.le_of_ble_eq_true rfl) ?_
  intro p e s m args below meth c C hW ls hl
  have hl : lv_has ls 1 [(0, .ref (Z.1 0))] := hl
  unfold f_X10_shots at hf
  refine lv_aload_n C.1 C.2.1 dX10_shots_0 rfl (lv_at hl 0 rfl) ?_
  refine xg_X10_19 C hW (k_0) dX10_shots_1 ?_
  refine xg_X10_183 C hW (k_3) dX10_shots_4 ?_
  refine xg_X10_208 C hW (k_18) dX10_shots_7 ?_
  exact x_iret C hW dX10_shots_10 (Option.some.inj hf)
set_option maxRecDepth 20000 in
set_option maxHeartbeats 1000000 in
theorem c_X10_filmLength {l : Launch} {Z : ZT} {g : va_W} {h : Hp} {out : Int32} (hf : f_X10_filmLength h = some out) : Met l yX10_filmLength (wY yX10_filmLength cX10_filmLength 1 (some .int)) (rmD 0) (va_Pc [.ref (Z.1 0)] (Wd Z h g)) (va_Qi (fun r (_ : Unit) => r = out) (fun _ => Wd Z h g) (FR Z)) 0 0 (FR Z) := by
  refine metX RX10 rfl (by decide +kernel) (Nat.le_of_ble_eq_true rfl) ?_
  intro p e s m args below meth c C hW ls hl
  have hl : lv_has ls 1 [(0, .ref (Z.1 0))] := hl
  unfold f_X10_filmLength at hf
  refine lv_aload_n C.1 C.2.1 dX10_filmLength_0 rfl (lv_at hl 0 rfl) ?_
  refine xg_X10_19 C hW (k_0) dX10_filmLength_1 ?_
  refine xg_X10_226 C hW (k_3) dX10_filmLength_4 ?_
  exact x_iret C hW dX10_filmLength_7 (Option.some.inj hf)
set_option maxRecDepth 20000 in
set_option maxHeartbeats 1000000 in
theorem c_X10_transcriptSize {l : Launch} {Z : ZT} {g : va_W} {h : Hp} {out : Int32} (hf : f_X10_transcriptSize h = some out) : Met l yX10_transcriptSize (wY yX10_transcriptSize cX10_transcriptSize 1 (some .int)) (rmD 0) (va_Pc [.ref (Z.1 0)] (Wd Z h g)) (va_Qi (fun r (_ : Unit) => r = out) (fun _ => Wd Z h g) (FR Z)) 0 0 (FR Z) := by
  refine metX RX10 rfl (by decide +kernel) (Nat.le_of_ble_eq_true rfl) ?_
  intro p e s m args below meth c C hW ls hl
  have hl : lv_has ls 1 [(0, .ref (Z.1 0))] := hl
  unfold f_X10_transcriptSize at hf
  refine lv_aload_n C.1 C.2.1 dX10_transcriptSize_0 rfl (lv_at hl 0 rfl) ?_
  refine xg_X10_19 C hW (k_0) dX10_transcriptSize_1 ?_
  refine xg_X10_257 C hW (k_3) dX10_transcriptSize_4 ?_
  exact x_iret C hW dX10_transcriptSize_7 (Option.some.inj hf)
set_option maxRecDepth 20000 in
set_option maxHeartbeats 1000000 in
theorem c_X10_transcriptWord {l : Launch} {Z : ZT} {g : va_W} {h : Hp} {p1 : Int32} {out : Int32} (hf : f_X10_transcriptWord h p1 = some out) : Met l yX10_transcriptWord (wY yX10_transcriptWord cX10_transcriptWord 2 (some .int)) (rmD 0) (va_Pc [.ref (Z.1 0), .int p1] (Wd Z h g)) (va_Qi (fun r (_ : Unit) => r = out) (fun _ => Wd Z h g) (FR Z)) 0 0 (FR Z) := by
  refine metX RX10 rfl (by decide +kernel) (Nat.le_of_ble_eq_true rfl) ?_
  intro p e s m args below meth c C hW ls hl
  have hl : lv_has ls 2 [(0, .ref (Z.1 0)), (1, .int p1)] := hl
  unfold f_X10_transcriptWord at hf
  refine lv_iload_n C.1 C.2.1 dX10_transcriptWord_0 rfl (lv_at hl 1 rfl) ?_
  refine x_iflt (tgt := 15) C hf dX10_transcriptWord_1 (by decide) (fun hf => ?_) (fun hf => ?_)
  · refine lv_iconst (v := -1) C.1 C.2.1 dX10_transcriptWord_15 (by decide) ?_
    exact x_iret C hW dX10_transcriptWord_16 (Option.some.inj hf)
  · refine lv_iload_n C.1 C.2.1 dX10_transcriptWord_4 rfl (lv_at hl 1 rfl) ?_
    refine lv_aload_n C.1 C.2.1 dX10_transcriptWord_5 rfl (lv_at hl 0 rfl) ?_
    refine xg_X10_19 C hW (k_0) dX10_transcriptWord_6 ?_
    refine xg_X10_257 C hW (k_3) dX10_transcriptWord_9 ?_
    refine x_cmplt (tgt := 17) C hf dX10_transcriptWord_12 (by decide) (fun hf => ?_) (fun hf => ?_)
    · refine lv_aload_n C.1 C.2.1 dX10_transcriptWord_17 rfl (lv_at hl 0 rfl) ?_
      refine xg_X10_19 C hW (k_0) dX10_transcriptWord_18 ?_
      refine xg_X10_260 C hW (k_3) dX10_transcriptWord_21 ?_
      refine lv_iload_n C.1 C.2.1 dX10_transcriptWord_24 rfl (lv_at hl 1 rfl) ?_
      refine x_ialdC C hW a_9 hf dX10_transcriptWord_25 (fun hf => ?_)
      exact x_iret C hW dX10_transcriptWord_26 (Option.some.inj hf)
    · refine lv_iconst (v := -1) C.1 C.2.1 dX10_transcriptWord_15 (by decide) ?_
      exact x_iret C hW dX10_transcriptWord_16 (Option.some.inj hf)
