abbrev cX3_record : ByteArray := prog_5_method_2_code
def yX3_record : MethodName := ⟨RX3, "record", "(LTranscriptCutter$Edit;)V"⟩
theorem dX3_record_0 : decode cX3_record 0 = .ok (.aload_n 0, 1) := by decide +kernel
theorem dX3_record_1 : decode cX3_record 1 = .ok (.getfield 11, 3) := by decide +kernel
theorem dX3_record_4 : decode cX3_record 4 = .ok (.aload_n 0, 1) := by decide +kernel
theorem dX3_record_5 : decode cX3_record 5 = .ok (.getfield 18, 3) := by decide +kernel
theorem dX3_record_8 : decode cX3_record 8 = .ok (.aaload, 1) := by decide +kernel
theorem dX3_record_9 : decode cX3_record 9 = .ok (.aload_n 1, 1) := by decide +kernel
theorem dX3_record_10 : decode cX3_record 10 = .ok (.invokevirtual 22, 3) := by decide +kernel
theorem dX3_record_13 : decode cX3_record 13 = .ok (.aload_n 0, 1) := by decide +kernel
theorem dX3_record_14 : decode cX3_record 14 = .ok (.aload_n 0, 1) := by decide +kernel
theorem dX3_record_15 : decode cX3_record 15 = .ok (.getfield 18, 3) := by decide +kernel
theorem dX3_record_18 : decode cX3_record 18 = .ok (.iconst 1, 1) := by decide +kernel
theorem dX3_record_19 : decode cX3_record 19 = .ok (.iadd, 1) := by decide +kernel
theorem dX3_record_20 : decode cX3_record 20 = .ok (.bipush 12, 2) := by decide +kernel
theorem dX3_record_22 : decode cX3_record 22 = .ok (.irem, 1) := by decide +kernel
theorem dX3_record_23 : decode cX3_record 23 = .ok (.putfield 18, 3) := by decide +kernel
theorem dX3_record_26 : decode cX3_record 26 = .ok (.aload_n 0, 1) := by decide +kernel
theorem dX3_record_27 : decode cX3_record 27 = .ok (.aload_n 0, 1) := by decide +kernel
theorem dX3_record_28 : decode cX3_record 28 = .ok (.getfield 26, 3) := by decide +kernel
theorem dX3_record_31 : decode cX3_record 31 = .ok (.iconst 1, 1) := by decide +kernel
theorem dX3_record_32 : decode cX3_record 32 = .ok (.iadd, 1) := by decide +kernel
theorem dX3_record_33 : decode cX3_record 33 = .ok (.bipush 12, 2) := by decide +kernel
theorem dX3_record_35 : decode cX3_record 35 = .ok (.invokestatic 29, 3) := by decide +kernel
theorem dX3_record_38 : decode cX3_record 38 = .ok (.putfield 26, 3) := by decide +kernel
theorem dX3_record_41 : decode cX3_record 41 = .ok (.return_, 1) := by decide +kernel
theorem ci_X3_record : Cond.instanceMethod yX3_record ∈ TW := TW_of 1151 (by decide +kernel) (by decide +kernel)
theorem cs_X3_record : Cond.selects yX3_record.cls yX3_record yX3_record ∈ TW := TW_of 1152 (by decide +kernel) (by decide +kernel)
theorem cw_X3_22 : CWd RX3 22 yX0_copyFrom cX0_copyFrom 3 none 1 := ⟨TW_of 1154 (by decide +kernel) (by decide +kernel), TW_of 1157 (by decide +kernel) (by decide +kernel), TW_of 20 (by decide +kernel) (by decide +kernel), by decide +kernel⟩
theorem ml_X3_29 : Cond.methodLink RX3 29 Lib.Math.min.name ∈ TW := TW_of 1158 (by decide +kernel) (by decide +kernel)
set_option maxRecDepth 20000 in
set_option maxHeartbeats 1000000 in
theorem c_X3_record {l : Launch} {Z : ZT} {g : va_W} {h : Hp} {p1 : Nat} (hk_p1 : knd p1 = 0) {out : Hp} (hf : f_X3_record h p1 = some out) : Met l yX3_record (wY yX3_record cX3_record 2 none) (rmD 1) (va_Pc [.ref (Z.1 13), .ref (Z.1 p1)] (Wd Z h g)) (va_Qv (fun (_ : Unit) => True) (fun _ => Wd Z out g) (FR Z)) 0 0 (FR Z) := by
  refine metX RX3 rfl (by decide +kernel) (Nat.le_of_ble_eq_true rfl) ?_
  intro p e s m args below meth c C hW ls hl
  have hl : lv_has ls 2 [(0, .ref (Z.1 13)), (1, .ref (Z.1 p1))] := hl
  unfold f_X3_record at hf
  refine lv_aload_n C.1 C.2.1 dX3_record_0 rfl (lv_at hl 0 rfl) ?_
  refine xg_X3_11 C hW (k_13) dX3_record_1 ?_
  refine lv_aload_n C.1 C.2.1 dX3_record_4 rfl (lv_at hl 0 rfl) ?_
  refine xg_X3_18 C hW (k_13) dX3_record_5 ?_
  refine x_aald C hW hf dX3_record_8 (fun q1 hk_q1 hf => ?_)
  refine lv_aload_n C.1 C.2.1 dX3_record_9 rfl (lv_at hl 1 rfl) ?_
  obtain ⟨u2, hcu2, hf⟩ := bnd_t hf
  refine x_callv hW (x_runV C hW hl (wk0 hk_q1) rfl rfl (c_X0_copyFrom hk_q1 hk_p1 hcu2) (cw_X3_22) ci_X0_copyFrom cs_X0_copyFrom (rm_ok (by decide) (by decide)) ⟨Nat.le_refl _, Nat.le_refl _⟩ (As := [.ref (Z.1 p1)]) rfl rfl (Nat.le_of_ble_eq_true rfl) dX3_record_10) (fun H locs hW => ?_)
  refine lv_aload_n C.1 C.2.1 dX3_record_13 rfl (lv_at hl 0 rfl) ?_
  refine lv_aload_n C.1 C.2.1 dX3_record_14 rfl (lv_at hl 0 rfl) ?_
  refine xg_X3_18 C hW (k_13) dX3_record_15 ?_
  refine lv_iconst (v := 1) C.1 C.2.1 dX3_record_18 (by decide) ?_
  refine lv_iadd C.1 C.2.1 dX3_record_19 ?_
  refine lv_bipush (v := 12) C.1 C.2.1 dX3_record_20 (by decide) ?_
  refine lv_irem C.1 C.2.1 dX3_record_22 (by decide) ?_
  refine xp_X3_18 C hW (k_13) hf dX3_record_23 (fun h3 H locs hf hW => ?_)
  refine lv_aload_n C.1 C.2.1 dX3_record_26 rfl (lv_at hl 0 rfl) ?_
  refine lv_aload_n C.1 C.2.1 dX3_record_27 rfl (lv_at hl 0 rfl) ?_
  refine xg_X3_26 C hW (k_13) dX3_record_28 ?_
  refine lv_iconst (v := 1) C.1 C.2.1 dX3_record_31 (by decide) ?_
  refine lv_iadd C.1 C.2.1 dX3_record_32 ?_
  refine lv_bipush (v := 12) C.1 C.2.1 dX3_record_33 (by decide) ?_
  refine x_min C hl (ml_X3_29) (by decide) ⟨Nat.le_refl _, Nat.le_refl _⟩ (Nat.le_of_ble_eq_true rfl) dX3_record_35 ?_
  refine xp_X3_26 C hW (k_13) hf dX3_record_38 (fun h4 H locs hf hW => ?_)
  obtain rfl := Option.some.inj hf
  exact x_vret C hW dX3_record_41 trivial
