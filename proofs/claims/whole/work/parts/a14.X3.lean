abbrev cX3_record : ByteArray := prog_5_method_2_code
def yX3_record : MethodName := ⟨RX3, "record", "(LTranscriptCutter$Edit;)V"⟩
theorem dX3_record_0 : decode cX3_record 0 = .ok (.aload_n 0, 1) := by decide +kernel
theorem dX3_record_1 : decode cX3_record 1 = .ok (.getfield 11, 3) := by decide +kernel
theorem dX3_record_4 : decode cX3_record 4 = .ok (.aload_n 0, 1) := by decide +kernel
theorem dX3_record_5 : decode cX3_record 5 = .ok (.getfield 18, 3) := by decide +kernel
theorem dX3_record_8 : decode cX3_record 8 = .ok (.aaload, 1) := by decide +kernel
theorem dX3_record_9 : decode cX3_record 9 = .ok (.aload_n 1, 1) := by decide +kernel
theorem dX3_record_10 : decode cX3_record 10 = .ok (.invokevirtual 22, 3) := by decide +kernel
theorem dX3_record_13 : decode cX3_record 13 = .ok (.aload_n 0, 1) := by decide +kernel
theorem dX3_record_14 : decode cX3_record 14 = .ok (.aload_n 0, 1) := by decide +kernel
theorem dX3_record_15 : decode cX3_record 15 = .ok (.getfield 18, 3) := by decide +kernel
theorem dX3_record_18 : decode cX3_record 18 = .ok (.iconst 1, 1) := by decide +kernel
theorem dX3_record_19 : decode cX3_record 19 = .ok (.iadd, 1) := by decide +kernel
theorem dX3_record_20 : decode cX3_record 20 = .ok (.bipush 12, 2) := by decide +kernel
theorem dX3_record_22 : decode cX3_record 22 = .ok (.irem, 1) := by decide +kernel
theorem dX3_record_23 : decode cX3_record 23 = .ok (.putfield 18, 3) := by decide +kernel
theorem dX3_record_26 : decode cX3_record 26 = .ok (.aload_n 0, 1) := by decide +kernel
theorem dX3_record_27 : decode cX3_record 27 = .ok (.aload_n 0, 1) := by decide +kernel
theorem dX3_record_28 : decode cX3_record 28 = .ok (.getfield 26, 3) := by decide +kernel
theorem dX3_record_31 : decode cX3_record 31 = .ok (.iconst 1, 1) := by decide +kernel
theorem dX3_record_32 : decode cX3_record 32 = .ok (.iadd, 1) := by decide +kernel
theorem dX3_record_33 : decode cX3_record 33 = .ok (.bipush 12, 2) := by decide +kernel
theorem dX3_record_35 : decode cX3_record 35 = .ok (.invokestatic 29, 3) := by decide +kernel
theorem dX3_record_38 : decode cX3_record 38 = .ok (.putfield 26, 3) := by decide +kernel
theorem dX3_record_41 : decode cX3_record 41 = .ok (.return_, 1) := by decide +kernel
theorem ci_X3_record : Cond.instanceMethod yX3_record ∈ TW := TW_of 634 (by decide +kernel) (by decide +kernel)
theorem cs_X3_record : Cond.selects yX3_record.cls yX3_record yX3_record ∈ TW := TW_of 635 (by decide +kernel) (by decide +kernel)
abbrev cX3_giveBack : ByteArray := prog_5_method_3_code
def yX3_giveBack : MethodName := ⟨RX3, "giveBack", "(LTranscriptCutter$Edit;)V"⟩
theorem dX3_giveBack_0 : decode cX3_giveBack 0 = .ok (.aload_n 0, 1) := by decide +kernel
theorem dX3_giveBack_1 : decode cX3_giveBack 1 = .ok (.getfield 26, 3) := by decide +kernel
theorem dX3_giveBack_4 : decode cX3_giveBack 4 = .ok (.ifCond .le 42, 3) := by decide +kernel
theorem dX3_giveBack_7 : decode cX3_giveBack 7 = .ok (.aload_n 0, 1) := by decide +kernel
theorem dX3_giveBack_8 : decode cX3_giveBack 8 = .ok (.aload_n 0, 1) := by decide +kernel
theorem dX3_giveBack_9 : decode cX3_giveBack 9 = .ok (.getfield 18, 3) := by decide +kernel
theorem dX3_giveBack_12 : decode cX3_giveBack 12 = .ok (.bipush 12, 2) := by decide +kernel
theorem dX3_giveBack_14 : decode cX3_giveBack 14 = .ok (.iadd, 1) := by decide +kernel
theorem dX3_giveBack_15 : decode cX3_giveBack 15 = .ok (.iconst 1, 1) := by decide +kernel
theorem dX3_giveBack_16 : decode cX3_giveBack 16 = .ok (.isub, 1) := by decide +kernel
theorem dX3_giveBack_17 : decode cX3_giveBack 17 = .ok (.bipush 12, 2) := by decide +kernel
theorem dX3_giveBack_19 : decode cX3_giveBack 19 = .ok (.irem, 1) := by decide +kernel
theorem dX3_giveBack_20 : decode cX3_giveBack 20 = .ok (.putfield 18, 3) := by decide +kernel
theorem dX3_giveBack_23 : decode cX3_giveBack 23 = .ok (.aload_n 1, 1) := by decide +kernel
theorem dX3_giveBack_24 : decode cX3_giveBack 24 = .ok (.aload_n 0, 1) := by decide +kernel
theorem dX3_giveBack_25 : decode cX3_giveBack 25 = .ok (.getfield 11, 3) := by decide +kernel
theorem dX3_giveBack_28 : decode cX3_giveBack 28 = .ok (.aload_n 0, 1) := by decide +kernel
theorem dX3_giveBack_29 : decode cX3_giveBack 29 = .ok (.getfield 18, 3) := by decide +kernel
theorem dX3_giveBack_32 : decode cX3_giveBack 32 = .ok (.aaload, 1) := by decide +kernel
theorem dX3_giveBack_33 : decode cX3_giveBack 33 = .ok (.invokevirtual 22, 3) := by decide +kernel
theorem dX3_giveBack_36 : decode cX3_giveBack 36 = .ok (.aload_n 0, 1) := by decide +kernel
theorem dX3_giveBack_37 : decode cX3_giveBack 37 = .ok (.dup, 1) := by decide +kernel
theorem dX3_giveBack_38 : decode cX3_giveBack 38 = .ok (.getfield 26, 3) := by decide +kernel
theorem dX3_giveBack_41 : decode cX3_giveBack 41 = .ok (.iconst 1, 1) := by decide +kernel
theorem dX3_giveBack_42 : decode cX3_giveBack 42 = .ok (.isub, 1) := by decide +kernel
theorem dX3_giveBack_43 : decode cX3_giveBack 43 = .ok (.putfield 26, 3) := by decide +kernel
theorem dX3_giveBack_46 : decode cX3_giveBack 46 = .ok (.return_, 1) := by decide +kernel
theorem ci_X3_giveBack : Cond.instanceMethod yX3_giveBack ∈ TW := TW_of 758 (by decide +kernel) (by decide +kernel)
theorem cs_X3_giveBack : Cond.selects yX3_giveBack.cls yX3_giveBack yX3_giveBack ∈ TW := TW_of 759 (by decide +kernel) (by decide +kernel)
theorem cw_X3_22 : CWd RX3 22 yX0_copyFrom cX0_copyFrom 3 none 1 := ⟨TW_of 637 (by decide +kernel) (by decide +kernel), TW_of 640 (by decide +kernel) (by decide +kernel), TW_of 107 (by decide +kernel) (by decide +kernel), by decide +kernel⟩
theorem ml_X3_29 : Cond.methodLink RX3 29 Lib.Math.min.name ∈ TW := TW_of 641 (by decide +kernel) (by decide +kernel)
set_option maxRecDepth 20000 in
set_option maxHeartbeats 1000000 in
theorem c_X3_record {l : Launch} {Z : ZT} {g : Hp} {h : Hp} {p1 : Nat} (hk_p1 : knd p1 = 0) {out : Hp} (hf : f_X3_record h p1 = some out) : Met l yX3_record (wY yX3_record cX3_record 2 none) (rmD 1) (va_Pc [.ref (Z.1 13), .ref (Z.1 p1)] (Wd Z h g)) (va_Qv (fun (_ : Unit) => True) (fun _ => Wd Z out g) (FR Z)) 0 0 (FR Z) := by
  refine metX RX3 rfl (by decide +kernel) (Nat.le_of_ble_eq_true rfl) ?_
  intro p e s m args below meth c C hW ls hl
  have hl : lv_has ls 2 [(0, .ref (Z.1 13)), (1, .ref (Z.1 p1))] := hl
  unfold f_X3_record at hf
  refine lv_aload_n C.1 C.2.1 dX3_record_0 rfl (lv_at hl 0 rfl) ?_
  refine xg_X3_11 C hW (k_13) dX3_record_1 ?_
  refine lv_aload_n C.1 C.2.1 dX3_record_4 rfl (lv_at hl 0 rfl) ?_
  refine xg_X3_18 C hW (k_13) dX3_record_5 ?_
  refine x_aald C hW hf dX3_record_8 (fun q1 hk_q1 hf => ?_)
  refine lv_aload_n C.1 C.2.1 dX3_record_9 rfl (lv_at hl 1 rfl) ?_
  obtain ⟨u2, hcu2, hf⟩ := bnd_t hf
  refine x_callv hW (x_runV C hW hl (wk0 hk_q1) rfl rfl (c_X0_copyFrom hk_q1 hk_p1 hcu2) (cw_X3_22) ci_X0_copyFrom cs_X0_copyFrom (rm_ok (by decide) (by decide)) ⟨Nat.le_refl _, Nat.le_refl _⟩ (As := [.ref (Z.1 p1)]) rfl rfl (Nat.le_of_ble_eq_true rfl) dX3_record_10) (fun H locs hW => ?_)
  refine lv_aload_n C.1 C.2.1 dX3_record_13 rfl (lv_at hl 0 rfl) ?_
  refine lv_aload_n C.1 C.2.1 dX3_record_14 rfl (lv_at hl 0 rfl) ?_
  refine xg_X3_18 C hW (k_13) dX3_record_15 ?_
  refine lv_iconst (v := 1) C.1 C.2.1 dX3_record_18 (by decide) ?_
  refine lv_iadd C.1 C.2.1 dX3_record_19 ?_
  refine lv_bipush (v := 12) C.1 C.2.1 dX3_record_20 (by decide) ?_
  refine lv_irem C.1 C.2.1 dX3_record_22 (by decide) ?_
  refine xp_X3_18 C hW (k_13) hf dX3_record_23 (fun h3 H locs hf hW => ?_)
  refine lv_aload_n C.1 C.2.1 dX3_record_26 rfl (lv_at hl 0 rfl) ?_
  refine lv_aload_n C.1 C.2.1 dX3_record_27 rfl (lv_at hl 0 rfl) ?_
  refine xg_X3_26 C hW (k_13) dX3_record_28 ?_
  refine lv_iconst (v := 1) C.1 C.2.1 dX3_record_31 (by decide) ?_
  refine lv_iadd C.1 C.2.1 dX3_record_32 ?_
  refine lv_bipush (v := 12) C.1 C.2.1 dX3_record_33 (by decide) ?_
  refine x_min C hl (ml_X3_29) (by decide) ⟨Nat.le_refl _, Nat.le_refl _⟩ (Nat.le_of_ble_eq_true rfl) dX3_record_35 ?_
  refine xp_X3_26 C hW (k_13) hf dX3_record_38 (fun h4 H locs hf hW => ?_)
  obtain rfl := Option.some.inj hf
  exact x_vret C hW dX3_record_41 trivial
set_option maxRecDepth 20000 in
set_option maxHeartbeats 1000000 in
theorem c_X3_giveBack {l : Launch} {Z : ZT} {g : Hp} {h : Hp} {p1 : Nat} (hk_p1 : knd p1 = 0) {out : Hp} (hf : f_X3_giveBack h p1 = some out) : Met l yX3_giveBack (wY yX3_giveBack cX3_giveBack 2 none) (rmD 1) (va_Pc [.ref (Z.1 13), .ref (Z.1 p1)] (Wd Z h g)) (va_Qv (fun (_ : Unit) => True) (fun _ => Wd Z out g) (FR Z)) 0 0 (FR Z) := by
  refine metX RX3 rfl (by decide +kernel) (Nat.le_of_ble_eq_true rfl) ?_
  intro p e s m args below meth c C hW ls hl
  have hl : lv_has ls 2 [(0, .ref (Z.1 13)), (1, .ref (Z.1 p1))] := hl
  unfold f_X3_giveBack at hf
  refine lv_aload_n C.1 C.2.1 dX3_giveBack_0 rfl (lv_at hl 0 rfl) ?_
  refine xg_X3_26 C hW (k_13) dX3_giveBack_1 ?_
  refine x_ifle (tgt := 46) C hf dX3_giveBack_4 (by decide) (fun hf => ?_) (fun hf => ?_)
  · obtain rfl := Option.some.inj hf
    exact x_vret C hW dX3_giveBack_46 trivial
  · refine lv_aload_n C.1 C.2.1 dX3_giveBack_7 rfl (lv_at hl 0 rfl) ?_
    refine lv_aload_n C.1 C.2.1 dX3_giveBack_8 rfl (lv_at hl 0 rfl) ?_
    refine xg_X3_18 C hW (k_13) dX3_giveBack_9 ?_
    refine lv_bipush (v := 12) C.1 C.2.1 dX3_giveBack_12 (by decide) ?_
    refine lv_iadd C.1 C.2.1 dX3_giveBack_14 ?_
    refine lv_iconst (v := 1) C.1 C.2.1 dX3_giveBack_15 (by decide) ?_
    refine lv_isub C.1 C.2.1 dX3_giveBack_16 ?_
    refine lv_bipush (v := 12) C.1 C.2.1 dX3_giveBack_17 (by decide) ?_
    refine lv_irem C.1 C.2.1 dX3_giveBack_19 (by decide) ?_
    refine xp_X3_18 C hW (k_13) hf dX3_giveBack_20 (fun h1 H locs hf hW => ?_)
    refine lv_aload_n C.1 C.2.1 dX3_giveBack_23 rfl (lv_at hl 1 rfl) ?_
    refine lv_aload_n C.1 C.2.1 dX3_giveBack_24 rfl (lv_at hl 0 rfl) ?_
    refine xg_X3_11 C hW (k_13) dX3_giveBack_25 ?_
    refine lv_aload_n C.1 C.2.1 dX3_giveBack_28 rfl (lv_at hl 0 rfl) ?_
    refine xg_X3_18 C hW (k_13) dX3_giveBack_29 ?_
    refine x_aald C hW hf dX3_giveBack_32 (fun q2 hk_q2 hf => ?_)
    obtain ⟨u3, hcu3, hf⟩ := bnd_t hf
    refine x_callv hW (x_runV C hW hl (wk0 hk_p1) rfl rfl (c_X0_copyFrom hk_p1 hk_q2 hcu3) (cw_X3_22) ci_X0_copyFrom cs_X0_copyFrom (rm_ok (by decide) (by decide)) ⟨Nat.le_refl _, Nat.le_refl _⟩ (As := [.ref (Z.1 q2)]) rfl rfl (Nat.le_of_ble_eq_true rfl) dX3_giveBack_33) (fun H locs hW => ?_)
    refine lv_aload_n C.1 C.2.1 dX3_giveBack_36 rfl (lv_at hl 0 rfl) ?_
    refine lv_dup C.1 C.2.1 dX3_giveBack_37 rfl ?_
    refine xg_X3_26 C hW (k_13) dX3_giveBack_38 ?_
    refine lv_iconst (v := 1) C.1 C.2.1 dX3_giveBack_41 (by decide) ?_
    refine lv_isub C.1 C.2.1 dX3_giveBack_42 ?_
    refine xp_X3_26 C hW (k_13) hf dX3_giveBack_43 (fun h4 H locs hf hW => ?_)
    obtain rfl := Option.some.inj hf
    exact x_vret C hW dX3_giveBack_46 trivial
