abbrev cscoder : ByteArray := prog_26_method_152_code
def yscoder : MethodName := ⟨"java/lang/String", "coder", "()B"⟩
theorem dscoder_0 : decode cscoder 0 = .ok (.getstatic 38, 3) := by decide +kernel
theorem dscoder_3 : decode cscoder 3 = .ok (.ifCond .eq 10, 3) := by decide +kernel
theorem dscoder_6 : decode cscoder 6 = .ok (.aload_n 0, 1) := by decide +kernel
theorem dscoder_7 : decode cscoder 7 = .ok (.getfield 15, 3) := by decide +kernel
theorem dscoder_10 : decode cscoder 10 = .ok (.goto 4, 3) := by decide +kernel
theorem dscoder_13 : decode cscoder 13 = .ok (.iconst 1, 1) := by decide +kernel
theorem dscoder_14 : decode cscoder 14 = .ok (.ireturn, 1) := by decide +kernel
theorem tin_coder : Cond.instanceMethod yscoder ∈ TW := TW_of 517 (by decide +kernel) (by decide +kernel)
theorem tse_coder : Cond.selects yscoder.cls yscoder yscoder ∈ TW := TW_of 518 (by decide +kernel) (by decide +kernel)
abbrev csisLatin1 : ByteArray := prog_26_method_154_code
def ysisLatin1 : MethodName := ⟨"java/lang/String", "isLatin1", "()Z"⟩
theorem dsisLatin1_0 : decode csisLatin1 0 = .ok (.getstatic 38, 3) := by decide +kernel
theorem dsisLatin1_3 : decode csisLatin1 3 = .ok (.ifCond .eq 14, 3) := by decide +kernel
theorem dsisLatin1_6 : decode csisLatin1 6 = .ok (.aload_n 0, 1) := by decide +kernel
theorem dsisLatin1_7 : decode csisLatin1 7 = .ok (.getfield 15, 3) := by decide +kernel
theorem dsisLatin1_10 : decode csisLatin1 10 = .ok (.ifCond .ne 7, 3) := by decide +kernel
theorem dsisLatin1_13 : decode csisLatin1 13 = .ok (.iconst 1, 1) := by decide +kernel
theorem dsisLatin1_14 : decode csisLatin1 14 = .ok (.goto 4, 3) := by decide +kernel
theorem dsisLatin1_17 : decode csisLatin1 17 = .ok (.iconst 0, 1) := by decide +kernel
theorem dsisLatin1_18 : decode csisLatin1 18 = .ok (.ireturn, 1) := by decide +kernel
theorem tin_isLatin1 : Cond.instanceMethod ysisLatin1 ∈ TW := TW_of 874 (by decide +kernel) (by decide +kernel)
theorem tse_isLatin1 : Cond.selects ysisLatin1.cls ysisLatin1 ysisLatin1 ∈ TW := TW_of 875 (by decide +kernel) (by decide +kernel)
abbrev cslength : ByteArray := prog_26_method_54_code
def yslength : MethodName := ⟨"java/lang/String", "length", "()I"⟩
theorem dslength_0 : decode cslength 0 = .ok (.aload_n 0, 1) := by decide +kernel
theorem dslength_1 : decode cslength 1 = .ok (.getfield 9, 3) := by decide +kernel
theorem dslength_4 : decode cslength 4 = .ok (.arraylength, 1) := by decide +kernel
theorem dslength_5 : decode cslength 5 = .ok (.aload_n 0, 1) := by decide +kernel
theorem dslength_6 : decode cslength 6 = .ok (.invokevirtual 335, 3) := by decide +kernel
theorem dslength_9 : decode cslength 9 = .ok (.ishr, 1) := by decide +kernel
theorem dslength_10 : decode cslength 10 = .ok (.ireturn, 1) := by decide +kernel
theorem tin_length : Cond.instanceMethod yslength ∈ TW := TW_of 513 (by decide +kernel) (by decide +kernel)
theorem tse_length : Cond.selects yslength.cls yslength yslength ∈ TW := TW_of 514 (by decide +kernel) (by decide +kernel)
abbrev cscheckIndex : ByteArray := prog_26_method_155_code
def yscheckIndex : MethodName := ⟨"java/lang/String", "checkIndex", "(II)V"⟩
theorem dscheckIndex_0 : decode cscheckIndex 0 = .ok (.iload_n 0, 1) := by decide +kernel
theorem dscheckIndex_1 : decode cscheckIndex 1 = .ok (.iload_n 1, 1) := by decide +kernel
theorem dscheckIndex_2 : decode cscheckIndex 2 = .ok (.getstatic 1053, 3) := by decide +kernel
theorem dscheckIndex_5 : decode cscheckIndex 5 = .ok (.invokestatic 1059, 3) := by decide +kernel
theorem dscheckIndex_8 : decode cscheckIndex 8 = .ok (.pop, 1) := by decide +kernel
theorem dscheckIndex_9 : decode cscheckIndex 9 = .ok (.return_, 1) := by decide +kernel
theorem tst_checkIndex : Cond.static yscheckIndex ∈ TW := TW_of 573 (by decide +kernel) (by decide +kernel)
abbrev cspcheck : ByteArray := prog_34_method_11_code
def yspcheck : MethodName := ⟨"jdk/internal/util/Preconditions", "checkIndex", "(IILjava/util/function/BiFunction;)I"⟩
theorem dspcheck_0 : decode cspcheck 0 = .ok (.iload_n 0, 1) := by decide +kernel
theorem dspcheck_1 : decode cspcheck 1 = .ok (.ifCond .lt 8, 3) := by decide +kernel
theorem dspcheck_4 : decode cspcheck 4 = .ok (.iload_n 0, 1) := by decide +kernel
theorem dspcheck_5 : decode cspcheck 5 = .ok (.iload_n 1, 1) := by decide +kernel
theorem dspcheck_6 : decode cspcheck 6 = .ok (.if_icmp .lt 10, 3) := by decide +kernel
theorem dspcheck_9 : decode cspcheck 9 = .ok (.aload_n 2, 1) := by decide +kernel
theorem dspcheck_10 : decode cspcheck 10 = .ok (.iload_n 0, 1) := by decide +kernel
theorem dspcheck_11 : decode cspcheck 11 = .ok (.iload_n 1, 1) := by decide +kernel
theorem dspcheck_12 : decode cspcheck 12 = .ok (.invokestatic 95, 3) := by decide +kernel
theorem dspcheck_15 : decode cspcheck 15 = .ok (.athrow, 1) := by decide +kernel
theorem dspcheck_16 : decode cspcheck 16 = .ok (.iload_n 0, 1) := by decide +kernel
theorem dspcheck_17 : decode cspcheck 17 = .ok (.ireturn, 1) := by decide +kernel
theorem tst_pcheck : Cond.static yspcheck ∈ TW := TW_of 576 (by decide +kernel) (by decide +kernel)
abbrev cslchar : ByteArray := prog_28_method_2_code
def yslchar : MethodName := ⟨"java/lang/StringLatin1", "charAt", "([BI)C"⟩
theorem dslchar_0 : decode cslchar 0 = .ok (.iload_n 1, 1) := by decide +kernel
theorem dslchar_1 : decode cslchar 1 = .ok (.aload_n 0, 1) := by decide +kernel
theorem dslchar_2 : decode cslchar 2 = .ok (.arraylength, 1) := by decide +kernel
theorem dslchar_3 : decode cslchar 3 = .ok (.invokestatic 9, 3) := by decide +kernel
theorem dslchar_6 : decode cslchar 6 = .ok (.aload_n 0, 1) := by decide +kernel
theorem dslchar_7 : decode cslchar 7 = .ok (.iload_n 1, 1) := by decide +kernel
theorem dslchar_8 : decode cslchar 8 = .ok (.baload, 1) := by decide +kernel
theorem dslchar_9 : decode cslchar 9 = .ok (.sipush 255, 3) := by decide +kernel
theorem dslchar_12 : decode cslchar 12 = .ok (.iand, 1) := by decide +kernel
theorem dslchar_13 : decode cslchar 13 = .ok (.i2c, 1) := by decide +kernel
theorem dslchar_14 : decode cslchar 14 = .ok (.ireturn, 1) := by decide +kernel
theorem tst_lchar : Cond.static yslchar ∈ TW := TW_of 878 (by decide +kernel) (by decide +kernel)
abbrev cscharAt : ByteArray := prog_26_method_56_code
def yscharAt : MethodName := ⟨"java/lang/String", "charAt", "(I)C"⟩
theorem dscharAt_0 : decode cscharAt 0 = .ok (.aload_n 0, 1) := by decide +kernel
theorem dscharAt_1 : decode cscharAt 1 = .ok (.invokevirtual 492, 3) := by decide +kernel
theorem dscharAt_4 : decode cscharAt 4 = .ok (.ifCond .eq 12, 3) := by decide +kernel
theorem dscharAt_7 : decode cscharAt 7 = .ok (.aload_n 0, 1) := by decide +kernel
theorem dscharAt_8 : decode cscharAt 8 = .ok (.getfield 9, 3) := by decide +kernel
theorem dscharAt_11 : decode cscharAt 11 = .ok (.iload_n 1, 1) := by decide +kernel
theorem dscharAt_12 : decode cscharAt 12 = .ok (.invokestatic 495, 3) := by decide +kernel
theorem dscharAt_15 : decode cscharAt 15 = .ok (.ireturn, 1) := by decide +kernel
theorem dscharAt_16 : decode cscharAt 16 = .ok (.aload_n 0, 1) := by decide +kernel
theorem dscharAt_17 : decode cscharAt 17 = .ok (.getfield 9, 3) := by decide +kernel
theorem dscharAt_20 : decode cscharAt 20 = .ok (.iload_n 1, 1) := by decide +kernel
theorem dscharAt_21 : decode cscharAt 21 = .ok (.invokestatic 498, 3) := by decide +kernel
theorem dscharAt_24 : decode cscharAt 24 = .ok (.ireturn, 1) := by decide +kernel
theorem tin_charAt : Cond.instanceMethod yscharAt ∈ TW := TW_of 870 (by decide +kernel) (by decide +kernel)
theorem tse_charAt : Cond.selects yscharAt.cls yscharAt yscharAt ∈ TW := TW_of 871 (by decide +kernel) (by decide +kernel)
theorem cws_coder_335 : CWd "java/lang/String" 335 yscoder cscoder 1 (some .byte) 0 := ⟨TW_of 516 (by decide +kernel) (by decide +kernel), TW_of 519 (by decide +kernel) (by decide +kernel), TW_of 28 (by decide +kernel) (by decide +kernel), by decide +kernel⟩
theorem cws_isLatin1_492 : CWd "java/lang/String" 492 ysisLatin1 csisLatin1 1 (some .boolean) 0 := ⟨TW_of 873 (by decide +kernel) (by decide +kernel), TW_of 876 (by decide +kernel) (by decide +kernel), TW_of 28 (by decide +kernel) (by decide +kernel), by decide +kernel⟩
theorem cws_lchar_495 : CWd "java/lang/String" 495 yslchar cslchar 2 (some .char) 2 := ⟨TW_of 877 (by decide +kernel) (by decide +kernel), TW_of 879 (by decide +kernel) (by decide +kernel), TW_of 35 (by decide +kernel) (by decide +kernel), by decide +kernel⟩
theorem cws_checkIndex_9 : CWd "java/lang/StringLatin1" 9 yscheckIndex cscheckIndex 2 none 2 := ⟨TW_of 880 (by decide +kernel) (by decide +kernel), TW_of 574 (by decide +kernel) (by decide +kernel), TW_of 28 (by decide +kernel) (by decide +kernel), by decide +kernel⟩
theorem cws_pcheck_1059 : CWd "java/lang/String" 1059 yspcheck cspcheck 3 (some .int) 3 := ⟨TW_of 575 (by decide +kernel) (by decide +kernel), TW_of 577 (by decide +kernel) (by decide +kernel), TW_of 34 (by decide +kernel) (by decide +kernel), by decide +kernel⟩
theorem cw_J5_32 : CWd RJ5 32 yslength cslength 1 (some .int) 0 := ⟨TW_of 512 (by decide +kernel) (by decide +kernel), TW_of 515 (by decide +kernel) (by decide +kernel), TW_of 28 (by decide +kernel) (by decide +kernel), by decide +kernel⟩
theorem cw_X9_51 : CWd RX9 51 yslength cslength 1 (some .int) 0 := ⟨TW_of 868 (by decide +kernel) (by decide +kernel), TW_of 515 (by decide +kernel) (by decide +kernel), TW_of 28 (by decide +kernel) (by decide +kernel), by decide +kernel⟩
theorem cw_X9_56 : CWd RX9 56 yscharAt cscharAt 2 (some .char) 1 := ⟨TW_of 869 (by decide +kernel) (by decide +kernel), TW_of 872 (by decide +kernel) (by decide +kernel), TW_of 28 (by decide +kernel) (by decide +kernel), by decide +kernel⟩
theorem cw_L_84 : CWd RL 84 yslength cslength 1 (some .int) 0 := ⟨TW_of 1291 (by decide +kernel) (by decide +kernel), TW_of 515 (by decide +kernel) (by decide +kernel), TW_of 28 (by decide +kernel) (by decide +kernel), by decide +kernel⟩
theorem cw_L_102 : CWd RL 102 yscharAt cscharAt 2 (some .char) 1 := ⟨TW_of 1295 (by decide +kernel) (by decide +kernel), TW_of 872 (by decide +kernel) (by decide +kernel), TW_of 28 (by decide +kernel) (by decide +kernel), by decide +kernel⟩
theorem fs_38 : Cond.fieldLink "java/lang/String" 38 "java/lang/String" "COMPACT_STRINGS" "Z" ∈ TW := TW_of 520 (by decide +kernel) (by decide +kernel)
theorem fs_15 : Cond.fieldLink "java/lang/String" 15 "java/lang/String" "coder" "B" ∈ TW := TW_of 725 (by decide +kernel) (by decide +kernel)
theorem fs_9 : Cond.fieldLink "java/lang/String" 9 "java/lang/String" "value" "[B" ∈ TW := TW_of 724 (by decide +kernel) (by decide +kernel)
theorem fs_1053 : Cond.fieldLink "java/lang/String" 1053 "jdk/internal/util/Preconditions" "SIOOBE_FORMATTER" "Ljava/util/function/BiFunction;" ∈ TW := TW_of 498 (by decide +kernel) (by decide +kernel)

theorem okS_lt {i : Nat} (h : okS i = true) : i < NS := by
  have h1 : ∀ x ∈ okL, x < NS := by decide
  exact h1 i (List.contains_iff_mem.mp h)
section XT
variable {p : Program} {l : Launch} {e : Env} {R : Room} {s : State} {m : MethodId} {args : Array Value} {below : List Frame} {meth : Method} {c : Code} {H : Heap} {locs : List Loc} {cells slots : Nat} {Q : State → Prop} {cc bytes : ByteArray} {pc nL maxL n idx i : Nat} {ret rt : Option FieldType} {ls : Array Slot} {rest st As : List Value} {Z : ZT} {h h1 : Hp} {g g1 : va_W} {own : String} {y : MethodName} {rm : Room} {lv : List (Nat × Value)}
theorem x_nret {x : Int32} {ty : FieldType} {post : Int32 → Unit → Prop} (C : CX p s m args meth c cc own nL (some ty) Z g) (hW : XW Z h g s.heap H locs) (hn : narrow ty (.int x) = .int x) (hd : decode cc pc = .ok (.ireturn, 1)) (hp : post x ()) : W p l e R s m args below meth c H locs cells slots (MQ below (va_Qi post (fun _ => Wd Z h g) (FR Z)) args s cells slots (FR Z)) (F0 m pc ls [.int x]) :=
  W.zret C.1 C.2.1 C.2.2.2.2.2.1 hn (fun t ht hw => ⟨⟨x, (), rfl, hp, by rw [ht]; exact hW.1, va_K.moved hw.alike C.2.2.2.2.2.2.2.1, C.2.2.2.2.2.2.2.2.1, by rw [ht]; exact Nat.le_trans C.2.2.2.2.2.2.2.2.2.1 hW.2.1, by rw [ht]; exact C.2.2.2.2.2.2.2.2.2.2.to hW.2 hw⟩, hW.2.F ht⟩) hW.2.2.2 hd C.2.2.2.2.2.2.1
theorem x_runT (C : CX p s m args meth c cc own nL ret Z g) (hW : XW Z h g s.heap H locs) (hl : lv_has ls nL lv) {Qc : Array Value → State → Outcome → State → Prop} (hi : okS i = true) (hcn : y.cls = "java/lang/String")
    (hm : Met l y (wY y bytes maxL rt) rm (va_Pc (.ref (Z.2.2.2.2 (2 * i)) :: As) (Wd Z h g)) Qc 0 0 (FR Z)) (hw : CWd own idx y bytes maxL rt n) (hin : Cond.instanceMethod y ∈ TW) (hs : Cond.selects y.cls y y ∈ TW) (hr : RmOk rm R maxL) (hcs : cells ≤ R.cells ∧ slots ≤ R.slots) (hn : As.length = n) (hst : st = As.reverse ++ .ref (Z.2.2.2.2 (2 * i)) :: rest) (hcat : (rest.map fun v => v.category).sum ≤ 8) (hd : decode cc pc = .ok (.invokevirtual idx, 3)) :
    va_Run p l e R s m args below meth c H locs cells slots 0 0 (F0 m pc ls st) rest (Qc (Value.ref (Z.2.2.2.2 (2 * i)) :: As).toArray) (FR Z) := by
  have hts := C.2.2.1
  obtain ⟨cell, q1, q2, q3, -⟩ := (C.2.2.2.2.2.2.2.2.2.2.1 i hi).1.kept hW.2.2.1
  refine va_runV (bytes := bytes) (maxL := maxL) (ret := rt) (As := As) (rest := rest) (b := Z.2.2.2.2 (2 * i)) (C := "java/lang/String") (n := n) ⟨C.1, C.2.1, C.2.2.2.2.1, C.2.2.2.1, hts⟩ hm ?_ ⟨Wd_blind, ⟨cell, q1, q2, q3⟩, (x_pre C hW).2⟩ rfl hn hl.1 hst (lv_room hcat) hd ⟨hcs.1, hcs.2⟩
  have q : Cond.selects "java/lang/String" y y ∈ TW := by rw [← hcn]; exact hs
  exact ⟨callB_of n hts (wY_good hw.2.1) rfl hr.1 hr.2.1 (hts _ hw.2.2.1) (hts _ hw.1) hw.2.2.2 hr.2.2, hts _ hin, hts _ q⟩
theorem x_ldcS (C : CX p s m args meth c cc own nL ret Z g) {index : Nat} {t : String} (hm : (own, index, t, i) ∈ strs) (hd : decode cc pc = .ok (.ldc index, 2)) (k : W p l e R s m args below meth c H locs cells slots Q (F0 m (pc + 2) ls (.ref (Z.2.2.2.2 (2 * i)) :: rest))) : W p l e R s m args below meth c H locs cells slots Q (F0 m pc ls rest) :=
  va_ldcS C.1 C.2.1 C.2.2.2.1 (C.2.2.2.2.2.2.2.2.2.2.2.1 _ hm) hd k
end XT
abbrev PTx (l : Launch) (y : MethodName) (b : ByteArray) (n : Nat) (r : Option FieldType) (k : Nat) (As : List Value) (Z : ZT) (h : Hp) (g : va_W) (v : Int32) : Prop := Met l y (wY y b n r) (rmD k) (va_Pc As (Wd Z h g)) (va_Qi (fun r (_ : Unit) => r = v) (fun _ => Wd Z h g) (FR Z)) 0 0 (FR Z)
theorem c_coder {l : Launch} {Z : ZT} {h : Hp} {g : va_W} {i : Nat} (hi : okS i = true) : PTx l yscoder cscoder 1 (some .byte) 0 [.ref (Z.2.2.2.2 (2 * i))] Z h g 0 := by
  refine metX "java/lang/String" rfl (by decide +kernel) (Nat.le_of_ble_eq_true rfl) ?_
  intro p e s m args below meth c C hW ls hl
  have hl : lv_has ls 1 [(0, .ref (Z.2.2.2.2 (2 * i)))] := hl
  have S := C.2.2.2.2.2.2.2.2.2.2
  refine va_gets C.1 C.2.1 S.2.2.1 hW.2 C.2.2.2.1 (C.2.2.1 _ fs_38) (fun _ q => q) dscoder_0 ?_
  refine lv_if_eq (tgt := 13) C.1 C.2.1 dscoder_3 (by decide) (fun q => absurd q (by decide)) (fun _ => ?_)
  refine lv_aload_n C.1 C.2.1 dscoder_6 rfl (lv_at hl 0 rfl) ?_
  refine vk_getf C.1 C.2.1 (S.1 i hi).2.1 hW.2 C.2.2.2.1 (C.2.2.1 _ fs_15) (fun _ q => q) dscoder_7 ?_
  refine lv_goto (tgt := 14) C.1 C.2.1 dscoder_10 (by decide) ?_
  exact x_nret C hW rfl dscoder_14 rfl
theorem c_isLatin1 {l : Launch} {Z : ZT} {h : Hp} {g : va_W} {i : Nat} (hi : okS i = true) : PTx l ysisLatin1 csisLatin1 1 (some .boolean) 0 [.ref (Z.2.2.2.2 (2 * i))] Z h g 1 := by
  refine metX "java/lang/String" rfl (by decide +kernel) (Nat.le_of_ble_eq_true rfl) ?_
  intro p e s m args below meth c C hW ls hl
  have hl : lv_has ls 1 [(0, .ref (Z.2.2.2.2 (2 * i)))] := hl
  have S := C.2.2.2.2.2.2.2.2.2.2
  refine va_gets C.1 C.2.1 S.2.2.1 hW.2 C.2.2.2.1 (C.2.2.1 _ fs_38) (fun _ q => q) dsisLatin1_0 ?_
  refine lv_if_eq (tgt := 17) C.1 C.2.1 dsisLatin1_3 (by decide) (fun q => absurd q (by decide)) (fun _ => ?_)
  refine lv_aload_n C.1 C.2.1 dsisLatin1_6 rfl (lv_at hl 0 rfl) ?_
  refine vk_getf C.1 C.2.1 (S.1 i hi).2.1 hW.2 C.2.2.2.1 (C.2.2.1 _ fs_15) (fun _ q => q) dsisLatin1_7 ?_
  refine lv_if_ne (tgt := 17) C.1 C.2.1 dsisLatin1_10 (by decide) (fun q => absurd rfl q) (fun _ => ?_)
  refine lv_iconst (v := 1) C.1 C.2.1 dsisLatin1_13 (by decide) ?_
  refine lv_goto (tgt := 18) C.1 C.2.1 dsisLatin1_14 (by decide) ?_
  exact x_nret C hW rfl dsisLatin1_18 rfl
theorem c_length {l : Launch} {Z : ZT} {h : Hp} {g : va_W} {i : Nat} (hi : okS i = true) : PTx l yslength cslength 1 (some .int) 1 [.ref (Z.2.2.2.2 (2 * i))] Z h g (nI (tl i)) := by
  refine metX "java/lang/String" rfl (by decide +kernel) (Nat.le_of_ble_eq_true rfl) ?_
  intro p e s m args below meth c C hW ls hl
  have hl : lv_has ls 1 [(0, .ref (Z.2.2.2.2 (2 * i)))] := hl
  have S := C.2.2.2.2.2.2.2.2.2.2
  refine lv_aload_n C.1 C.2.1 dslength_0 rfl (lv_at hl 0 rfl) ?_
  refine vk_getf C.1 C.2.1 (S.1 i hi).2.2.1 hW.2 C.2.2.2.1 (C.2.2.1 _ fs_9) (fun _ q => q) dslength_1 ?_
  refine va_tlen C.1 C.2.1 (S.1 i hi).2.2.2 hW.2 rfl dslength_4 ?_
  refine lv_aload_n C.1 C.2.1 dslength_5 rfl (lv_at hl 0 rfl) ?_
  refine x_calli hW (x_runT C hW hl hi rfl (c_coder hi) cws_coder_335 tin_coder tse_coder (rm_ok (by decide) (by decide)) ⟨Nat.le_refl _, Nat.le_refl _⟩ (As := []) rfl rfl (Nat.le_of_ble_eq_true rfl) dslength_6) (fun H locs hW => ?_)
  refine lv_ishr C.1 C.2.1 dslength_9 ?_
  exact x_iret C hW dslength_10 (by
    have h1 : ∀ i, i < NS → nI (tl i) >>> ((0 : Int32) &&& 31) = nI (tl i) := by decide +kernel
    exact h1 i (okS_lt hi))
theorem c_pcheck {l : Launch} {Z : ZT} {h : Hp} {g : va_W} {k n : Nat} {v : Value} (hv : v = .null ∨ ∃ t, v = .ref t) (hk : k < n) (hn : n < 2 ^ 31) : PTx l yspcheck cspcheck 3 (some .int) 0 [.int (nI k), .int (nI n), v] Z h g (nI k) := by
  refine metX "jdk/internal/util/Preconditions" rfl (by decide +kernel) (by rcases hv with rfl | ⟨t, rfl⟩ <;> exact Nat.le_of_ble_eq_true rfl) ?_
  intro p e s m args below meth c C hW ls hl
  have hl : lv_has ls 3 [(0, .int (nI k)), (1, .int (nI n)), (2, v)] := hl
  refine lv_iload_n C.1 C.2.1 dspcheck_0 rfl (lv_at hl 0 rfl) ?_
  refine lv_if_lt (tgt := 9) C.1 C.2.1 dspcheck_1 (by decide) (fun q => absurd q (nI_pos (by omega))) (fun _ => ?_)
  refine lv_iload_n C.1 C.2.1 dspcheck_4 rfl (lv_at hl 0 rfl) ?_
  refine lv_iload_n C.1 C.2.1 dspcheck_5 rfl (lv_at hl 1 rfl) ?_
  refine lv_icmp_lt (tgt := 16) C.1 C.2.1 dspcheck_6 (by decide) (fun _ => ?_) (fun q => absurd (nI_lt hk hn) q)
  refine lv_iload_n C.1 C.2.1 dspcheck_16 rfl (lv_at hl 0 rfl) ?_
  exact x_iret C hW dspcheck_17 rfl
theorem c_checkIndex {l : Launch} {Z : ZT} {h : Hp} {g : va_W} {k n : Nat} (hk : k < n) (hn : n < 2 ^ 31) : Met l yscheckIndex (wY yscheckIndex cscheckIndex 2 none) (rmD 1) (va_Pc [.int (nI k), .int (nI n)] (Wd Z h g)) (va_Qv (fun (_ : Unit) => True) (fun _ => Wd Z h g) (FR Z)) 0 0 (FR Z) := by
  refine metX "java/lang/String" rfl (by decide +kernel) (Nat.le_of_ble_eq_true rfl) ?_
  intro p e s m args below meth c C hW ls hl
  have hl : lv_has ls 2 [(0, .int (nI k)), (1, .int (nI n))] := hl
  have S := C.2.2.2.2.2.2.2.2.2.2
  have go : ∀ v : Value, (v = .null ∨ ∃ t, v = .ref t) → va_Z "jdk/internal/util/Preconditions" "SIOOBE_FORMATTER" "Ljava/util/function/BiFunction;" v (FR Z) s s.heap → W p l e (rmD 1) s m args below meth c s.heap [] 0 0 (MQ below (va_Qv (fun (_ : Unit) => True) (fun _ => Wd Z h g) (FR Z)) args s 0 0 (FR Z)) (F0 m 0 ls []) := by
    intro v hv hz
    refine lv_iload_n C.1 C.2.1 dscheckIndex_0 rfl (lv_at hl 0 rfl) ?_
    refine lv_iload_n C.1 C.2.1 dscheckIndex_1 rfl (lv_at hl 1 rfl) ?_
    refine va_gets C.1 C.2.1 hz hW.2 C.2.2.2.1 (C.2.2.1 _ fs_1053) (fun _ q => q) dscheckIndex_2 ?_
    refine x_calli hW (x_runS C hW hl (c_pcheck hv hk hn) cws_pcheck_1059 tst_pcheck (rm_ok (by decide) (by decide)) ⟨Nat.le_refl _, Nat.le_refl _⟩ (As := [.int (nI k), .int (nI n), v]) rfl rfl (Nat.le_of_ble_eq_true rfl) dscheckIndex_5) (fun H locs hW => ?_)
    refine lv_pop C.1 C.2.1 dscheckIndex_8 rfl ?_
    exact x_vret C hW dscheckIndex_9 trivial
  rcases S.2.2.2.1 with hz | ⟨t, hz⟩
  · exact go _ (Or.inl rfl) hz
  · exact go _ (Or.inr ⟨t, rfl⟩) hz
theorem tb_ok : ∀ i, i < NS → ∀ k, k < tl i → ((tb i k &&& 255).toUInt32 % 65536).toInt32 = tb i k ∧ narrow .char (.int (tb i k)) = .int (tb i k) := by decide +kernel
theorem tl_ok : ∀ i, i < NS → tl i < 2 ^ 31 := by decide +kernel
theorem c_lchar {l : Launch} {Z : ZT} {h : Hp} {g : va_W} {i k : Nat} (hi : okS i = true) (hk : k < tl i) : PTx l yslchar cslchar 2 (some .char) 2 [.ref (Z.2.2.2.2 (2 * i + 1)), .int (nI k)] Z h g (tb i k) := by
  refine metX "java/lang/StringLatin1" rfl (by decide +kernel) (Nat.le_of_ble_eq_true rfl) ?_
  intro p e s m args below meth c C hW ls hl
  have hl : lv_has ls 2 [(0, .ref (Z.2.2.2.2 (2 * i + 1))), (1, .int (nI k))] := hl
  have S := C.2.2.2.2.2.2.2.2.2.2
  have hT := (S.1 i hi).2.2.2
  refine lv_iload_n C.1 C.2.1 dslchar_0 rfl (lv_at hl 1 rfl) ?_
  refine lv_aload_n C.1 C.2.1 dslchar_1 rfl (lv_at hl 0 rfl) ?_
  refine va_tlen C.1 C.2.1 hT hW.2 rfl dslchar_2 ?_
  refine x_callv hW (x_runS C hW hl (c_checkIndex hk (tl_ok i (okS_lt hi))) cws_checkIndex_9 tst_checkIndex (rm_ok (by decide) (by decide)) ⟨Nat.le_refl _, Nat.le_refl _⟩ (As := [.int (nI k), .int (nI (tl i))]) rfl rfl (Nat.le_of_ble_eq_true rfl) dslchar_3) (fun H locs hW => ?_)
  refine lv_aload_n C.1 C.2.1 dslchar_6 rfl (lv_at hl 0 rfl) ?_
  refine lv_iload_n C.1 C.2.1 dslchar_7 rfl (lv_at hl 1 rfl) ?_
  refine va_tb C.1 C.2.1 hT hW.2 (vp_in_nI hk (tl_ok i (okS_lt hi))) (v := .int (tb i k)) (by rw [nI_clamp (Nat.lt_trans hk (tl_ok i (okS_lt hi)))]) dslchar_8 ?_
  refine lv_sipush (v := 255) C.1 C.2.1 dslchar_9 (by decide) ?_
  refine lv_iand C.1 C.2.1 dslchar_12 ?_
  refine lv_i2c C.1 C.2.1 dslchar_13 (tb_ok i (okS_lt hi) k hk).1 ?_
  exact x_nret C hW (tb_ok i (okS_lt hi) k hk).2 dslchar_14 rfl
theorem c_charAt {l : Launch} {Z : ZT} {h : Hp} {g : va_W} {i k : Nat} (hi : okS i = true) (hk : k < tl i) : PTx l yscharAt cscharAt 2 (some .char) 3 [.ref (Z.2.2.2.2 (2 * i)), .int (nI k)] Z h g (tb i k) := by
  refine metX "java/lang/String" rfl (by decide +kernel) (Nat.le_of_ble_eq_true rfl) ?_
  intro p e s m args below meth c C hW ls hl
  have hl : lv_has ls 2 [(0, .ref (Z.2.2.2.2 (2 * i))), (1, .int (nI k))] := hl
  have S := C.2.2.2.2.2.2.2.2.2.2
  refine lv_aload_n C.1 C.2.1 dscharAt_0 rfl (lv_at hl 0 rfl) ?_
  refine x_calli hW (x_runT C hW hl hi rfl (c_isLatin1 hi) cws_isLatin1_492 tin_isLatin1 tse_isLatin1 (rm_ok (by decide) (by decide)) ⟨Nat.le_refl _, Nat.le_refl _⟩ (As := []) rfl rfl (Nat.le_of_ble_eq_true rfl) dscharAt_1) (fun H locs hW => ?_)
  refine lv_if_eq (tgt := 16) C.1 C.2.1 dscharAt_4 (by decide) (fun q => absurd q (by decide)) (fun _ => ?_)
  refine lv_aload_n C.1 C.2.1 dscharAt_7 rfl (lv_at hl 0 rfl) ?_
  refine vk_getf C.1 C.2.1 (S.1 i hi).2.2.1 hW.2 C.2.2.2.1 (C.2.2.1 _ fs_9) (fun _ q => q) dscharAt_8 ?_
  refine lv_iload_n C.1 C.2.1 dscharAt_11 rfl (lv_at hl 1 rfl) ?_
  refine x_calli hW (x_runS C hW hl (c_lchar hi hk) cws_lchar_495 tst_lchar (rm_ok (by decide) (by decide)) ⟨Nat.le_refl _, Nat.le_refl _⟩ (As := [.ref (Z.2.2.2.2 (2 * i + 1)), .int (nI k)]) rfl rfl (Nat.le_of_ble_eq_true rfl) dscharAt_12) (fun H locs hW => ?_)
  exact x_nret C hW (tb_ok i (okS_lt hi) k hk).2 dscharAt_15 rfl

theorem wj_cp : Cond.native arraycopyName ∈ TW ∧ Cond.static arraycopyName ∈ TW ∧ Cond.initialized "java/lang/System" ∈ TW := ⟨TW_of 480 (by decide +kernel) (by decide +kernel), TW_of 479 (by decide +kernel) (by decide +kernel), TW_of 33 (by decide +kernel) (by decide +kernel)⟩

theorem inb_nI {x : Int32} {n : Nat} (h : inb x n = true) : x = nI (ix x) ∧ ix x < n := by
  unfold inb at h
  rw [Bool.and_eq_true, decide_eq_true_eq, decide_eq_true_eq] at h
  refine ⟨?_, h.2⟩
  obtain ⟨j, hj, rfl⟩ := nI_of (Int32.not_lt.mpr h.1)
  unfold ix
  rw [nI_clamp hj]
theorem c_charAtX {l : Launch} {Z : ZT} {h : Hp} {g : va_W} {i : Nat} {x : Int32} (hi : okS i = true) (hx : inb x (tl i) = true) : PTx l yscharAt cscharAt 2 (some .char) 3 [.ref (Z.2.2.2.2 (2 * i)), .int x] Z h g (tb i (ix x)) := by
  obtain ⟨h1, h2⟩ := inb_nI hx
  have h3 := c_charAt (l := l) (Z := Z) (h := h) (g := g) hi h2
  rw [← h1] at h3
  exact h3
section XD
variable {p : Program} {l : Launch} {e : Env} {R : Room} {s : State} {m : MethodId} {args : Array Value} {below : List Frame} {meth : Method} {c : Code} {H : Heap} {locs : List Loc} {cells slots : Nat} {Q : State → Prop} {cc bytes : ByteArray} {pc nL maxL n idx i : Nat} {ret rt : Option FieldType} {ls : Array Slot} {rest st As : List Value} {Z : ZT} {h h1 : Hp} {g g1 : va_W} {own : String} {y : MethodName} {rm : Room} {lv : List (Nat × Value)}
theorem x_copy (C : CX p s m args meth c cc own nL ret Z g) (hW : XW Z h g s.heap H locs) (hl : lv_has ls nL lv) {o1 o2 n1 n2 : Nat} (h1 : arC o1 11 n1 = true) (h2 : arC o2 11 n2 = true) (hk : Cond.methodLink own idx arraycopyName ∈ TW) (hR : 1 ≤ R.frames ∧ 8 + (nativeFrameWords "java/lang/System" "arraycopy" 5 + 11) ≤ R.locals) {sp dp cn : Int32} {α : Type} {K : Hp → Option α} {out : α} (hf : ck (cpok sp dp cn n1 n2) (stp (hcp h o1 o2 sp dp cn) K) = some out) (hd : decode cc pc = .ok (.invokestatic idx, 3)) (kk : ∀ (h1 : Hp) (H1 : Heap) (locs1 : List Loc), K h1 = some out → XW Z h1 g s.heap H1 locs1 → W p l e R s m args below meth c H1 locs1 cells slots Q (F0 m (pc + 3) ls rest)) (hcat : (rest.map fun v => v.category).sum ≤ 8 := by exact Nat.le_of_ble_eq_true rfl) : W p l e R s m args below meth c H locs cells slots Q (F0 m pc ls (.int cn :: .int dp :: .ref (Z.1 o2) :: .int sp :: .ref (Z.1 o1) :: rest)) := by
  obtain ⟨hc, hf⟩ := ck_t hf
  unfold cpok at hc
  simp only [Bool.and_eq_true, decide_eq_true_eq] at hc
  obtain ⟨⟨⟨⟨q1, q2⟩, q3⟩, q4⟩, q5⟩ := hc
  obtain ⟨k1, k2, k3⟩ := arC_k h2
  have hs : (wl Z h g).set o2 (Z.1 o2, .inl (Z.2.2.1 1, n2, .inl (va_cpy (h o1) (h o2) sp.toNatClampNeg dp.toNatClampNeg cn.toNatClampNeg))) = wl Z (hcp h o1 o2 sp dp cn) g := by
    refine wl_set k3 ?_ (fun j hj => ?_)
    · rw [cel_k k1, ← k2]
      show celK Z (if o2 = o2 then _ else _) o2 11 = _
      rw [if_pos rfl]
      rfl
    · exact if_neg hj
  exact va_copyi C.1 C.2.1 (C.2.2.2.2.1.trans hl.1.symm) C.2.2.2.1 (C.2.2.1 _ hk) (C.2.2.1 _ wj_cp.1) (C.2.2.1 _ wj_cp.2.1) (C.2.2.1 _ wj_cp.2.2) C.2.2.2.2.2.2.2.1 hW.1 (wl_D C.2.2.2.2.2.2.2.2.1) hW.2 o1 o2 1 1 (wr11C h1) (wr11C h2) (ty := .int) rfl rfl rfl (Int32.not_lt.mpr q1) (Int32.not_lt.mpr q2) (Int32.not_lt.mpr q3) q4 q5 (fun _ _ => rfl) hR.1 (by omega) hd (fun H1 locs1 a _ b => kk _ H1 locs1 hf ⟨by rw [← hs]; exact a, b⟩)
theorem x_aret {o : Nat} {C' : String} (C : CX p s m args meth c cc own nL ret Z g) (hW : XW Z h g s.heap H locs) (hr : ret = some (.object C')) (hd : decode cc pc = .ok (.areturn, 1)) : W p l e R s m args below meth c H locs cells slots (MQ below (va_Qr (fun (_ : Unit) => True) (fun _ a t => a = Z.1 o ∧ Wd Z h g t) (FR Z)) args s cells slots (FR Z)) (F0 m pc ls [.ref (Z.1 o)]) :=
  W.aret C.1 C.2.1 (C.2.2.2.2.2.1.trans hr) (Or.inl ⟨_, rfl⟩) (Or.inr ⟨_, rfl⟩) (fun t ht hw => ⟨⟨(), Z.1 o, rfl, trivial, rfl, by rw [ht]; exact hW.1, va_K.moved hw.alike C.2.2.2.2.2.2.2.1, C.2.2.2.2.2.2.2.2.1, by rw [ht]; exact Nat.le_trans C.2.2.2.2.2.2.2.2.2.1 hW.2.1, by rw [ht]; exact C.2.2.2.2.2.2.2.2.2.2.to hW.2 hw⟩, hW.2.F ht⟩) hW.2.2.2 hd C.2.2.2.2.2.2.1
theorem x_callr {o : Nat} {a : Array Value} {st0 : List Value} (hW : XW Z h g s.heap H locs) (hr : va_Run p l e R s m args below meth c H locs cells slots 0 0 (F0 m pc ls st0) rest (va_Qr (fun (_ : Unit) => True) (fun _ a t => a = Z.1 o ∧ Wd Z h1 g1 t) (FR Z) a) (FR Z))
    (kk : ∀ (H1 : Heap) (locs1 : List Loc), XW Z h1 g1 s.heap H1 locs1 → W p l e R s m args below meth c H1 locs1 cells slots Q (F0 m (pc + 3) ls (.ref (Z.1 o) :: rest))) : W p l e R s m args below meth c H locs cells slots Q (F0 m pc ls st0) :=
  va_callr hr hW.2 (fun _ _ q => q) (fun _ q => q) (fun u ra t H1 locs1 ht hvm hp hB _ _ hS => by
    obtain ⟨rfl, hB⟩ := hB
    exact kk H1 locs1 ⟨by rw [← ht]; exact hB.1, hS⟩)
end XD
