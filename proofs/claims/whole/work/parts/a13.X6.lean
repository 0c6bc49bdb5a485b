abbrev cX6_nameAt : ByteArray := prog_8_method_2_code
def yX6_nameAt : MethodName := ⟨RX6, "nameAt", "(II)I"⟩
theorem dX6_nameAt_0 : decode cX6_nameAt 0 = .ok (.aload_n 0, 1) := by decide +kernel
theorem dX6_nameAt_1 : decode cX6_nameAt 1 = .ok (.getfield 27, 3) := by decide +kernel
theorem dX6_nameAt_4 : decode cX6_nameAt 4 = .ok (.iload_n 1, 1) := by decide +kernel
theorem dX6_nameAt_5 : decode cX6_nameAt 5 = .ok (.bipush 6, 2) := by decide +kernel
theorem dX6_nameAt_7 : decode cX6_nameAt 7 = .ok (.imul, 1) := by decide +kernel
theorem dX6_nameAt_8 : decode cX6_nameAt 8 = .ok (.iload_n 2, 1) := by decide +kernel
theorem dX6_nameAt_9 : decode cX6_nameAt 9 = .ok (.iadd, 1) := by decide +kernel
theorem dX6_nameAt_10 : decode cX6_nameAt 10 = .ok (.iaload, 1) := by decide +kernel
theorem dX6_nameAt_11 : decode cX6_nameAt 11 = .ok (.ireturn, 1) := by decide +kernel
theorem ci_X6_nameAt : Cond.instanceMethod yX6_nameAt ∈ TW := TW_of 665 (by decide +kernel) (by decide +kernel)
theorem cs_X6_nameAt : Cond.selects yX6_nameAt.cls yX6_nameAt yX6_nameAt ∈ TW := TW_of 666 (by decide +kernel) (by decide +kernel)
set_option maxRecDepth 20000 in
set_option maxHeartbeats 1000000 in
theorem c_X6_nameAt {l : Launch} {Z : ZT} {g : Hp} {h : Hp} {p0 : Nat} {p1 : Int32} {p2 : Int32} (hk_p0 : knd p0 = 6) {out : Int32} (hf : f_X6_nameAt h p0 p1 p2 = some out) : Met l yX6_nameAt (wY yX6_nameAt cX6_nameAt 3 (some .int)) (rmD 0) (va_Pc [.ref (Z.1 p0), .int p1, .int p2] (Wd Z h g)) (va_Qi (fun r (_ : Unit) => r = out) (fun _ => Wd Z h g) (FR Z)) 0 0 (FR Z) := by
  refine metX RX6 rfl (by decide +kernel) (Nat.le_of_ble_eq_true rfl) ?_
  intro p e s m args below meth c C hW ls hl
  have hl : lv_has ls 3 [(0, .ref (Z.1 p0)), (1, .int p1), (2, .int p2)] := hl
  unfold f_X6_nameAt at hf
  refine lv_aload_n C.1 C.2.1 dX6_nameAt_0 rfl (lv_at hl 0 rfl) ?_
  refine xg_X6_27 C hW hk_p0 dX6_nameAt_1 ?_
  refine lv_iload_n C.1 C.2.1 dX6_nameAt_4 rfl (lv_at hl 1 rfl) ?_
  refine lv_bipush (v := 6) C.1 C.2.1 dX6_nameAt_5 (by decide) ?_
  refine lv_imul C.1 C.2.1 dX6_nameAt_7 ?_
  refine lv_iload_n C.1 C.2.1 dX6_nameAt_8 rfl (lv_at hl 2 rfl) ?_
  refine lv_iadd C.1 C.2.1 dX6_nameAt_9 ?_
  refine x_ialdC C hW (o_X6_6 hk_p0) hf dX6_nameAt_10 (fun hf => ?_)
  exact x_iret C hW dX6_nameAt_11 (Option.some.inj hf)
