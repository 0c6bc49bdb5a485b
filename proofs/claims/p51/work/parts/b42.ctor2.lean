/-! constructors that make arrays alone -/
theorem in_X0 : Cond.instantiable RX0 5 ∈ TW := TW_of 187 (by decide +kernel) (by decide +kernel)
theorem iz_X0 : Cond.initialized RX0 ∈ TW := TW_of 20 (by decide +kernel) (by decide +kernel)
theorem ml_X0_obj : Cond.methodLink RX0 3 objectInit ∈ TW := TW_of 191 (by decide +kernel) (by decide +kernel)
theorem df_X0 : ∀ j, j < 5 → defaultValue (tyX0 j) = vp_V [.null, .int 0, .null, .null, .null] j := by decide +kernel
theorem in_X1 : Cond.instantiable RX1 16 ∈ TW := TW_of 86 (by decide +kernel) (by decide +kernel)
theorem iz_X1 : Cond.initialized RX1 ∈ TW := TW_of 18 (by decide +kernel) (by decide +kernel)
theorem ml_X1_obj : Cond.methodLink RX1 3 objectInit ∈ TW := TW_of 90 (by decide +kernel) (by decide +kernel)
theorem df_X1 : ∀ j, j < 16 → defaultValue (tyX1 j) = vp_V [.null, .null, .int 0, .null, .null, .null, .null, .null, .int 0, .null, .null, .int 0, .null, .int 0, .int 0, .null] j := by decide +kernel
theorem in_X2 : Cond.instantiable RX2 2 ∈ TW := TW_of 349 (by decide +kernel) (by decide +kernel)
theorem iz_X2 : Cond.initialized RX2 ∈ TW := TW_of 24 (by decide +kernel) (by decide +kernel)
theorem ml_X2_obj : Cond.methodLink RX2 3 objectInit ∈ TW := TW_of 353 (by decide +kernel) (by decide +kernel)
theorem df_X2 : ∀ j, j < 2 → defaultValue (tyX2 j) = vp_V [.null, .int 0] j := by decide +kernel
theorem in_X3 : Cond.instantiable RX3 3 ∈ TW := TW_of 277 (by decide +kernel) (by decide +kernel)
theorem iz_X3 : Cond.initialized RX3 ∈ TW := TW_of 21 (by decide +kernel) (by decide +kernel)
theorem ml_X3_obj : Cond.methodLink RX3 3 objectInit ∈ TW := TW_of 281 (by decide +kernel) (by decide +kernel)
theorem df_X3 : ∀ j, j < 3 → defaultValue (tyX3 j) = vp_V [.null, .int 0, .int 0] j := by decide +kernel
theorem in_X4 : Cond.instantiable RX4 19 ∈ TW := TW_of 92 (by decide +kernel) (by decide +kernel)
theorem iz_X4 : Cond.initialized RX4 ∈ TW := TW_of 19 (by decide +kernel) (by decide +kernel)
theorem ml_X4_obj : Cond.methodLink RX4 3 objectInit ∈ TW := TW_of 96 (by decide +kernel) (by decide +kernel)
theorem df_X4 : ∀ j, j < 19 → defaultValue (tyX4 j) = vp_V [.int 0, .int 0, .int 0, .null, .int 0, .null, .null, .null, .null, .null, .int 0, .null, .null, .int 0, .null, .null, .null, .null, .null] j := by decide +kernel
theorem in_X5 : Cond.instantiable RX5 4 ∈ TW := TW_of 297 (by decide +kernel) (by decide +kernel)
theorem iz_X5 : Cond.initialized RX5 ∈ TW := TW_of 22 (by decide +kernel) (by decide +kernel)
theorem ml_X5_obj : Cond.methodLink RX5 3 objectInit ∈ TW := TW_of 301 (by decide +kernel) (by decide +kernel)
theorem df_X5 : ∀ j, j < 4 → defaultValue (tyX5 j) = vp_V [.null, .int 0, .int 0, .int 0] j := by decide +kernel
theorem in_X6 : Cond.instantiable RX6 7 ∈ TW := TW_of 303 (by decide +kernel) (by decide +kernel)
theorem iz_X6 : Cond.initialized RX6 ∈ TW := TW_of 23 (by decide +kernel) (by decide +kernel)
theorem ml_X6_obj : Cond.methodLink RX6 3 objectInit ∈ TW := TW_of 307 (by decide +kernel) (by decide +kernel)
theorem df_X6 : ∀ j, j < 7 → defaultValue (tyX6 j) = vp_V [.int 0, .null, .null, .null, .null, .null, .null] j := by decide +kernel
theorem in_X9 : Cond.instantiable RX9 7 ∈ TW := TW_of 55 (by decide +kernel) (by decide +kernel)
theorem iz_X9 : Cond.initialized RX9 ∈ TW := TW_of 17 (by decide +kernel) (by decide +kernel)
theorem ml_X9_obj : Cond.methodLink RX9 3 objectInit ∈ TW := TW_of 59 (by decide +kernel) (by decide +kernel)
theorem df_X9 : ∀ j, j < 7 → defaultValue (tyX9 j) = vp_V [.null, .int 0, .int 0, .int 0, .int 0, .int 0, .int 0] j := by decide +kernel
theorem in_X10 : Cond.instantiable RX10 7 ∈ TW := TW_of 47 (by decide +kernel) (by decide +kernel)
theorem iz_X10 : Cond.initialized RX10 ∈ TW := TW_of 16 (by decide +kernel) (by decide +kernel)
theorem ml_X10_obj : Cond.methodLink RX10 1 objectInit ∈ TW := TW_of 51 (by decide +kernel) (by decide +kernel)
theorem df_X10 : ∀ j, j < 7 → defaultValue (tyX10 j) = vp_V [.null, .null, .null, .null, .null, .null, .null] j := by decide +kernel
abbrev cX0_init : ByteArray := prog_2_method_1_code
def yX0_init : MethodName := ⟨RX0, "<init>", "()V"⟩
theorem dX0_init_0 : decode cX0_init 0 = .ok (.aload_n 0, 1) := by decide +kernel
theorem dX0_init_1 : decode cX0_init 1 = .ok (.invokespecial 3, 3) := by decide +kernel
theorem dX0_init_4 : decode cX0_init 4 = .ok (.aload_n 0, 1) := by decide +kernel
theorem dX0_init_5 : decode cX0_init 5 = .ok (.bipush 40, 2) := by decide +kernel
theorem dX0_init_7 : decode cX0_init 7 = .ok (.newarray .boolean, 2) := by decide +kernel
theorem dX0_init_9 : decode cX0_init 9 = .ok (.putfield 9, 3) := by decide +kernel
theorem dX0_init_12 : decode cX0_init 12 = .ok (.aload_n 0, 1) := by decide +kernel
theorem dX0_init_13 : decode cX0_init 13 = .ok (.bipush 40, 2) := by decide +kernel
theorem dX0_init_15 : decode cX0_init 15 = .ok (.newarray .int, 2) := by decide +kernel
theorem dX0_init_17 : decode cX0_init 17 = .ok (.putfield 15, 3) := by decide +kernel
theorem dX0_init_20 : decode cX0_init 20 = .ok (.aload_n 0, 1) := by decide +kernel
theorem dX0_init_21 : decode cX0_init 21 = .ok (.bipush 40, 2) := by decide +kernel
theorem dX0_init_23 : decode cX0_init 23 = .ok (.newarray .int, 2) := by decide +kernel
theorem dX0_init_25 : decode cX0_init 25 = .ok (.putfield 19, 3) := by decide +kernel
theorem dX0_init_28 : decode cX0_init 28 = .ok (.aload_n 0, 1) := by decide +kernel
theorem dX0_init_29 : decode cX0_init 29 = .ok (.bipush 40, 2) := by decide +kernel
theorem dX0_init_31 : decode cX0_init 31 = .ok (.newarray .int, 2) := by decide +kernel
theorem dX0_init_33 : decode cX0_init 33 = .ok (.putfield 22, 3) := by decide +kernel
theorem dX0_init_36 : decode cX0_init 36 = .ok (.return_, 1) := by decide +kernel
theorem ci_X0_init : Cond.instanceMethod yX0_init ∈ TW := TW_of 189 (by decide +kernel) (by decide +kernel)
theorem cc_X0_init : Cond.code yX0_init cX0_init 1 none ∈ TW := TW_of 190 (by decide +kernel) (by decide +kernel)
theorem cd_X0_init : yX0_init.cls ≠ "java/lang/invoke/MethodHandle" ∧ yX0_init.cls ≠ "java/lang/invoke/VarHandle" ∧ (parseMethodDescriptor yX0_init.desc).map (fun d => d.parameters.length) = some 0 := by decide +kernel
theorem fl_X0_9 : Cond.fieldLink RX0 9 RX0 (TX0 0).2.1 (TX0 0).2.2.1 ∈ TW := TW_of 192 (by decide +kernel) (by decide +kernel)
theorem fl_X0_15 : Cond.fieldLink RX0 15 RX0 (TX0 2).2.1 (TX0 2).2.2.1 ∈ TW := TW_of 197 (by decide +kernel) (by decide +kernel)
theorem fl_X0_19 : Cond.fieldLink RX0 19 RX0 (TX0 3).2.1 (TX0 3).2.2.1 ∈ TW := TW_of 200 (by decide +kernel) (by decide +kernel)
theorem fl_X0_22 : Cond.fieldLink RX0 22 RX0 (TX0 4).2.1 (TX0 4).2.2.1 ∈ TW := TW_of 203 (by decide +kernel) (by decide +kernel)
def zX0 (u : Nat → Nat) : Nat := u 0
def wX0 (dA : Nat → ClassId) (u : Nat → Nat) : va_W := [(u 0, .inr (0, [.ref (u 1), .int 0, .ref (u 2), .ref (u 3), .ref (u 4)])), (u 1, .inl (dA 2, 40, .inl (fun _ => 0))), (u 2, .inl (dA 1, 40, .inl (fun _ => 0))), (u 3, .inl (dA 1, 40, .inl (fun _ => 0))), (u 4, .inl (dA 1, 40, .inl (fun _ => 0)))]
abbrev SX0 : Type := Nat → Nat
set_option maxHeartbeats 4000000 in
set_option maxRecDepth 100000 in
theorem k_X0_init (l : Launch) (D : va_G) (dA : Nat → ClassId) : Ctor l D dA yX0_init cX0_init 1 ({ frames := 1, cells := 4, slots := 160, locals := 12 } : Room) (.inr (0, [.null, .int 0, .null, .null, .null])) zX0 (wX0 dA) 4 160 := by
  refine metC RX0 rfl (by decide +kernel) (by decide) rfl ?_
  intro p e s m args below meth c r A C hr hlocks hin2 hA hP hD ls hl
  have hS : va_S A s.heap s.heap [] := va_S.rf
  have hP : va_P D vwCl ((r, .inr (0, [.null, .int 0, .null, .null, .null])) :: []) s.heap := hP
  have hD : va_D A ((r, .inr (0, [.null, .int 0, .null, .null, .null])) :: []) := hD
  refine lv_aload_n C.1 C.2.1 dX0_init_0 rfl (lv_at hl 0 rfl) ?_
  refine y_obj C hl ml_X0_obj oi_i oi_c dX0_init_1 ⟨Nat.le_of_ble_eq_true rfl, Nat.le_of_ble_eq_true rfl⟩ ?_
  refine lv_aload_n C.1 C.2.1 dX0_init_4 rfl (lv_at hl 0 rfl) ?_
  refine lv_bipush (v := 40) C.1 C.2.1 dX0_init_5 (by decide) ?_
  refine y_arr (a0 := (40, .inl (fun _ => 0))) (N := 40) C hA hP hD hS (ty := .boolean) rfl 2 rfl ac_boolean (by decide) (by decide) (fun _ => rfl) (by decide) (Nat.le_of_ble_eq_true rfl) (Nat.le_of_ble_eq_true rfl) dX0_init_7 (fun q7 H hP hD hS => ?_)
  have hP : va_P D vwCl ((r, .inr (0, [.null, .int 0, .null, .null, .null])) :: [(q7, .inl (dA 2, 40, .inl (fun _ => 0)))]) H := hP
  have hD : va_D A ((r, .inr (0, [.null, .int 0, .null, .null, .null])) :: [(q7, .inl (dA 2, 40, .inl (fun _ => 0)))]) := hD
  refine y_putF C hin2 hP hD hS (T := TX0) (N := 5) rfl wsX0_in tyX0 tyX0_ok nmX0 0 9 (by decide) fl_X0_9 rfl rfl (ty := .array .boolean) (v := .ref q7) (by decide +kernel) rfl rfl (Nat.le_of_ble_eq_true rfl) dX0_init_9 (fun H locs hP hD hS => ?_)
  have hP : va_P D vwCl ((r, .inr (0, [.ref q7, .int 0, .null, .null, .null])) :: [(q7, .inl (dA 2, 40, .inl (fun _ => 0)))]) H := hP
  have hD : va_D A ((r, .inr (0, [.ref q7, .int 0, .null, .null, .null])) :: [(q7, .inl (dA 2, 40, .inl (fun _ => 0)))]) := hD
  refine lv_aload_n C.1 C.2.1 dX0_init_12 rfl (lv_at hl 0 rfl) ?_
  refine lv_bipush (v := 40) C.1 C.2.1 dX0_init_13 (by decide) ?_
  refine y_arr (a0 := (40, .inl (fun _ => 0))) (N := 40) C hA hP hD hS (ty := .int) rfl 1 rfl ac_int (by decide) (by decide) (fun _ => rfl) (by decide) (Nat.le_of_ble_eq_true rfl) (Nat.le_of_ble_eq_true rfl) dX0_init_15 (fun q15 H hP hD hS => ?_)
  have hP : va_P D vwCl ((r, .inr (0, [.ref q7, .int 0, .null, .null, .null])) :: [(q7, .inl (dA 2, 40, .inl (fun _ => 0))), (q15, .inl (dA 1, 40, .inl (fun _ => 0)))]) H := hP
  have hD : va_D A ((r, .inr (0, [.ref q7, .int 0, .null, .null, .null])) :: [(q7, .inl (dA 2, 40, .inl (fun _ => 0))), (q15, .inl (dA 1, 40, .inl (fun _ => 0)))]) := hD
  refine y_putF C hin2 hP hD hS (T := TX0) (N := 5) rfl wsX0_in tyX0 tyX0_ok nmX0 2 15 (by decide) fl_X0_15 rfl rfl (ty := .array .int) (v := .ref q15) (by decide +kernel) rfl rfl (Nat.le_of_ble_eq_true rfl) dX0_init_17 (fun H locs hP hD hS => ?_)
  have hP : va_P D vwCl ((r, .inr (0, [.ref q7, .int 0, .ref q15, .null, .null])) :: [(q7, .inl (dA 2, 40, .inl (fun _ => 0))), (q15, .inl (dA 1, 40, .inl (fun _ => 0)))]) H := hP
  have hD : va_D A ((r, .inr (0, [.ref q7, .int 0, .ref q15, .null, .null])) :: [(q7, .inl (dA 2, 40, .inl (fun _ => 0))), (q15, .inl (dA 1, 40, .inl (fun _ => 0)))]) := hD
  refine lv_aload_n C.1 C.2.1 dX0_init_20 rfl (lv_at hl 0 rfl) ?_
  refine lv_bipush (v := 40) C.1 C.2.1 dX0_init_21 (by decide) ?_
  refine y_arr (a0 := (40, .inl (fun _ => 0))) (N := 40) C hA hP hD hS (ty := .int) rfl 1 rfl ac_int (by decide) (by decide) (fun _ => rfl) (by decide) (Nat.le_of_ble_eq_true rfl) (Nat.le_of_ble_eq_true rfl) dX0_init_23 (fun q23 H hP hD hS => ?_)
  have hP : va_P D vwCl ((r, .inr (0, [.ref q7, .int 0, .ref q15, .null, .null])) :: [(q7, .inl (dA 2, 40, .inl (fun _ => 0))), (q15, .inl (dA 1, 40, .inl (fun _ => 0))), (q23, .inl (dA 1, 40, .inl (fun _ => 0)))]) H := hP
  have hD : va_D A ((r, .inr (0, [.ref q7, .int 0, .ref q15, .null, .null])) :: [(q7, .inl (dA 2, 40, .inl (fun _ => 0))), (q15, .inl (dA 1, 40, .inl (fun _ => 0))), (q23, .inl (dA 1, 40, .inl (fun _ => 0)))]) := hD
  refine y_putF C hin2 hP hD hS (T := TX0) (N := 5) rfl wsX0_in tyX0 tyX0_ok nmX0 3 19 (by decide) fl_X0_19 rfl rfl (ty := .array .int) (v := .ref q23) (by decide +kernel) rfl rfl (Nat.le_of_ble_eq_true rfl) dX0_init_25 (fun H locs hP hD hS => ?_)
  have hP : va_P D vwCl ((r, .inr (0, [.ref q7, .int 0, .ref q15, .ref q23, .null])) :: [(q7, .inl (dA 2, 40, .inl (fun _ => 0))), (q15, .inl (dA 1, 40, .inl (fun _ => 0))), (q23, .inl (dA 1, 40, .inl (fun _ => 0)))]) H := hP
  have hD : va_D A ((r, .inr (0, [.ref q7, .int 0, .ref q15, .ref q23, .null])) :: [(q7, .inl (dA 2, 40, .inl (fun _ => 0))), (q15, .inl (dA 1, 40, .inl (fun _ => 0))), (q23, .inl (dA 1, 40, .inl (fun _ => 0)))]) := hD
  refine lv_aload_n C.1 C.2.1 dX0_init_28 rfl (lv_at hl 0 rfl) ?_
  refine lv_bipush (v := 40) C.1 C.2.1 dX0_init_29 (by decide) ?_
  refine y_arr (a0 := (40, .inl (fun _ => 0))) (N := 40) C hA hP hD hS (ty := .int) rfl 1 rfl ac_int (by decide) (by decide) (fun _ => rfl) (by decide) (Nat.le_of_ble_eq_true rfl) (Nat.le_of_ble_eq_true rfl) dX0_init_31 (fun q31 H hP hD hS => ?_)
  have hP : va_P D vwCl ((r, .inr (0, [.ref q7, .int 0, .ref q15, .ref q23, .null])) :: [(q7, .inl (dA 2, 40, .inl (fun _ => 0))), (q15, .inl (dA 1, 40, .inl (fun _ => 0))), (q23, .inl (dA 1, 40, .inl (fun _ => 0))), (q31, .inl (dA 1, 40, .inl (fun _ => 0)))]) H := hP
  have hD : va_D A ((r, .inr (0, [.ref q7, .int 0, .ref q15, .ref q23, .null])) :: [(q7, .inl (dA 2, 40, .inl (fun _ => 0))), (q15, .inl (dA 1, 40, .inl (fun _ => 0))), (q23, .inl (dA 1, 40, .inl (fun _ => 0))), (q31, .inl (dA 1, 40, .inl (fun _ => 0)))]) := hD
  refine y_putF C hin2 hP hD hS (T := TX0) (N := 5) rfl wsX0_in tyX0 tyX0_ok nmX0 4 22 (by decide) fl_X0_22 rfl rfl (ty := .array .int) (v := .ref q31) (by decide +kernel) rfl rfl (Nat.le_of_ble_eq_true rfl) dX0_init_33 (fun H locs hP hD hS => ?_)
  have hP : va_P D vwCl ((r, .inr (0, [.ref q7, .int 0, .ref q15, .ref q23, .ref q31])) :: [(q7, .inl (dA 2, 40, .inl (fun _ => 0))), (q15, .inl (dA 1, 40, .inl (fun _ => 0))), (q23, .inl (dA 1, 40, .inl (fun _ => 0))), (q31, .inl (dA 1, 40, .inl (fun _ => 0)))]) H := hP
  have hD : va_D A ((r, .inr (0, [.ref q7, .int 0, .ref q15, .ref q23, .ref q31])) :: [(q7, .inl (dA 2, 40, .inl (fun _ => 0))), (q15, .inl (dA 1, 40, .inl (fun _ => 0))), (q23, .inl (dA 1, 40, .inl (fun _ => 0))), (q31, .inl (dA 1, 40, .inl (fun _ => 0)))]) := hD
  exact y_ret C hr hlocks hS (fun i => [r, q7, q15, q23, q31].getD i 0) rfl hP hD dX0_init_36
abbrev cX2_init : ByteArray := prog_4_method_1_code
def yX2_init : MethodName := ⟨RX2, "<init>", "()V"⟩
theorem dX2_init_0 : decode cX2_init 0 = .ok (.aload_n 0, 1) := by decide +kernel
theorem dX2_init_1 : decode cX2_init 1 = .ok (.invokespecial 3, 3) := by decide +kernel
theorem dX2_init_4 : decode cX2_init 4 = .ok (.aload_n 0, 1) := by decide +kernel
theorem dX2_init_5 : decode cX2_init 5 = .ok (.sipush 1000, 3) := by decide +kernel
theorem dX2_init_8 : decode cX2_init 8 = .ok (.newarray .byte, 2) := by decide +kernel
theorem dX2_init_10 : decode cX2_init 10 = .ok (.putfield 11, 3) := by decide +kernel
theorem dX2_init_13 : decode cX2_init 13 = .ok (.return_, 1) := by decide +kernel
theorem ci_X2_init : Cond.instanceMethod yX2_init ∈ TW := TW_of 351 (by decide +kernel) (by decide +kernel)
theorem cc_X2_init : Cond.code yX2_init cX2_init 1 none ∈ TW := TW_of 352 (by decide +kernel) (by decide +kernel)
theorem cd_X2_init : yX2_init.cls ≠ "java/lang/invoke/MethodHandle" ∧ yX2_init.cls ≠ "java/lang/invoke/VarHandle" ∧ (parseMethodDescriptor yX2_init.desc).map (fun d => d.parameters.length) = some 0 := by decide +kernel
theorem fl_X2_11 : Cond.fieldLink RX2 11 RX2 (TX2 0).2.1 (TX2 0).2.2.1 ∈ TW := TW_of 354 (by decide +kernel) (by decide +kernel)
def zX2 (u : Nat → Nat) : Nat := u 0
def wX2 (dA : Nat → ClassId) (u : Nat → Nat) : va_W := [(u 0, .inr (2, [.ref (u 1), .int 0])), (u 1, .inl (dA 0, 1000, .inl (fun _ => 0)))]
abbrev SX2 : Type := Nat → Nat
set_option maxHeartbeats 4000000 in
set_option maxRecDepth 100000 in
theorem k_X2_init (l : Launch) (D : va_G) (dA : Nat → ClassId) : Ctor l D dA yX2_init cX2_init 1 ({ frames := 1, cells := 1, slots := 1000, locals := 12 } : Room) (.inr (2, [.null, .int 0])) zX2 (wX2 dA) 1 1000 := by
  refine metC RX2 rfl (by decide +kernel) (by decide) rfl ?_
  intro p e s m args below meth c r A C hr hlocks hin2 hA hP hD ls hl
  have hS : va_S A s.heap s.heap [] := va_S.rf
  have hP : va_P D vwCl ((r, .inr (2, [.null, .int 0])) :: []) s.heap := hP
  have hD : va_D A ((r, .inr (2, [.null, .int 0])) :: []) := hD
  refine lv_aload_n C.1 C.2.1 dX2_init_0 rfl (lv_at hl 0 rfl) ?_
  refine y_obj C hl ml_X2_obj oi_i oi_c dX2_init_1 ⟨Nat.le_of_ble_eq_true rfl, Nat.le_of_ble_eq_true rfl⟩ ?_
  refine lv_aload_n C.1 C.2.1 dX2_init_4 rfl (lv_at hl 0 rfl) ?_
  refine lv_sipush (v := 1000) C.1 C.2.1 dX2_init_5 (by decide) ?_
  refine y_arr (a0 := (1000, .inl (fun _ => 0))) (N := 1000) C hA hP hD hS (ty := .byte) rfl 0 rfl ac_byte (by decide) (by decide) (fun _ => rfl) (by decide) (Nat.le_of_ble_eq_true rfl) (Nat.le_of_ble_eq_true rfl) dX2_init_8 (fun q8 H hP hD hS => ?_)
  have hP : va_P D vwCl ((r, .inr (2, [.null, .int 0])) :: [(q8, .inl (dA 0, 1000, .inl (fun _ => 0)))]) H := hP
  have hD : va_D A ((r, .inr (2, [.null, .int 0])) :: [(q8, .inl (dA 0, 1000, .inl (fun _ => 0)))]) := hD
  refine y_putF C hin2 hP hD hS (T := TX2) (N := 2) rfl wsX2_in tyX2 tyX2_ok nmX2 0 11 (by decide) fl_X2_11 rfl rfl (ty := .array .byte) (v := .ref q8) (by decide +kernel) rfl rfl (Nat.le_of_ble_eq_true rfl) dX2_init_10 (fun H locs hP hD hS => ?_)
  have hP : va_P D vwCl ((r, .inr (2, [.ref q8, .int 0])) :: [(q8, .inl (dA 0, 1000, .inl (fun _ => 0)))]) H := hP
  have hD : va_D A ((r, .inr (2, [.ref q8, .int 0])) :: [(q8, .inl (dA 0, 1000, .inl (fun _ => 0)))]) := hD
  exact y_ret C hr hlocks hS (fun i => [r, q8].getD i 0) rfl hP hD dX2_init_13
abbrev cX4_init : ByteArray := prog_6_method_1_code
def yX4_init : MethodName := ⟨RX4, "<init>", "()V"⟩
theorem dX4_init_0 : decode cX4_init 0 = .ok (.aload_n 0, 1) := by decide +kernel
theorem dX4_init_1 : decode cX4_init 1 = .ok (.invokespecial 3, 3) := by decide +kernel
theorem dX4_init_4 : decode cX4_init 4 = .ok (.aload_n 0, 1) := by decide +kernel
theorem dX4_init_5 : decode cX4_init 5 = .ok (.sipush 1000, 3) := by decide +kernel
theorem dX4_init_8 : decode cX4_init 8 = .ok (.putfield 9, 3) := by decide +kernel
theorem dX4_init_11 : decode cX4_init 11 = .ok (.aload_n 0, 1) := by decide +kernel
theorem dX4_init_12 : decode cX4_init 12 = .ok (.bipush 12, 2) := by decide +kernel
theorem dX4_init_14 : decode cX4_init 14 = .ok (.putfield 15, 3) := by decide +kernel
theorem dX4_init_17 : decode cX4_init 17 = .ok (.aload_n 0, 1) := by decide +kernel
theorem dX4_init_18 : decode cX4_init 18 = .ok (.iconst 4, 1) := by decide +kernel
theorem dX4_init_19 : decode cX4_init 19 = .ok (.newarray .int, 2) := by decide +kernel
theorem dX4_init_21 : decode cX4_init 21 = .ok (.putfield 18, 3) := by decide +kernel
theorem dX4_init_24 : decode cX4_init 24 = .ok (.aload_n 0, 1) := by decide +kernel
theorem dX4_init_25 : decode cX4_init 25 = .ok (.bipush 40, 2) := by decide +kernel
theorem dX4_init_27 : decode cX4_init 27 = .ok (.newarray .int, 2) := by decide +kernel
theorem dX4_init_29 : decode cX4_init 29 = .ok (.putfield 22, 3) := by decide +kernel
theorem dX4_init_32 : decode cX4_init 32 = .ok (.aload_n 0, 1) := by decide +kernel
theorem dX4_init_33 : decode cX4_init 33 = .ok (.bipush 40, 2) := by decide +kernel
theorem dX4_init_35 : decode cX4_init 35 = .ok (.newarray .int, 2) := by decide +kernel
theorem dX4_init_37 : decode cX4_init 37 = .ok (.putfield 25, 3) := by decide +kernel
theorem dX4_init_40 : decode cX4_init 40 = .ok (.aload_n 0, 1) := by decide +kernel
theorem dX4_init_41 : decode cX4_init 41 = .ok (.bipush 40, 2) := by decide +kernel
theorem dX4_init_43 : decode cX4_init 43 = .ok (.newarray .int, 2) := by decide +kernel
theorem dX4_init_45 : decode cX4_init 45 = .ok (.putfield 28, 3) := by decide +kernel
theorem dX4_init_48 : decode cX4_init 48 = .ok (.aload_n 0, 1) := by decide +kernel
theorem dX4_init_49 : decode cX4_init 49 = .ok (.bipush 40, 2) := by decide +kernel
theorem dX4_init_51 : decode cX4_init 51 = .ok (.newarray .int, 2) := by decide +kernel
theorem dX4_init_53 : decode cX4_init 53 = .ok (.putfield 31, 3) := by decide +kernel
theorem dX4_init_56 : decode cX4_init 56 = .ok (.aload_n 0, 1) := by decide +kernel
theorem dX4_init_57 : decode cX4_init 57 = .ok (.bipush 40, 2) := by decide +kernel
theorem dX4_init_59 : decode cX4_init 59 = .ok (.newarray .int, 2) := by decide +kernel
theorem dX4_init_61 : decode cX4_init 61 = .ok (.putfield 34, 3) := by decide +kernel
theorem dX4_init_64 : decode cX4_init 64 = .ok (.aload_n 0, 1) := by decide +kernel
theorem dX4_init_65 : decode cX4_init 65 = .ok (.bipush 12, 2) := by decide +kernel
theorem dX4_init_67 : decode cX4_init 67 = .ok (.newarray .int, 2) := by decide +kernel
theorem dX4_init_69 : decode cX4_init 69 = .ok (.putfield 37, 3) := by decide +kernel
theorem dX4_init_72 : decode cX4_init 72 = .ok (.aload_n 0, 1) := by decide +kernel
theorem dX4_init_73 : decode cX4_init 73 = .ok (.bipush 12, 2) := by decide +kernel
theorem dX4_init_75 : decode cX4_init 75 = .ok (.newarray .int, 2) := by decide +kernel
theorem dX4_init_77 : decode cX4_init 77 = .ok (.putfield 40, 3) := by decide +kernel
theorem dX4_init_80 : decode cX4_init 80 = .ok (.aload_n 0, 1) := by decide +kernel
theorem dX4_init_81 : decode cX4_init 81 = .ok (.bipush 41, 2) := by decide +kernel
theorem dX4_init_83 : decode cX4_init 83 = .ok (.newarray .int, 2) := by decide +kernel
theorem dX4_init_85 : decode cX4_init 85 = .ok (.putfield 43, 3) := by decide +kernel
theorem dX4_init_88 : decode cX4_init 88 = .ok (.aload_n 0, 1) := by decide +kernel
theorem dX4_init_89 : decode cX4_init 89 = .ok (.bipush 40, 2) := by decide +kernel
theorem dX4_init_91 : decode cX4_init 91 = .ok (.newarray .int, 2) := by decide +kernel
theorem dX4_init_93 : decode cX4_init 93 = .ok (.putfield 46, 3) := by decide +kernel
theorem dX4_init_96 : decode cX4_init 96 = .ok (.aload_n 0, 1) := by decide +kernel
theorem dX4_init_97 : decode cX4_init 97 = .ok (.bipush 40, 2) := by decide +kernel
theorem dX4_init_99 : decode cX4_init 99 = .ok (.newarray .int, 2) := by decide +kernel
theorem dX4_init_101 : decode cX4_init 101 = .ok (.putfield 49, 3) := by decide +kernel
theorem dX4_init_104 : decode cX4_init 104 = .ok (.aload_n 0, 1) := by decide +kernel
theorem dX4_init_105 : decode cX4_init 105 = .ok (.bipush 40, 2) := by decide +kernel
theorem dX4_init_107 : decode cX4_init 107 = .ok (.newarray .int, 2) := by decide +kernel
theorem dX4_init_109 : decode cX4_init 109 = .ok (.putfield 52, 3) := by decide +kernel
theorem dX4_init_112 : decode cX4_init 112 = .ok (.aload_n 0, 1) := by decide +kernel
theorem dX4_init_113 : decode cX4_init 113 = .ok (.bipush 40, 2) := by decide +kernel
theorem dX4_init_115 : decode cX4_init 115 = .ok (.newarray .boolean, 2) := by decide +kernel
theorem dX4_init_117 : decode cX4_init 117 = .ok (.putfield 55, 3) := by decide +kernel
theorem dX4_init_120 : decode cX4_init 120 = .ok (.return_, 1) := by decide +kernel
theorem ci_X4_init : Cond.instanceMethod yX4_init ∈ TW := TW_of 94 (by decide +kernel) (by decide +kernel)
theorem cc_X4_init : Cond.code yX4_init cX4_init 1 none ∈ TW := TW_of 95 (by decide +kernel) (by decide +kernel)
theorem cd_X4_init : yX4_init.cls ≠ "java/lang/invoke/MethodHandle" ∧ yX4_init.cls ≠ "java/lang/invoke/VarHandle" ∧ (parseMethodDescriptor yX4_init.desc).map (fun d => d.parameters.length) = some 0 := by decide +kernel
theorem fl_X4_9 : Cond.fieldLink RX4 9 RX4 (TX4 0).2.1 (TX4 0).2.2.1 ∈ TW := TW_of 97 (by decide +kernel) (by decide +kernel)
theorem fl_X4_15 : Cond.fieldLink RX4 15 RX4 (TX4 1).2.1 (TX4 1).2.2.1 ∈ TW := TW_of 100 (by decide +kernel) (by decide +kernel)
theorem fl_X4_18 : Cond.fieldLink RX4 18 RX4 (TX4 3).2.1 (TX4 3).2.2.1 ∈ TW := TW_of 107 (by decide +kernel) (by decide +kernel)
theorem fl_X4_22 : Cond.fieldLink RX4 22 RX4 (TX4 5).2.1 (TX4 5).2.2.1 ∈ TW := TW_of 112 (by decide +kernel) (by decide +kernel)
theorem fl_X4_25 : Cond.fieldLink RX4 25 RX4 (TX4 6).2.1 (TX4 6).2.2.1 ∈ TW := TW_of 114 (by decide +kernel) (by decide +kernel)
theorem fl_X4_28 : Cond.fieldLink RX4 28 RX4 (TX4 7).2.1 (TX4 7).2.2.1 ∈ TW := TW_of 117 (by decide +kernel) (by decide +kernel)
theorem fl_X4_31 : Cond.fieldLink RX4 31 RX4 (TX4 8).2.1 (TX4 8).2.2.1 ∈ TW := TW_of 120 (by decide +kernel) (by decide +kernel)
theorem fl_X4_34 : Cond.fieldLink RX4 34 RX4 (TX4 9).2.1 (TX4 9).2.2.1 ∈ TW := TW_of 123 (by decide +kernel) (by decide +kernel)
theorem fl_X4_37 : Cond.fieldLink RX4 37 RX4 (TX4 11).2.1 (TX4 11).2.2.1 ∈ TW := TW_of 129 (by decide +kernel) (by decide +kernel)
theorem fl_X4_40 : Cond.fieldLink RX4 40 RX4 (TX4 12).2.1 (TX4 12).2.2.1 ∈ TW := TW_of 130 (by decide +kernel) (by decide +kernel)
theorem fl_X4_43 : Cond.fieldLink RX4 43 RX4 (TX4 14).2.1 (TX4 14).2.2.1 ∈ TW := TW_of 134 (by decide +kernel) (by decide +kernel)
theorem fl_X4_46 : Cond.fieldLink RX4 46 RX4 (TX4 15).2.1 (TX4 15).2.2.1 ∈ TW := TW_of 137 (by decide +kernel) (by decide +kernel)
theorem fl_X4_49 : Cond.fieldLink RX4 49 RX4 (TX4 16).2.1 (TX4 16).2.2.1 ∈ TW := TW_of 139 (by decide +kernel) (by decide +kernel)
theorem fl_X4_52 : Cond.fieldLink RX4 52 RX4 (TX4 17).2.1 (TX4 17).2.2.1 ∈ TW := TW_of 141 (by decide +kernel) (by decide +kernel)
theorem fl_X4_55 : Cond.fieldLink RX4 55 RX4 (TX4 18).2.1 (TX4 18).2.2.1 ∈ TW := TW_of 143 (by decide +kernel) (by decide +kernel)
def zX4 (u : Nat → Nat) : Nat := u 0
def wX4 (dA : Nat → ClassId) (u : Nat → Nat) : va_W := [(u 0, .inr (4, [.int 1000, .int 12, .int 0, .ref (u 1), .int 0, .ref (u 2), .ref (u 3), .ref (u 4), .ref (u 5), .ref (u 6), .int 0, .ref (u 7), .ref (u 8), .int 0, .ref (u 9), .ref (u 10), .ref (u 11), .ref (u 12), .ref (u 13)])), (u 1, .inl (dA 1, 4, .inl (fun _ => 0))), (u 2, .inl (dA 1, 40, .inl (fun _ => 0))), (u 3, .inl (dA 1, 40, .inl (fun _ => 0))), (u 4, .inl (dA 1, 40, .inl (fun _ => 0))), (u 5, .inl (dA 1, 40, .inl (fun _ => 0))), (u 6, .inl (dA 1, 40, .inl (fun _ => 0))), (u 7, .inl (dA 1, 12, .inl (fun _ => 0))), (u 8, .inl (dA 1, 12, .inl (fun _ => 0))), (u 9, .inl (dA 1, 41, .inl (fun _ => 0))), (u 10, .inl (dA 1, 40, .inl (fun _ => 0))), (u 11, .inl (dA 1, 40, .inl (fun _ => 0))), (u 12, .inl (dA 1, 40, .inl (fun _ => 0))), (u 13, .inl (dA 2, 40, .inl (fun _ => 0)))]
abbrev SX4 : Type := Nat → Nat
set_option maxHeartbeats 4000000 in
set_option maxRecDepth 100000 in
theorem k_X4_init (l : Launch) (D : va_G) (dA : Nat → ClassId) : Ctor l D dA yX4_init cX4_init 1 ({ frames := 1, cells := 13, slots := 429, locals := 12 } : Room) (.inr (4, [.int 0, .int 0, .int 0, .null, .int 0, .null, .null, .null, .null, .null, .int 0, .null, .null, .int 0, .null, .null, .null, .null, .null])) zX4 (wX4 dA) 13 429 := by
  refine metC RX4 rfl (by decide +kernel) (by decide) rfl ?_
  intro p e s m args below meth c r A C hr hlocks hin2 hA hP hD ls hl
  have hS : va_S A s.heap s.heap [] := va_S.rf
  have hP : va_P D vwCl ((r, .inr (4, [.int 0, .int 0, .int 0, .null, .int 0, .null, .null, .null, .null, .null, .int 0, .null, .null, .int 0, .null, .null, .null, .null, .null])) :: []) s.heap := hP
  have hD : va_D A ((r, .inr (4, [.int 0, .int 0, .int 0, .null, .int 0, .null, .null, .null, .null, .null, .int 0, .null, .null, .int 0, .null, .null, .null, .null, .null])) :: []) := hD
  refine lv_aload_n C.1 C.2.1 dX4_init_0 rfl (lv_at hl 0 rfl) ?_
  refine y_obj C hl ml_X4_obj oi_i oi_c dX4_init_1 ⟨Nat.le_of_ble_eq_true rfl, Nat.le_of_ble_eq_true rfl⟩ ?_
  refine lv_aload_n C.1 C.2.1 dX4_init_4 rfl (lv_at hl 0 rfl) ?_
  refine lv_sipush (v := 1000) C.1 C.2.1 dX4_init_5 (by decide) ?_
  refine y_put C hP hD hS (T := TX4) (N := 19) rfl wsX4_in tyX4 tyX4_ok nmX4 0 9 (by decide) fl_X4_9 rfl rfl (ty := .int) (v := .int 1000) (by decide +kernel) rfl rfl (Nat.le_of_ble_eq_true rfl) dX4_init_8 (fun H locs hP hD hS => ?_)
  have hP : va_P D vwCl ((r, .inr (4, [.int 1000, .int 0, .int 0, .null, .int 0, .null, .null, .null, .null, .null, .int 0, .null, .null, .int 0, .null, .null, .null, .null, .null])) :: []) H := hP
  have hD : va_D A ((r, .inr (4, [.int 1000, .int 0, .int 0, .null, .int 0, .null, .null, .null, .null, .null, .int 0, .null, .null, .int 0, .null, .null, .null, .null, .null])) :: []) := hD
  refine lv_aload_n C.1 C.2.1 dX4_init_11 rfl (lv_at hl 0 rfl) ?_
  refine lv_bipush (v := 12) C.1 C.2.1 dX4_init_12 (by decide) ?_
  refine y_put C hP hD hS (T := TX4) (N := 19) rfl wsX4_in tyX4 tyX4_ok nmX4 1 15 (by decide) fl_X4_15 rfl rfl (ty := .int) (v := .int 12) (by decide +kernel) rfl rfl (Nat.le_of_ble_eq_true rfl) dX4_init_14 (fun H locs hP hD hS => ?_)
  have hP : va_P D vwCl ((r, .inr (4, [.int 1000, .int 12, .int 0, .null, .int 0, .null, .null, .null, .null, .null, .int 0, .null, .null, .int 0, .null, .null, .null, .null, .null])) :: []) H := hP
  have hD : va_D A ((r, .inr (4, [.int 1000, .int 12, .int 0, .null, .int 0, .null, .null, .null, .null, .null, .int 0, .null, .null, .int 0, .null, .null, .null, .null, .null])) :: []) := hD
  refine lv_aload_n C.1 C.2.1 dX4_init_17 rfl (lv_at hl 0 rfl) ?_
  refine lv_iconst (v := 4) C.1 C.2.1 dX4_init_18 (by decide) ?_
  refine y_arr (a0 := (4, .inl (fun _ => 0))) (N := 4) C hA hP hD hS (ty := .int) rfl 1 rfl ac_int (by decide) (by decide) (fun _ => rfl) (by decide) (Nat.le_of_ble_eq_true rfl) (Nat.le_of_ble_eq_true rfl) dX4_init_19 (fun q19 H hP hD hS => ?_)
  have hP : va_P D vwCl ((r, .inr (4, [.int 1000, .int 12, .int 0, .null, .int 0, .null, .null, .null, .null, .null, .int 0, .null, .null, .int 0, .null, .null, .null, .null, .null])) :: [(q19, .inl (dA 1, 4, .inl (fun _ => 0)))]) H := hP
  have hD : va_D A ((r, .inr (4, [.int 1000, .int 12, .int 0, .null, .int 0, .null, .null, .null, .null, .null, .int 0, .null, .null, .int 0, .null, .null, .null, .null, .null])) :: [(q19, .inl (dA 1, 4, .inl (fun _ => 0)))]) := hD
  refine y_putF C hin2 hP hD hS (T := TX4) (N := 19) rfl wsX4_in tyX4 tyX4_ok nmX4 3 18 (by decide) fl_X4_18 rfl rfl (ty := .array .int) (v := .ref q19) (by decide +kernel) rfl rfl (Nat.le_of_ble_eq_true rfl) dX4_init_21 (fun H locs hP hD hS => ?_)
  have hP : va_P D vwCl ((r, .inr (4, [.int 1000, .int 12, .int 0, .ref q19, .int 0, .null, .null, .null, .null, .null, .int 0, .null, .null, .int 0, .null, .null, .null, .null, .null])) :: [(q19, .inl (dA 1, 4, .inl (fun _ => 0)))]) H := hP
  have hD : va_D A ((r, .inr (4, [.int 1000, .int 12, .int 0, .ref q19, .int 0, .null, .null, .null, .null, .null, .int 0, .null, .null, .int 0, .null, .null, .null, .null, .null])) :: [(q19, .inl (dA 1, 4, .inl (fun _ => 0)))]) := hD
  refine lv_aload_n C.1 C.2.1 dX4_init_24 rfl (lv_at hl 0 rfl) ?_
  refine lv_bipush (v := 40) C.1 C.2.1 dX4_init_25 (by decide) ?_
  refine y_arr (a0 := (40, .inl (fun _ => 0))) (N := 40) C hA hP hD hS (ty := .int) rfl 1 rfl ac_int (by decide) (by decide) (fun _ => rfl) (by decide) (Nat.le_of_ble_eq_true rfl) (Nat.le_of_ble_eq_true rfl) dX4_init_27 (fun q27 H hP hD hS => ?_)
  have hP : va_P D vwCl ((r, .inr (4, [.int 1000, .int 12, .int 0, .ref q19, .int 0, .null, .null, .null, .null, .null, .int 0, .null, .null, .int 0, .null, .null, .null, .null, .null])) :: [(q19, .inl (dA 1, 4, .inl (fun _ => 0))), (q27, .inl (dA 1, 40, .inl (fun _ => 0)))]) H := hP
  have hD : va_D A ((r, .inr (4, [.int 1000, .int 12, .int 0, .ref q19, .int 0, .null, .null, .null, .null, .null, .int 0, .null, .null, .int 0, .null, .null, .null, .null, .null])) :: [(q19, .inl (dA 1, 4, .inl (fun _ => 0))), (q27, .inl (dA 1, 40, .inl (fun _ => 0)))]) := hD
  refine y_putF C hin2 hP hD hS (T := TX4) (N := 19) rfl wsX4_in tyX4 tyX4_ok nmX4 5 22 (by decide) fl_X4_22 rfl rfl (ty := .array .int) (v := .ref q27) (by decide +kernel) rfl rfl (Nat.le_of_ble_eq_true rfl) dX4_init_29 (fun H locs hP hD hS => ?_)
  have hP : va_P D vwCl ((r, .inr (4, [.int 1000, .int 12, .int 0, .ref q19, .int 0, .ref q27, .null, .null, .null, .null, .int 0, .null, .null, .int 0, .null, .null, .null, .null, .null])) :: [(q19, .inl (dA 1, 4, .inl (fun _ => 0))), (q27, .inl (dA 1, 40, .inl (fun _ => 0)))]) H := hP
  have hD : va_D A ((r, .inr (4, [.int 1000, .int 12, .int 0, .ref q19, .int 0, .ref q27, .null, .null, .null, .null, .int 0, .null, .null, .int 0, .null, .null, .null, .null, .null])) :: [(q19, .inl (dA 1, 4, .inl (fun _ => 0))), (q27, .inl (dA 1, 40, .inl (fun _ => 0)))]) := hD
  refine lv_aload_n C.1 C.2.1 dX4_init_32 rfl (lv_at hl 0 rfl) ?_
  refine lv_bipush (v := 40) C.1 C.2.1 dX4_init_33 (by decide) ?_
  refine y_arr (a0 := (40, .inl (fun _ => 0))) (N := 40) C hA hP hD hS (ty := .int) rfl 1 rfl ac_int (by decide) (by decide) (fun _ => rfl) (by decide) (Nat.le_of_ble_eq_true rfl) (Nat.le_of_ble_eq_true rfl) dX4_init_35 (fun q35 H hP hD hS => ?_)
  have hP : va_P D vwCl ((r, .inr (4, [.int 1000, .int 12, .int 0, .ref q19, .int 0, .ref q27, .null, .null, .null, .null, .int 0, .null, .null, .int 0, .null, .null, .null, .null, .null])) :: [(q19, .inl (dA 1, 4, .inl (fun _ => 0))), (q27, .inl (dA 1, 40, .inl (fun _ => 0))), (q35, .inl (dA 1, 40, .inl (fun _ => 0)))]) H := hP
  have hD : va_D A ((r, .inr (4, [.int 1000, .int 12, .int 0, .ref q19, .int 0, .ref q27, .null, .null, .null, .null, .int 0, .null, .null, .int 0, .null, .null, .null, .null, .null])) :: [(q19, .inl (dA 1, 4, .inl (fun _ => 0))), (q27, .inl (dA 1, 40, .inl (fun _ => 0))), (q35, .inl (dA 1, 40, .inl (fun _ => 0)))]) := hD
  refine y_putF C hin2 hP hD hS (T := TX4) (N := 19) rfl wsX4_in tyX4 tyX4_ok nmX4 6 25 (by decide) fl_X4_25 rfl rfl (ty := .array .int) (v := .ref q35) (by decide +kernel) rfl rfl (Nat.le_of_ble_eq_true rfl) dX4_init_37 (fun H locs hP hD hS => ?_)
  have hP : va_P D vwCl ((r, .inr (4, [.int 1000, .int 12, .int 0, .ref q19, .int 0, .ref q27, .ref q35, .null, .null, .null, .int 0, .null, .null, .int 0, .null, .null, .null, .null, .null])) :: [(q19, .inl (dA 1, 4, .inl (fun _ => 0))), (q27, .inl (dA 1, 40, .inl (fun _ => 0))), (q35, .inl (dA 1, 40, .inl (fun _ => 0)))]) H := hP
  have hD : va_D A ((r, .inr (4, [.int 1000, .int 12, .int 0, .ref q19, .int 0, .ref q27, .ref q35, .null, .null, .null, .int 0, .null, .null, .int 0, .null, .null, .null, .null, .null])) :: [(q19, .inl (dA 1, 4, .inl (fun _ => 0))), (q27, .inl (dA 1, 40, .inl (fun _ => 0))), (q35, .inl (dA 1, 40, .inl (fun _ => 0)))]) := hD
  refine lv_aload_n C.1 C.2.1 dX4_init_40 rfl (lv_at hl 0 rfl) ?_
  refine lv_bipush (v := 40) C.1 C.2.1 dX4_init_41 (by decide) ?_
  refine y_arr (a0 := (40, .inl (fun _ => 0))) (N := 40) C hA hP hD hS (ty := .int) rfl 1 rfl ac_int (by decide) (by decide) (fun _ => rfl) (by decide) (Nat.le_of_ble_eq_true rfl) (Nat.le_of_ble_eq_true rfl) dX4_init_43 (fun q43 H hP hD hS => ?_)
  have hP : va_P D vwCl ((r, .inr (4, [.int 1000, .int 12, .int 0, .ref q19, .int 0, .ref q27, .ref q35, .null, .null, .null, .int 0, .null, .null, .int 0, .null, .null, .null, .null, .null])) :: [(q19, .inl (dA 1, 4, .inl (fun _ => 0))), (q27, .inl (dA 1, 40, .inl (fun _ => 0))), (q35, .inl (dA 1, 40, .inl (fun _ => 0))), (q43, .inl (dA 1, 40, .inl (fun _ => 0)))]) H := hP
  have hD : va_D A ((r, .inr (4, [.int 1000, .int 12, .int 0, .ref q19, .int 0, .ref q27, .ref q35, .null, .null, .null, .int 0, .null, .null, .int 0, .null, .null, .null, .null, .null])) :: [(q19, .inl (dA 1, 4, .inl (fun _ => 0))), (q27, .inl (dA 1, 40, .inl (fun _ => 0))), (q35, .inl (dA 1, 40, .inl (fun _ => 0))), (q43, .inl (dA 1, 40, .inl (fun _ => 0)))]) := hD
  refine y_putF C hin2 hP hD hS (T := TX4) (N := 19) rfl wsX4_in tyX4 tyX4_ok nmX4 7 28 (by decide) fl_X4_28 rfl rfl (ty := .array .int) (v := .ref q43) (by decide +kernel) rfl rfl (Nat.le_of_ble_eq_true rfl) dX4_init_45 (fun H locs hP hD hS => ?_)
  have hP : va_P D vwCl ((r, .inr (4, [.int 1000, .int 12, .int 0, .ref q19, .int 0, .ref q27, .ref q35, .ref q43, .null, .null, .int 0, .null, .null, .int 0, .null, .null, .null, .null, .null])) :: [(q19, .inl (dA 1, 4, .inl (fun _ => 0))), (q27, .inl (dA 1, 40, .inl (fun _ => 0))), (q35, .inl (dA 1, 40, .inl (fun _ => 0))), (q43, .inl (dA 1, 40, .inl (fun _ => 0)))]) H := hP
  have hD : va_D A ((r, .inr (4, [.int 1000, .int 12, .int 0, .ref q19, .int 0, .ref q27, .ref q35, .ref q43, .null, .null, .int 0, .null, .null, .int 0, .null, .null, .null, .null, .null])) :: [(q19, .inl (dA 1, 4, .inl (fun _ => 0))), (q27, .inl (dA 1, 40, .inl (fun _ => 0))), (q35, .inl (dA 1, 40, .inl (fun _ => 0))), (q43, .inl (dA 1, 40, .inl (fun _ => 0)))]) := hD
  refine lv_aload_n C.1 C.2.1 dX4_init_48 rfl (lv_at hl 0 rfl) ?_
  refine lv_bipush (v := 40) C.1 C.2.1 dX4_init_49 (by decide) ?_
  refine y_arr (a0 := (40, .inl (fun _ => 0))) (N := 40) C hA hP hD hS (ty := .int) rfl 1 rfl ac_int (by decide) (by decide) (fun _ => rfl) (by decide) (Nat.le_of_ble_eq_true rfl) (Nat.le_of_ble_eq_true rfl) dX4_init_51 (fun q51 H hP hD hS => ?_)
  have hP : va_P D vwCl ((r, .inr (4, [.int 1000, .int 12, .int 0, .ref q19, .int 0, .ref q27, .ref q35, .ref q43, .null, .null, .int 0, .null, .null, .int 0, .null, .null, .null, .null, .null])) :: [(q19, .inl (dA 1, 4, .inl (fun _ => 0))), (q27, .inl (dA 1, 40, .inl (fun _ => 0))), (q35, .inl (dA 1, 40, .inl (fun _ => 0))), (q43, .inl (dA 1, 40, .inl (fun _ => 0))), (q51, .inl (dA 1, 40, .inl (fun _ => 0)))]) H := hP
  have hD : va_D A ((r, .inr (4, [.int 1000, .int 12, .int 0, .ref q19, .int 0, .ref q27, .ref q35, .ref q43, .null, .null, .int 0, .null, .null, .int 0, .null, .null, .null, .null, .null])) :: [(q19, .inl (dA 1, 4, .inl (fun _ => 0))), (q27, .inl (dA 1, 40, .inl (fun _ => 0))), (q35, .inl (dA 1, 40, .inl (fun _ => 0))), (q43, .inl (dA 1, 40, .inl (fun _ => 0))), (q51, .inl (dA 1, 40, .inl (fun _ => 0)))]) := hD
  refine y_putF C hin2 hP hD hS (T := TX4) (N := 19) rfl wsX4_in tyX4 tyX4_ok nmX4 8 31 (by decide) fl_X4_31 rfl rfl (ty := .array .int) (v := .ref q51) (by decide +kernel) rfl rfl (Nat.le_of_ble_eq_true rfl) dX4_init_53 (fun H locs hP hD hS => ?_)
  have hP : va_P D vwCl ((r, .inr (4, [.int 1000, .int 12, .int 0, .ref q19, .int 0, .ref q27, .ref q35, .ref q43, .ref q51, .null, .int 0, .null, .null, .int 0, .null, .null, .null, .null, .null])) :: [(q19, .inl (dA 1, 4, .inl (fun _ => 0))), (q27, .inl (dA 1, 40, .inl (fun _ => 0))), (q35, .inl (dA 1, 40, .inl (fun _ => 0))), (q43, .inl (dA 1, 40, .inl (fun _ => 0))), (q51, .inl (dA 1, 40, .inl (fun _ => 0)))]) H := hP
  have hD : va_D A ((r, .inr (4, [.int 1000, .int 12, .int 0, .ref q19, .int 0, .ref q27, .ref q35, .ref q43, .ref q51, .null, .int 0, .null, .null, .int 0, .null, .null, .null, .null, .null])) :: [(q19, .inl (dA 1, 4, .inl (fun _ => 0))), (q27, .inl (dA 1, 40, .inl (fun _ => 0))), (q35, .inl (dA 1, 40, .inl (fun _ => 0))), (q43, .inl (dA 1, 40, .inl (fun _ => 0))), (q51, .inl (dA 1, 40, .inl (fun _ => 0)))]) := hD
  refine lv_aload_n C.1 C.2.1 dX4_init_56 rfl (lv_at hl 0 rfl) ?_
  refine lv_bipush (v := 40) C.1 C.2.1 dX4_init_57 (by decide) ?_
  refine y_arr (a0 := (40, .inl (fun _ => 0))) (N := 40) C hA hP hD hS (ty := .int) rfl 1 rfl ac_int (by decide) (by decide) (fun _ => rfl) (by decide) (Nat.le_of_ble_eq_true rfl) (Nat.le_of_ble_eq_true rfl) dX4_init_59 (fun q59 H hP hD hS => ?_)
  have hP : va_P D vwCl ((r, .inr (4, [.int 1000, .int 12, .int 0, .ref q19, .int 0, .ref q27, .ref q35, .ref q43, .ref q51, .null, .int 0, .null, .null, .int 0, .null, .null, .null, .null, .null])) :: [(q19, .inl (dA 1, 4, .inl (fun _ => 0))), (q27, .inl (dA 1, 40, .inl (fun _ => 0))), (q35, .inl (dA 1, 40, .inl (fun _ => 0))), (q43, .inl (dA 1, 40, .inl (fun _ => 0))), (q51, .inl (dA 1, 40, .inl (fun _ => 0))), (q59, .inl (dA 1, 40, .inl (fun _ => 0)))]) H := hP
  have hD : va_D A ((r, .inr (4, [.int 1000, .int 12, .int 0, .ref q19, .int 0, .ref q27, .ref q35, .ref q43, .ref q51, .null, .int 0, .null, .null, .int 0, .null, .null, .null, .null, .null])) :: [(q19, .inl (dA 1, 4, .inl (fun _ => 0))), (q27, .inl (dA 1, 40, .inl (fun _ => 0))), (q35, .inl (dA 1, 40, .inl (fun _ => 0))), (q43, .inl (dA 1, 40, .inl (fun _ => 0))), (q51, .inl (dA 1, 40, .inl (fun _ => 0))), (q59, .inl (dA 1, 40, .inl (fun _ => 0)))]) := hD
  refine y_putF C hin2 hP hD hS (T := TX4) (N := 19) rfl wsX4_in tyX4 tyX4_ok nmX4 9 34 (by decide) fl_X4_34 rfl rfl (ty := .array .int) (v := .ref q59) (by decide +kernel) rfl rfl (Nat.le_of_ble_eq_true rfl) dX4_init_61 (fun H locs hP hD hS => ?_)
  have hP : va_P D vwCl ((r, .inr (4, [.int 1000, .int 12, .int 0, .ref q19, .int 0, .ref q27, .ref q35, .ref q43, .ref q51, .ref q59, .int 0, .null, .null, .int 0, .null, .null, .null, .null, .null])) :: [(q19, .inl (dA 1, 4, .inl (fun _ => 0))), (q27, .inl (dA 1, 40, .inl (fun _ => 0))), (q35, .inl (dA 1, 40, .inl (fun _ => 0))), (q43, .inl (dA 1, 40, .inl (fun _ => 0))), (q51, .inl (dA 1, 40, .inl (fun _ => 0))), (q59, .inl (dA 1, 40, .inl (fun _ => 0)))]) H := hP
  have hD : va_D A ((r, .inr (4, [.int 1000, .int 12, .int 0, .ref q19, .int 0, .ref q27, .ref q35, .ref q43, .ref q51, .ref q59, .int 0, .null, .null, .int 0, .null, .null, .null, .null, .null])) :: [(q19, .inl (dA 1, 4, .inl (fun _ => 0))), (q27, .inl (dA 1, 40, .inl (fun _ => 0))), (q35, .inl (dA 1, 40, .inl (fun _ => 0))), (q43, .inl (dA 1, 40, .inl (fun _ => 0))), (q51, .inl (dA 1, 40, .inl (fun _ => 0))), (q59, .inl (dA 1, 40, .inl (fun _ => 0)))]) := hD
  refine lv_aload_n C.1 C.2.1 dX4_init_64 rfl (lv_at hl 0 rfl) ?_
  refine lv_bipush (v := 12) C.1 C.2.1 dX4_init_65 (by decide) ?_
  refine y_arr (a0 := (12, .inl (fun _ => 0))) (N := 12) C hA hP hD hS (ty := .int) rfl 1 rfl ac_int (by decide) (by decide) (fun _ => rfl) (by decide) (Nat.le_of_ble_eq_true rfl) (Nat.le_of_ble_eq_true rfl) dX4_init_67 (fun q67 H hP hD hS => ?_)
  have hP : va_P D vwCl ((r, .inr (4, [.int 1000, .int 12, .int 0, .ref q19, .int 0, .ref q27, .ref q35, .ref q43, .ref q51, .ref q59, .int 0, .null, .null, .int 0, .null, .null, .null, .null, .null])) :: [(q19, .inl (dA 1, 4, .inl (fun _ => 0))), (q27, .inl (dA 1, 40, .inl (fun _ => 0))), (q35, .inl (dA 1, 40, .inl (fun _ => 0))), (q43, .inl (dA 1, 40, .inl (fun _ => 0))), (q51, .inl (dA 1, 40, .inl (fun _ => 0))), (q59, .inl (dA 1, 40, .inl (fun _ => 0))), (q67, .inl (dA 1, 12, .inl (fun _ => 0)))]) H := hP
  have hD : va_D A ((r, .inr (4, [.int 1000, .int 12, .int 0, .ref q19, .int 0, .ref q27, .ref q35, .ref q43, .ref q51, .ref q59, .int 0, .null, .null, .int 0, .null, .null, .null, .null, .null])) :: [(q19, .inl (dA 1, 4, .inl (fun _ => 0))), (q27, .inl (dA 1, 40, .inl (fun _ => 0))), (q35, .inl (dA 1, 40, .inl (fun _ => 0))), (q43, .inl (dA 1, 40, .inl (fun _ => 0))), (q51, .inl (dA 1, 40, .inl (fun _ => 0))), (q59, .inl (dA 1, 40, .inl (fun _ => 0))), (q67, .inl (dA 1, 12, .inl (fun _ => 0)))]) := hD
  refine y_putF C hin2 hP hD hS (T := TX4) (N := 19) rfl wsX4_in tyX4 tyX4_ok nmX4 11 37 (by decide) fl_X4_37 rfl rfl (ty := .array .int) (v := .ref q67) (by decide +kernel) rfl rfl (Nat.le_of_ble_eq_true rfl) dX4_init_69 (fun H locs hP hD hS => ?_)
  have hP : va_P D vwCl ((r, .inr (4, [.int 1000, .int 12, .int 0, .ref q19, .int 0, .ref q27, .ref q35, .ref q43, .ref q51, .ref q59, .int 0, .ref q67, .null, .int 0, .null, .null, .null, .null, .null])) :: [(q19, .inl (dA 1, 4, .inl (fun _ => 0))), (q27, .inl (dA 1, 40, .inl (fun _ => 0))), (q35, .inl (dA 1, 40, .inl (fun _ => 0))), (q43, .inl (dA 1, 40, .inl (fun _ => 0))), (q51, .inl (dA 1, 40, .inl (fun _ => 0))), (q59, .inl (dA 1, 40, .inl (fun _ => 0))), (q67, .inl (dA 1, 12, .inl (fun _ => 0)))]) H := hP
  have hD : va_D A ((r, .inr (4, [.int 1000, .int 12, .int 0, .ref q19, .int 0, .ref q27, .ref q35, .ref q43, .ref q51, .ref q59, .int 0, .ref q67, .null, .int 0, .null, .null, .null, .null, .null])) :: [(q19, .inl (dA 1, 4, .inl (fun _ => 0))), (q27, .inl (dA 1, 40, .inl (fun _ => 0))), (q35, .inl (dA 1, 40, .inl (fun _ => 0))), (q43, .inl (dA 1, 40, .inl (fun _ => 0))), (q51, .inl (dA 1, 40, .inl (fun _ => 0))), (q59, .inl (dA 1, 40, .inl (fun _ => 0))), (q67, .inl (dA 1, 12, .inl (fun _ => 0)))]) := hD
  refine lv_aload_n C.1 C.2.1 dX4_init_72 rfl (lv_at hl 0 rfl) ?_
  refine lv_bipush (v := 12) C.1 C.2.1 dX4_init_73 (by decide) ?_
  refine y_arr (a0 := (12, .inl (fun _ => 0))) (N := 12) C hA hP hD hS (ty := .int) rfl 1 rfl ac_int (by decide) (by decide) (fun _ => rfl) (by decide) (Nat.le_of_ble_eq_true rfl) (Nat.le_of_ble_eq_true rfl) dX4_init_75 (fun q75 H hP hD hS => ?_)
  have hP : va_P D vwCl ((r, .inr (4, [.int 1000, .int 12, .int 0, .ref q19, .int 0, .ref q27, .ref q35, .ref q43, .ref q51, .ref q59, .int 0, .ref q67, .null, .int 0, .null, .null, .null, .null, .null])) :: [(q19, .inl (dA 1, 4, .inl (fun _ => 0))), (q27, .inl (dA 1, 40, .inl (fun _ => 0))), (q35, .inl (dA 1, 40, .inl (fun _ => 0))), (q43, .inl (dA 1, 40, .inl (fun _ => 0))), (q51, .inl (dA 1, 40, .inl (fun _ => 0))), (q59, .inl (dA 1, 40, .inl (fun _ => 0))), (q67, .inl (dA 1, 12, .inl (fun _ => 0))), (q75, .inl (dA 1, 12, .inl (fun _ => 0)))]) H := hP
  have hD : va_D A ((r, .inr (4, [.int 1000, .int 12, .int 0, .ref q19, .int 0, .ref q27, .ref q35, .ref q43, .ref q51, .ref q59, .int 0, .ref q67, .null, .int 0, .null, .null, .null, .null, .null])) :: [(q19, .inl (dA 1, 4, .inl (fun _ => 0))), (q27, .inl (dA 1, 40, .inl (fun _ => 0))), (q35, .inl (dA 1, 40, .inl (fun _ => 0))), (q43, .inl (dA 1, 40, .inl (fun _ => 0))), (q51, .inl (dA 1, 40, .inl (fun _ => 0))), (q59, .inl (dA 1, 40, .inl (fun _ => 0))), (q67, .inl (dA 1, 12, .inl (fun _ => 0))), (q75, .inl (dA 1, 12, .inl (fun _ => 0)))]) := hD
  refine y_putF C hin2 hP hD hS (T := TX4) (N := 19) rfl wsX4_in tyX4 tyX4_ok nmX4 12 40 (by decide) fl_X4_40 rfl rfl (ty := .array .int) (v := .ref q75) (by decide +kernel) rfl rfl (Nat.le_of_ble_eq_true rfl) dX4_init_77 (fun H locs hP hD hS => ?_)
  have hP : va_P D vwCl ((r, .inr (4, [.int 1000, .int 12, .int 0, .ref q19, .int 0, .ref q27, .ref q35, .ref q43, .ref q51, .ref q59, .int 0, .ref q67, .ref q75, .int 0, .null, .null, .null, .null, .null])) :: [(q19, .inl (dA 1, 4, .inl (fun _ => 0))), (q27, .inl (dA 1, 40, .inl (fun _ => 0))), (q35, .inl (dA 1, 40, .inl (fun _ => 0))), (q43, .inl (dA 1, 40, .inl (fun _ => 0))), (q51, .inl (dA 1, 40, .inl (fun _ => 0))), (q59, .inl (dA 1, 40, .inl (fun _ => 0))), (q67, .inl (dA 1, 12, .inl (fun _ => 0))), (q75, .inl (dA 1, 12, .inl (fun _ => 0)))]) H := hP
  have hD : va_D A ((r, .inr (4, [.int 1000, .int 12, .int 0, .ref q19, .int 0, .ref q27, .ref q35, .ref q43, .ref q51, .ref q59, .int 0, .ref q67, .ref q75, .int 0, .null, .null, .null, .null, .null])) :: [(q19, .inl (dA 1, 4, .inl (fun _ => 0))), (q27, .inl (dA 1, 40, .inl (fun _ => 0))), (q35, .inl (dA 1, 40, .inl (fun _ => 0))), (q43, .inl (dA 1, 40, .inl (fun _ => 0))), (q51, .inl (dA 1, 40, .inl (fun _ => 0))), (q59, .inl (dA 1, 40, .inl (fun _ => 0))), (q67, .inl (dA 1, 12, .inl (fun _ => 0))), (q75, .inl (dA 1, 12, .inl (fun _ => 0)))]) := hD
  refine lv_aload_n C.1 C.2.1 dX4_init_80 rfl (lv_at hl 0 rfl) ?_
  refine lv_bipush (v := 41) C.1 C.2.1 dX4_init_81 (by decide) ?_
  refine y_arr (a0 := (41, .inl (fun _ => 0))) (N := 41) C hA hP hD hS (ty := .int) rfl 1 rfl ac_int (by decide) (by decide) (fun _ => rfl) (by decide) (Nat.le_of_ble_eq_true rfl) (Nat.le_of_ble_eq_true rfl) dX4_init_83 (fun q83 H hP hD hS => ?_)
  have hP : va_P D vwCl ((r, .inr (4, [.int 1000, .int 12, .int 0, .ref q19, .int 0, .ref q27, .ref q35, .ref q43, .ref q51, .ref q59, .int 0, .ref q67, .ref q75, .int 0, .null, .null, .null, .null, .null])) :: [(q19, .inl (dA 1, 4, .inl (fun _ => 0))), (q27, .inl (dA 1, 40, .inl (fun _ => 0))), (q35, .inl (dA 1, 40, .inl (fun _ => 0))), (q43, .inl (dA 1, 40, .inl (fun _ => 0))), (q51, .inl (dA 1, 40, .inl (fun _ => 0))), (q59, .inl (dA 1, 40, .inl (fun _ => 0))), (q67, .inl (dA 1, 12, .inl (fun _ => 0))), (q75, .inl (dA 1, 12, .inl (fun _ => 0))), (q83, .inl (dA 1, 41, .inl (fun _ => 0)))]) H := hP
  have hD : va_D A ((r, .inr (4, [.int 1000, .int 12, .int 0, .ref q19, .int 0, .ref q27, .ref q35, .ref q43, .ref q51, .ref q59, .int 0, .ref q67, .ref q75, .int 0, .null, .null, .null, .null, .null])) :: [(q19, .inl (dA 1, 4, .inl (fun _ => 0))), (q27, .inl (dA 1, 40, .inl (fun _ => 0))), (q35, .inl (dA 1, 40, .inl (fun _ => 0))), (q43, .inl (dA 1, 40, .inl (fun _ => 0))), (q51, .inl (dA 1, 40, .inl (fun _ => 0))), (q59, .inl (dA 1, 40, .inl (fun _ => 0))), (q67, .inl (dA 1, 12, .inl (fun _ => 0))), (q75, .inl (dA 1, 12, .inl (fun _ => 0))), (q83, .inl (dA 1, 41, .inl (fun _ => 0)))]) := hD
  refine y_putF C hin2 hP hD hS (T := TX4) (N := 19) rfl wsX4_in tyX4 tyX4_ok nmX4 14 43 (by decide) fl_X4_43 rfl rfl (ty := .array .int) (v := .ref q83) (by decide +kernel) rfl rfl (Nat.le_of_ble_eq_true rfl) dX4_init_85 (fun H locs hP hD hS => ?_)
  have hP : va_P D vwCl ((r, .inr (4, [.int 1000, .int 12, .int 0, .ref q19, .int 0, .ref q27, .ref q35, .ref q43, .ref q51, .ref q59, .int 0, .ref q67, .ref q75, .int 0, .ref q83, .null, .null, .null, .null])) :: [(q19, .inl (dA 1, 4, .inl (fun _ => 0))), (q27, .inl (dA 1, 40, .inl (fun _ => 0))), (q35, .inl (dA 1, 40, .inl (fun _ => 0))), (q43, .inl (dA 1, 40, .inl (fun _ => 0))), (q51, .inl (dA 1, 40, .inl (fun _ => 0))), (q59, .inl (dA 1, 40, .inl (fun _ => 0))), (q67, .inl (dA 1, 12, .inl (fun _ => 0))), (q75, .inl (dA 1, 12, .inl (fun _ => 0))), (q83, .inl (dA 1, 41, .inl (fun _ => 0)))]) H := hP
  have hD : va_D A ((r, .inr (4, [.int 1000, .int 12, .int 0, .ref q19, .int 0, .ref q27, .ref q35, .ref q43, .ref q51, .ref q59, .int 0, .ref q67, .ref q75, .int 0, .ref q83, .null, .null, .null, .null])) :: [(q19, .inl (dA 1, 4, .inl (fun _ => 0))), (q27, .inl (dA 1, 40, .inl (fun _ => 0))), (q35, .inl (dA 1, 40, .inl (fun _ => 0))), (q43, .inl (dA 1, 40, .inl (fun _ => 0))), (q51, .inl (dA 1, 40, .inl (fun _ => 0))), (q59, .inl (dA 1, 40, .inl (fun _ => 0))), (q67, .inl (dA 1, 12, .inl (fun _ => 0))), (q75, .inl (dA 1, 12, .inl (fun _ => 0))), (q83, .inl (dA 1, 41, .inl (fun _ => 0)))]) := hD
  refine lv_aload_n C.1 C.2.1 dX4_init_88 rfl (lv_at hl 0 rfl) ?_
  refine lv_bipush (v := 40) C.1 C.2.1 dX4_init_89 (by decide) ?_
  refine y_arr (a0 := (40, .inl (fun _ => 0))) (N := 40) C hA hP hD hS (ty := .int) rfl 1 rfl ac_int (by decide) (by decide) (fun _ => rfl) (by decide) (Nat.le_of_ble_eq_true rfl) (Nat.le_of_ble_eq_true rfl) dX4_init_91 (fun q91 H hP hD hS => ?_)
  have hP : va_P D vwCl ((r, .inr (4, [.int 1000, .int 12, .int 0, .ref q19, .int 0, .ref q27, .ref q35, .ref q43, .ref q51, .ref q59, .int 0, .ref q67, .ref q75, .int 0, .ref q83, .null, .null, .null, .null])) :: [(q19, .inl (dA 1, 4, .inl (fun _ => 0))), (q27, .inl (dA 1, 40, .inl (fun _ => 0))), (q35, .inl (dA 1, 40, .inl (fun _ => 0))), (q43, .inl (dA 1, 40, .inl (fun _ => 0))), (q51, .inl (dA 1, 40, .inl (fun _ => 0))), (q59, .inl (dA 1, 40, .inl (fun _ => 0))), (q67, .inl (dA 1, 12, .inl (fun _ => 0))), (q75, .inl (dA 1, 12, .inl (fun _ => 0))), (q83, .inl (dA 1, 41, .inl (fun _ => 0))), (q91, .inl (dA 1, 40, .inl (fun _ => 0)))]) H := hP
  have hD : va_D A ((r, .inr (4, [.int 1000, .int 12, .int 0, .ref q19, .int 0, .ref q27, .ref q35, .ref q43, .ref q51, .ref q59, .int 0, .ref q67, .ref q75, .int 0, .ref q83, .null, .null, .null, .null])) :: [(q19, .inl (dA 1, 4, .inl (fun _ => 0))), (q27, .inl (dA 1, 40, .inl (fun _ => 0))), (q35, .inl (dA 1, 40, .inl (fun _ => 0))), (q43, .inl (dA 1, 40, .inl (fun _ => 0))), (q51, .inl (dA 1, 40, .inl (fun _ => 0))), (q59, .inl (dA 1, 40, .inl (fun _ => 0))), (q67, .inl (dA 1, 12, .inl (fun _ => 0))), (q75, .inl (dA 1, 12, .inl (fun _ => 0))), (q83, .inl (dA 1, 41, .inl (fun _ => 0))), (q91, .inl (dA 1, 40, .inl (fun _ => 0)))]) := hD
  refine y_putF C hin2 hP hD hS (T := TX4) (N := 19) rfl wsX4_in tyX4 tyX4_ok nmX4 15 46 (by decide) fl_X4_46 rfl rfl (ty := .array .int) (v := .ref q91) (by decide +kernel) rfl rfl (Nat.le_of_ble_eq_true rfl) dX4_init_93 (fun H locs hP hD hS => ?_)
  have hP : va_P D vwCl ((r, .inr (4, [.int 1000, .int 12, .int 0, .ref q19, .int 0, .ref q27, .ref q35, .ref q43, .ref q51, .ref q59, .int 0, .ref q67, .ref q75, .int 0, .ref q83, .ref q91, .null, .null, .null])) :: [(q19, .inl (dA 1, 4, .inl (fun _ => 0))), (q27, .inl (dA 1, 40, .inl (fun _ => 0))), (q35, .inl (dA 1, 40, .inl (fun _ => 0))), (q43, .inl (dA 1, 40, .inl (fun _ => 0))), (q51, .inl (dA 1, 40, .inl (fun _ => 0))), (q59, .inl (dA 1, 40, .inl (fun _ => 0))), (q67, .inl (dA 1, 12, .inl (fun _ => 0))), (q75, .inl (dA 1, 12, .inl (fun _ => 0))), (q83, .inl (dA 1, 41, .inl (fun _ => 0))), (q91, .inl (dA 1, 40, .inl (fun _ => 0)))]) H := hP
  have hD : va_D A ((r, .inr (4, [.int 1000, .int 12, .int 0, .ref q19, .int 0, .ref q27, .ref q35, .ref q43, .ref q51, .ref q59, .int 0, .ref q67, .ref q75, .int 0, .ref q83, .ref q91, .null, .null, .null])) :: [(q19, .inl (dA 1, 4, .inl (fun _ => 0))), (q27, .inl (dA 1, 40, .inl (fun _ => 0))), (q35, .inl (dA 1, 40, .inl (fun _ => 0))), (q43, .inl (dA 1, 40, .inl (fun _ => 0))), (q51, .inl (dA 1, 40, .inl (fun _ => 0))), (q59, .inl (dA 1, 40, .inl (fun _ => 0))), (q67, .inl (dA 1, 12, .inl (fun _ => 0))), (q75, .inl (dA 1, 12, .inl (fun _ => 0))), (q83, .inl (dA 1, 41, .inl (fun _ => 0))), (q91, .inl (dA 1, 40, .inl (fun _ => 0)))]) := hD
  refine lv_aload_n C.1 C.2.1 dX4_init_96 rfl (lv_at hl 0 rfl) ?_
  refine lv_bipush (v := 40) C.1 C.2.1 dX4_init_97 (by decide) ?_
  refine y_arr (a0 := (40, .inl (fun _ => 0))) (N := 40) C hA hP hD hS (ty := .int) rfl 1 rfl ac_int (by decide) (by decide) (fun _ => rfl) (by decide) (Nat.le_of_ble_eq_true rfl) (Nat.le_of_ble_eq_true rfl) dX4_init_99 (fun q99 H hP hD hS => ?_)
  have hP : va_P D vwCl ((r, .inr (4, [.int 1000, .int 12, .int 0, .ref q19, .int 0, .ref q27, .ref q35, .ref q43, .ref q51, .ref q59, .int 0, .ref q67, .ref q75, .int 0, .ref q83, .ref q91, .null, .null, .null])) :: [(q19, .inl (dA 1, 4, .inl (fun _ => 0))), (q27, .inl (dA 1, 40, .inl (fun _ => 0))), (q35, .inl (dA 1, 40, .inl (fun _ => 0))), (q43, .inl (dA 1, 40, .inl (fun _ => 0))), (q51, .inl (dA 1, 40, .inl (fun _ => 0))), (q59, .inl (dA 1, 40, .inl (fun _ => 0))), (q67, .inl (dA 1, 12, .inl (fun _ => 0))), (q75, .inl (dA 1, 12, .inl (fun _ => 0))), (q83, .inl (dA 1, 41, .inl (fun _ => 0))), (q91, .inl (dA 1, 40, .inl (fun _ => 0))), (q99, .inl (dA 1, 40, .inl (fun _ => 0)))]) H := hP
  have hD : va_D A ((r, .inr (4, [.int 1000, .int 12, .int 0, .ref q19, .int 0, .ref q27, .ref q35, .ref q43, .ref q51, .ref q59, .int 0, .ref q67, .ref q75, .int 0, .ref q83, .ref q91, .null, .null, .null])) :: [(q19, .inl (dA 1, 4, .inl (fun _ => 0))), (q27, .inl (dA 1, 40, .inl (fun _ => 0))), (q35, .inl (dA 1, 40, .inl (fun _ => 0))), (q43, .inl (dA 1, 40, .inl (fun _ => 0))), (q51, .inl (dA 1, 40, .inl (fun _ => 0))), (q59, .inl (dA 1, 40, .inl (fun _ => 0))), (q67, .inl (dA 1, 12, .inl (fun _ => 0))), (q75, .inl (dA 1, 12, .inl (fun _ => 0))), (q83, .inl (dA 1, 41, .inl (fun _ => 0))), (q91, .inl (dA 1, 40, .inl (fun _ => 0))), (q99, .inl (dA 1, 40, .inl (fun _ => 0)))]) := hD
  refine y_putF C hin2 hP hD hS (T := TX4) (N := 19) rfl wsX4_in tyX4 tyX4_ok nmX4 16 49 (by decide) fl_X4_49 rfl rfl (ty := .array .int) (v := .ref q99) (by decide +kernel) rfl rfl (Nat.le_of_ble_eq_true rfl) dX4_init_101 (fun H locs hP hD hS => ?_)
  have hP : va_P D vwCl ((r, .inr (4, [.int 1000, .int 12, .int 0, .ref q19, .int 0, .ref q27, .ref q35, .ref q43, .ref q51, .ref q59, .int 0, .ref q67, .ref q75, .int 0, .ref q83, .ref q91, .ref q99, .null, .null])) :: [(q19, .inl (dA 1, 4, .inl (fun _ => 0))), (q27, .inl (dA 1, 40, .inl (fun _ => 0))), (q35, .inl (dA 1, 40, .inl (fun _ => 0))), (q43, .inl (dA 1, 40, .inl (fun _ => 0))), (q51, .inl (dA 1, 40, .inl (fun _ => 0))), (q59, .inl (dA 1, 40, .inl (fun _ => 0))), (q67, .inl (dA 1, 12, .inl (fun _ => 0))), (q75, .inl (dA 1, 12, .inl (fun _ => 0))), (q83, .inl (dA 1, 41, .inl (fun _ => 0))), (q91, .inl (dA 1, 40, .inl (fun _ => 0))), (q99, .inl (dA 1, 40, .inl (fun _ => 0)))]) H := hP
  have hD : va_D A ((r, .inr (4, [.int 1000, .int 12, .int 0, .ref q19, .int 0, .ref q27, .ref q35, .ref q43, .ref q51, .ref q59, .int 0, .ref q67, .ref q75, .int 0, .ref q83, .ref q91, .ref q99, .null, .null])) :: [(q19, .inl (dA 1, 4, .inl (fun _ => 0))), (q27, .inl (dA 1, 40, .inl (fun _ => 0))), (q35, .inl (dA 1, 40, .inl (fun _ => 0))), (q43, .inl (dA 1, 40, .inl (fun _ => 0))), (q51, .inl (dA 1, 40, .inl (fun _ => 0))), (q59, .inl (dA 1, 40, .inl (fun _ => 0))), (q67, .inl (dA 1, 12, .inl (fun _ => 0))), (q75, .inl (dA 1, 12, .inl (fun _ => 0))), (q83, .inl (dA 1, 41, .inl (fun _ => 0))), (q91, .inl (dA 1, 40, .inl (fun _ => 0))), (q99, .inl (dA 1, 40, .inl (fun _ => 0)))]) := hD
  refine lv_aload_n C.1 C.2.1 dX4_init_104 rfl (lv_at hl 0 rfl) ?_
  refine lv_bipush (v := 40) C.1 C.2.1 dX4_init_105 (by decide) ?_
  refine y_arr (a0 := (40, .inl (fun _ => 0))) (N := 40) C hA hP hD hS (ty := .int) rfl 1 rfl ac_int (by decide) (by decide) (fun _ => rfl) (by decide) (Nat.le_of_ble_eq_true rfl) (Nat.le_of_ble_eq_true rfl) dX4_init_107 (fun q107 H hP hD hS => ?_)
  have hP : va_P D vwCl ((r, .inr (4, [.int 1000, .int 12, .int 0, .ref q19, .int 0, .ref q27, .ref q35, .ref q43, .ref q51, .ref q59, .int 0, .ref q67, .ref q75, .int 0, .ref q83, .ref q91, .ref q99, .null, .null])) :: [(q19, .inl (dA 1, 4, .inl (fun _ => 0))), (q27, .inl (dA 1, 40, .inl (fun _ => 0))), (q35, .inl (dA 1, 40, .inl (fun _ => 0))), (q43, .inl (dA 1, 40, .inl (fun _ => 0))), (q51, .inl (dA 1, 40, .inl (fun _ => 0))), (q59, .inl (dA 1, 40, .inl (fun _ => 0))), (q67, .inl (dA 1, 12, .inl (fun _ => 0))), (q75, .inl (dA 1, 12, .inl (fun _ => 0))), (q83, .inl (dA 1, 41, .inl (fun _ => 0))), (q91, .inl (dA 1, 40, .inl (fun _ => 0))), (q99, .inl (dA 1, 40, .inl (fun _ => 0))), (q107, .inl (dA 1, 40, .inl (fun _ => 0)))]) H := hP
  have hD : va_D A ((r, .inr (4, [.int 1000, .int 12, .int 0, .ref q19, .int 0, .ref q27, .ref q35, .ref q43, .ref q51, .ref q59, .int 0, .ref q67, .ref q75, .int 0, .ref q83, .ref q91, .ref q99, .null, .null])) :: [(q19, .inl (dA 1, 4, .inl (fun _ => 0))), (q27, .inl (dA 1, 40, .inl (fun _ => 0))), (q35, .inl (dA 1, 40, .inl (fun _ => 0))), (q43, .inl (dA 1, 40, .inl (fun _ => 0))), (q51, .inl (dA 1, 40, .inl (fun _ => 0))), (q59, .inl (dA 1, 40, .inl (fun _ => 0))), (q67, .inl (dA 1, 12, .inl (fun _ => 0))), (q75, .inl (dA 1, 12, .inl (fun _ => 0))), (q83, .inl (dA 1, 41, .inl (fun _ => 0))), (q91, .inl (dA 1, 40, .inl (fun _ => 0))), (q99, .inl (dA 1, 40, .inl (fun _ => 0))), (q107, .inl (dA 1, 40, .inl (fun _ => 0)))]) := hD
  refine y_putF C hin2 hP hD hS (T := TX4) (N := 19) rfl wsX4_in tyX4 tyX4_ok nmX4 17 52 (by decide) fl_X4_52 rfl rfl (ty := .array .int) (v := .ref q107) (by decide +kernel) rfl rfl (Nat.le_of_ble_eq_true rfl) dX4_init_109 (fun H locs hP hD hS => ?_)
  have hP : va_P D vwCl ((r, .inr (4, [.int 1000, .int 12, .int 0, .ref q19, .int 0, .ref q27, .ref q35, .ref q43, .ref q51, .ref q59, .int 0, .ref q67, .ref q75, .int 0, .ref q83, .ref q91, .ref q99, .ref q107, .null])) :: [(q19, .inl (dA 1, 4, .inl (fun _ => 0))), (q27, .inl (dA 1, 40, .inl (fun _ => 0))), (q35, .inl (dA 1, 40, .inl (fun _ => 0))), (q43, .inl (dA 1, 40, .inl (fun _ => 0))), (q51, .inl (dA 1, 40, .inl (fun _ => 0))), (q59, .inl (dA 1, 40, .inl (fun _ => 0))), (q67, .inl (dA 1, 12, .inl (fun _ => 0))), (q75, .inl (dA 1, 12, .inl (fun _ => 0))), (q83, .inl (dA 1, 41, .inl (fun _ => 0))), (q91, .inl (dA 1, 40, .inl (fun _ => 0))), (q99, .inl (dA 1, 40, .inl (fun _ => 0))), (q107, .inl (dA 1, 40, .inl (fun _ => 0)))]) H := hP
  have hD : va_D A ((r, .inr (4, [.int 1000, .int 12, .int 0, .ref q19, .int 0, .ref q27, .ref q35, .ref q43, .ref q51, .ref q59, .int 0, .ref q67, .ref q75, .int 0, .ref q83, .ref q91, .ref q99, .ref q107, .null])) :: [(q19, .inl (dA 1, 4, .inl (fun _ => 0))), (q27, .inl (dA 1, 40, .inl (fun _ => 0))), (q35, .inl (dA 1, 40, .inl (fun _ => 0))), (q43, .inl (dA 1, 40, .inl (fun _ => 0))), (q51, .inl (dA 1, 40, .inl (fun _ => 0))), (q59, .inl (dA 1, 40, .inl (fun _ => 0))), (q67, .inl (dA 1, 12, .inl (fun _ => 0))), (q75, .inl (dA 1, 12, .inl (fun _ => 0))), (q83, .inl (dA 1, 41, .inl (fun _ => 0))), (q91, .inl (dA 1, 40, .inl (fun _ => 0))), (q99, .inl (dA 1, 40, .inl (fun _ => 0))), (q107, .inl (dA 1, 40, .inl (fun _ => 0)))]) := hD
  refine lv_aload_n C.1 C.2.1 dX4_init_112 rfl (lv_at hl 0 rfl) ?_
  refine lv_bipush (v := 40) C.1 C.2.1 dX4_init_113 (by decide) ?_
  refine y_arr (a0 := (40, .inl (fun _ => 0))) (N := 40) C hA hP hD hS (ty := .boolean) rfl 2 rfl ac_boolean (by decide) (by decide) (fun _ => rfl) (by decide) (Nat.le_of_ble_eq_true rfl) (Nat.le_of_ble_eq_true rfl) dX4_init_115 (fun q115 H hP hD hS => ?_)
  have hP : va_P D vwCl ((r, .inr (4, [.int 1000, .int 12, .int 0, .ref q19, .int 0, .ref q27, .ref q35, .ref q43, .ref q51, .ref q59, .int 0, .ref q67, .ref q75, .int 0, .ref q83, .ref q91, .ref q99, .ref q107, .null])) :: [(q19, .inl (dA 1, 4, .inl (fun _ => 0))), (q27, .inl (dA 1, 40, .inl (fun _ => 0))), (q35, .inl (dA 1, 40, .inl (fun _ => 0))), (q43, .inl (dA 1, 40, .inl (fun _ => 0))), (q51, .inl (dA 1, 40, .inl (fun _ => 0))), (q59, .inl (dA 1, 40, .inl (fun _ => 0))), (q67, .inl (dA 1, 12, .inl (fun _ => 0))), (q75, .inl (dA 1, 12, .inl (fun _ => 0))), (q83, .inl (dA 1, 41, .inl (fun _ => 0))), (q91, .inl (dA 1, 40, .inl (fun _ => 0))), (q99, .inl (dA 1, 40, .inl (fun _ => 0))), (q107, .inl (dA 1, 40, .inl (fun _ => 0))), (q115, .inl (dA 2, 40, .inl (fun _ => 0)))]) H := hP
  have hD : va_D A ((r, .inr (4, [.int 1000, .int 12, .int 0, .ref q19, .int 0, .ref q27, .ref q35, .ref q43, .ref q51, .ref q59, .int 0, .ref q67, .ref q75, .int 0, .ref q83, .ref q91, .ref q99, .ref q107, .null])) :: [(q19, .inl (dA 1, 4, .inl (fun _ => 0))), (q27, .inl (dA 1, 40, .inl (fun _ => 0))), (q35, .inl (dA 1, 40, .inl (fun _ => 0))), (q43, .inl (dA 1, 40, .inl (fun _ => 0))), (q51, .inl (dA 1, 40, .inl (fun _ => 0))), (q59, .inl (dA 1, 40, .inl (fun _ => 0))), (q67, .inl (dA 1, 12, .inl (fun _ => 0))), (q75, .inl (dA 1, 12, .inl (fun _ => 0))), (q83, .inl (dA 1, 41, .inl (fun _ => 0))), (q91, .inl (dA 1, 40, .inl (fun _ => 0))), (q99, .inl (dA 1, 40, .inl (fun _ => 0))), (q107, .inl (dA 1, 40, .inl (fun _ => 0))), (q115, .inl (dA 2, 40, .inl (fun _ => 0)))]) := hD
  refine y_putF C hin2 hP hD hS (T := TX4) (N := 19) rfl wsX4_in tyX4 tyX4_ok nmX4 18 55 (by decide) fl_X4_55 rfl rfl (ty := .array .boolean) (v := .ref q115) (by decide +kernel) rfl rfl (Nat.le_of_ble_eq_true rfl) dX4_init_117 (fun H locs hP hD hS => ?_)
  have hP : va_P D vwCl ((r, .inr (4, [.int 1000, .int 12, .int 0, .ref q19, .int 0, .ref q27, .ref q35, .ref q43, .ref q51, .ref q59, .int 0, .ref q67, .ref q75, .int 0, .ref q83, .ref q91, .ref q99, .ref q107, .ref q115])) :: [(q19, .inl (dA 1, 4, .inl (fun _ => 0))), (q27, .inl (dA 1, 40, .inl (fun _ => 0))), (q35, .inl (dA 1, 40, .inl (fun _ => 0))), (q43, .inl (dA 1, 40, .inl (fun _ => 0))), (q51, .inl (dA 1, 40, .inl (fun _ => 0))), (q59, .inl (dA 1, 40, .inl (fun _ => 0))), (q67, .inl (dA 1, 12, .inl (fun _ => 0))), (q75, .inl (dA 1, 12, .inl (fun _ => 0))), (q83, .inl (dA 1, 41, .inl (fun _ => 0))), (q91, .inl (dA 1, 40, .inl (fun _ => 0))), (q99, .inl (dA 1, 40, .inl (fun _ => 0))), (q107, .inl (dA 1, 40, .inl (fun _ => 0))), (q115, .inl (dA 2, 40, .inl (fun _ => 0)))]) H := hP
  have hD : va_D A ((r, .inr (4, [.int 1000, .int 12, .int 0, .ref q19, .int 0, .ref q27, .ref q35, .ref q43, .ref q51, .ref q59, .int 0, .ref q67, .ref q75, .int 0, .ref q83, .ref q91, .ref q99, .ref q107, .ref q115])) :: [(q19, .inl (dA 1, 4, .inl (fun _ => 0))), (q27, .inl (dA 1, 40, .inl (fun _ => 0))), (q35, .inl (dA 1, 40, .inl (fun _ => 0))), (q43, .inl (dA 1, 40, .inl (fun _ => 0))), (q51, .inl (dA 1, 40, .inl (fun _ => 0))), (q59, .inl (dA 1, 40, .inl (fun _ => 0))), (q67, .inl (dA 1, 12, .inl (fun _ => 0))), (q75, .inl (dA 1, 12, .inl (fun _ => 0))), (q83, .inl (dA 1, 41, .inl (fun _ => 0))), (q91, .inl (dA 1, 40, .inl (fun _ => 0))), (q99, .inl (dA 1, 40, .inl (fun _ => 0))), (q107, .inl (dA 1, 40, .inl (fun _ => 0))), (q115, .inl (dA 2, 40, .inl (fun _ => 0)))]) := hD
  exact y_ret C hr hlocks hS (fun i => [r, q19, q27, q35, q43, q51, q59, q67, q75, q83, q91, q99, q107, q115].getD i 0) rfl hP hD dX4_init_120
abbrev cX6_init : ByteArray := prog_8_method_1_code
def yX6_init : MethodName := ⟨RX6, "<init>", "()V"⟩
theorem dX6_init_0 : decode cX6_init 0 = .ok (.aload_n 0, 1) := by decide +kernel
theorem dX6_init_1 : decode cX6_init 1 = .ok (.invokespecial 3, 3) := by decide +kernel
theorem dX6_init_4 : decode cX6_init 4 = .ok (.aload_n 0, 1) := by decide +kernel
theorem dX6_init_5 : decode cX6_init 5 = .ok (.bipush 30, 2) := by decide +kernel
theorem dX6_init_7 : decode cX6_init 7 = .ok (.newarray .int, 2) := by decide +kernel
theorem dX6_init_9 : decode cX6_init 9 = .ok (.putfield 9, 3) := by decide +kernel
theorem dX6_init_12 : decode cX6_init 12 = .ok (.aload_n 0, 1) := by decide +kernel
theorem dX6_init_13 : decode cX6_init 13 = .ok (.bipush 30, 2) := by decide +kernel
theorem dX6_init_15 : decode cX6_init 15 = .ok (.newarray .int, 2) := by decide +kernel
theorem dX6_init_17 : decode cX6_init 17 = .ok (.putfield 15, 3) := by decide +kernel
theorem dX6_init_20 : decode cX6_init 20 = .ok (.aload_n 0, 1) := by decide +kernel
theorem dX6_init_21 : decode cX6_init 21 = .ok (.bipush 30, 2) := by decide +kernel
theorem dX6_init_23 : decode cX6_init 23 = .ok (.newarray .int, 2) := by decide +kernel
theorem dX6_init_25 : decode cX6_init 25 = .ok (.putfield 18, 3) := by decide +kernel
theorem dX6_init_28 : decode cX6_init 28 = .ok (.aload_n 0, 1) := by decide +kernel
theorem dX6_init_29 : decode cX6_init 29 = .ok (.bipush 30, 2) := by decide +kernel
theorem dX6_init_31 : decode cX6_init 31 = .ok (.newarray .int, 2) := by decide +kernel
theorem dX6_init_33 : decode cX6_init 33 = .ok (.putfield 21, 3) := by decide +kernel
theorem dX6_init_36 : decode cX6_init 36 = .ok (.aload_n 0, 1) := by decide +kernel
theorem dX6_init_37 : decode cX6_init 37 = .ok (.bipush 60, 2) := by decide +kernel
theorem dX6_init_39 : decode cX6_init 39 = .ok (.newarray .int, 2) := by decide +kernel
theorem dX6_init_41 : decode cX6_init 41 = .ok (.putfield 24, 3) := by decide +kernel
theorem dX6_init_44 : decode cX6_init 44 = .ok (.aload_n 0, 1) := by decide +kernel
theorem dX6_init_45 : decode cX6_init 45 = .ok (.sipush 360, 3) := by decide +kernel
theorem dX6_init_48 : decode cX6_init 48 = .ok (.newarray .int, 2) := by decide +kernel
theorem dX6_init_50 : decode cX6_init 50 = .ok (.putfield 27, 3) := by decide +kernel
theorem dX6_init_53 : decode cX6_init 53 = .ok (.return_, 1) := by decide +kernel
theorem ci_X6_init : Cond.instanceMethod yX6_init ∈ TW := TW_of 305 (by decide +kernel) (by decide +kernel)
theorem cc_X6_init : Cond.code yX6_init cX6_init 1 none ∈ TW := TW_of 306 (by decide +kernel) (by decide +kernel)
theorem cd_X6_init : yX6_init.cls ≠ "java/lang/invoke/MethodHandle" ∧ yX6_init.cls ≠ "java/lang/invoke/VarHandle" ∧ (parseMethodDescriptor yX6_init.desc).map (fun d => d.parameters.length) = some 0 := by decide +kernel
theorem fl_X6_9 : Cond.fieldLink RX6 9 RX6 (TX6 1).2.1 (TX6 1).2.2.1 ∈ TW := TW_of 310 (by decide +kernel) (by decide +kernel)
theorem fl_X6_15 : Cond.fieldLink RX6 15 RX6 (TX6 2).2.1 (TX6 2).2.2.1 ∈ TW := TW_of 312 (by decide +kernel) (by decide +kernel)
theorem fl_X6_18 : Cond.fieldLink RX6 18 RX6 (TX6 3).2.1 (TX6 3).2.2.1 ∈ TW := TW_of 314 (by decide +kernel) (by decide +kernel)
theorem fl_X6_21 : Cond.fieldLink RX6 21 RX6 (TX6 4).2.1 (TX6 4).2.2.1 ∈ TW := TW_of 316 (by decide +kernel) (by decide +kernel)
theorem fl_X6_24 : Cond.fieldLink RX6 24 RX6 (TX6 5).2.1 (TX6 5).2.2.1 ∈ TW := TW_of 318 (by decide +kernel) (by decide +kernel)
theorem fl_X6_27 : Cond.fieldLink RX6 27 RX6 (TX6 6).2.1 (TX6 6).2.2.1 ∈ TW := TW_of 320 (by decide +kernel) (by decide +kernel)
def zX6 (u : Nat → Nat) : Nat := u 0
def wX6 (dA : Nat → ClassId) (u : Nat → Nat) : va_W := [(u 0, .inr (6, [.int 0, .ref (u 1), .ref (u 2), .ref (u 3), .ref (u 4), .ref (u 5), .ref (u 6)])), (u 1, .inl (dA 1, 30, .inl (fun _ => 0))), (u 2, .inl (dA 1, 30, .inl (fun _ => 0))), (u 3, .inl (dA 1, 30, .inl (fun _ => 0))), (u 4, .inl (dA 1, 30, .inl (fun _ => 0))), (u 5, .inl (dA 1, 60, .inl (fun _ => 0))), (u 6, .inl (dA 1, 360, .inl (fun _ => 0)))]
abbrev SX6 : Type := Nat → Nat
set_option maxHeartbeats 4000000 in
set_option maxRecDepth 100000 in
theorem k_X6_init (l : Launch) (D : va_G) (dA : Nat → ClassId) : Ctor l D dA yX6_init cX6_init 1 ({ frames := 1, cells := 6, slots := 540, locals := 12 } : Room) (.inr (6, [.int 0, .null, .null, .null, .null, .null, .null])) zX6 (wX6 dA) 6 540 := by
  refine metC RX6 rfl (by decide +kernel) (by decide) rfl ?_
  intro p e s m args below meth c r A C hr hlocks hin2 hA hP hD ls hl
  have hS : va_S A s.heap s.heap [] := va_S.rf
  have hP : va_P D vwCl ((r, .inr (6, [.int 0, .null, .null, .null, .null, .null, .null])) :: []) s.heap := hP
  have hD : va_D A ((r, .inr (6, [.int 0, .null, .null, .null, .null, .null, .null])) :: []) := hD
  refine lv_aload_n C.1 C.2.1 dX6_init_0 rfl (lv_at hl 0 rfl) ?_
  refine y_obj C hl ml_X6_obj oi_i oi_c dX6_init_1 ⟨Nat.le_of_ble_eq_true rfl, Nat.le_of_ble_eq_true rfl⟩ ?_
  refine lv_aload_n C.1 C.2.1 dX6_init_4 rfl (lv_at hl 0 rfl) ?_
  refine lv_bipush (v := 30) C.1 C.2.1 dX6_init_5 (by decide) ?_
  refine y_arr (a0 := (30, .inl (fun _ => 0))) (N := 30) C hA hP hD hS (ty := .int) rfl 1 rfl ac_int (by decide) (by decide) (fun _ => rfl) (by decide) (Nat.le_of_ble_eq_true rfl) (Nat.le_of_ble_eq_true rfl) dX6_init_7 (fun q7 H hP hD hS => ?_)
  have hP : va_P D vwCl ((r, .inr (6, [.int 0, .null, .null, .null, .null, .null, .null])) :: [(q7, .inl (dA 1, 30, .inl (fun _ => 0)))]) H := hP
  have hD : va_D A ((r, .inr (6, [.int 0, .null, .null, .null, .null, .null, .null])) :: [(q7, .inl (dA 1, 30, .inl (fun _ => 0)))]) := hD
  refine y_putF C hin2 hP hD hS (T := TX6) (N := 7) rfl wsX6_in tyX6 tyX6_ok nmX6 1 9 (by decide) fl_X6_9 rfl rfl (ty := .array .int) (v := .ref q7) (by decide +kernel) rfl rfl (Nat.le_of_ble_eq_true rfl) dX6_init_9 (fun H locs hP hD hS => ?_)
  have hP : va_P D vwCl ((r, .inr (6, [.int 0, .ref q7, .null, .null, .null, .null, .null])) :: [(q7, .inl (dA 1, 30, .inl (fun _ => 0)))]) H := hP
  have hD : va_D A ((r, .inr (6, [.int 0, .ref q7, .null, .null, .null, .null, .null])) :: [(q7, .inl (dA 1, 30, .inl (fun _ => 0)))]) := hD
  refine lv_aload_n C.1 C.2.1 dX6_init_12 rfl (lv_at hl 0 rfl) ?_
  refine lv_bipush (v := 30) C.1 C.2.1 dX6_init_13 (by decide) ?_
  refine y_arr (a0 := (30, .inl (fun _ => 0))) (N := 30) C hA hP hD hS (ty := .int) rfl 1 rfl ac_int (by decide) (by decide) (fun _ => rfl) (by decide) (Nat.le_of_ble_eq_true rfl) (Nat.le_of_ble_eq_true rfl) dX6_init_15 (fun q15 H hP hD hS => ?_)
  have hP : va_P D vwCl ((r, .inr (6, [.int 0, .ref q7, .null, .null, .null, .null, .null])) :: [(q7, .inl (dA 1, 30, .inl (fun _ => 0))), (q15, .inl (dA 1, 30, .inl (fun _ => 0)))]) H := hP
  have hD : va_D A ((r, .inr (6, [.int 0, .ref q7, .null, .null, .null, .null, .null])) :: [(q7, .inl (dA 1, 30, .inl (fun _ => 0))), (q15, .inl (dA 1, 30, .inl (fun _ => 0)))]) := hD
  refine y_putF C hin2 hP hD hS (T := TX6) (N := 7) rfl wsX6_in tyX6 tyX6_ok nmX6 2 15 (by decide) fl_X6_15 rfl rfl (ty := .array .int) (v := .ref q15) (by decide +kernel) rfl rfl (Nat.le_of_ble_eq_true rfl) dX6_init_17 (fun H locs hP hD hS => ?_)
  have hP : va_P D vwCl ((r, .inr (6, [.int 0, .ref q7, .ref q15, .null, .null, .null, .null])) :: [(q7, .inl (dA 1, 30, .inl (fun _ => 0))), (q15, .inl (dA 1, 30, .inl (fun _ => 0)))]) H := hP
  have hD : va_D A ((r, .inr (6, [.int 0, .ref q7, .ref q15, .null, .null, .null, .null])) :: [(q7, .inl (dA 1, 30, .inl (fun _ => 0))), (q15, .inl (dA 1, 30, .inl (fun _ => 0)))]) := hD
  refine lv_aload_n C.1 C.2.1 dX6_init_20 rfl (lv_at hl 0 rfl) ?_
  refine lv_bipush (v := 30) C.1 C.2.1 dX6_init_21 (by decide) ?_
  refine y_arr (a0 := (30, .inl (fun _ => 0))) (N := 30) C hA hP hD hS (ty := .int) rfl 1 rfl ac_int (by decide) (by decide) (fun _ => rfl) (by decide) (Nat.le_of_ble_eq_true rfl) (Nat.le_of_ble_eq_true rfl) dX6_init_23 (fun q23 H hP hD hS => ?_)
  have hP : va_P D vwCl ((r, .inr (6, [.int 0, .ref q7, .ref q15, .null, .null, .null, .null])) :: [(q7, .inl (dA 1, 30, .inl (fun _ => 0))), (q15, .inl (dA 1, 30, .inl (fun _ => 0))), (q23, .inl (dA 1, 30, .inl (fun _ => 0)))]) H := hP
  have hD : va_D A ((r, .inr (6, [.int 0, .ref q7, .ref q15, .null, .null, .null, .null])) :: [(q7, .inl (dA 1, 30, .inl (fun _ => 0))), (q15, .inl (dA 1, 30, .inl (fun _ => 0))), (q23, .inl (dA 1, 30, .inl (fun _ => 0)))]) := hD
  refine y_putF C hin2 hP hD hS (T := TX6) (N := 7) rfl wsX6_in tyX6 tyX6_ok nmX6 3 18 (by decide) fl_X6_18 rfl rfl (ty := .array .int) (v := .ref q23) (by decide +kernel) rfl rfl (Nat.le_of_ble_eq_true rfl) dX6_init_25 (fun H locs hP hD hS => ?_)
  have hP : va_P D vwCl ((r, .inr (6, [.int 0, .ref q7, .ref q15, .ref q23, .null, .null, .null])) :: [(q7, .inl (dA 1, 30, .inl (fun _ => 0))), (q15, .inl (dA 1, 30, .inl (fun _ => 0))), (q23, .inl (dA 1, 30, .inl (fun _ => 0)))]) H := hP
  have hD : va_D A ((r, .inr (6, [.int 0, .ref q7, .ref q15, .ref q23, .null, .null, .null])) :: [(q7, .inl (dA 1, 30, .inl (fun _ => 0))), (q15, .inl (dA 1, 30, .inl (fun _ => 0))), (q23, .inl (dA 1, 30, .inl (fun _ => 0)))]) := hD
  refine lv_aload_n C.1 C.2.1 dX6_init_28 rfl (lv_at hl 0 rfl) ?_
  refine lv_bipush (v := 30) C.1 C.2.1 dX6_init_29 (by decide) ?_
  refine y_arr (a0 := (30, .inl (fun _ => 0))) (N := 30) C hA hP hD hS (ty := .int) rfl 1 rfl ac_int (by decide) (by decide) (fun _ => rfl) (by decide) (Nat.le_of_ble_eq_true rfl) (Nat.le_of_ble_eq_true rfl) dX6_init_31 (fun q31 H hP hD hS => ?_)
  have hP : va_P D vwCl ((r, .inr (6, [.int 0, .ref q7, .ref q15, .ref q23, .null, .null, .null])) :: [(q7, .inl (dA 1, 30, .inl (fun _ => 0))), (q15, .inl (dA 1, 30, .inl (fun _ => 0))), (q23, .inl (dA 1, 30, .inl (fun _ => 0))), (q31, .inl (dA 1, 30, .inl (fun _ => 0)))]) H := hP
  have hD : va_D A ((r, .inr (6, [.int 0, .ref q7, .ref q15, .ref q23, .null, .null, .null])) :: [(q7, .inl (dA 1, 30, .inl (fun _ => 0))), (q15, .inl (dA 1, 30, .inl (fun _ => 0))), (q23, .inl (dA 1, 30, .inl (fun _ => 0))), (q31, .inl (dA 1, 30, .inl (fun _ => 0)))]) := hD
  refine y_putF C hin2 hP hD hS (T := TX6) (N := 7) rfl wsX6_in tyX6 tyX6_ok nmX6 4 21 (by decide) fl_X6_21 rfl rfl (ty := .array .int) (v := .ref q31) (by decide +kernel) rfl rfl (Nat.le_of_ble_eq_true rfl) dX6_init_33 (fun H locs hP hD hS => ?_)
  have hP : va_P D vwCl ((r, .inr (6, [.int 0, .ref q7, .ref q15, .ref q23, .ref q31, .null, .null])) :: [(q7, .inl (dA 1, 30, .inl (fun _ => 0))), (q15, .inl (dA 1, 30, .inl (fun _ => 0))), (q23, .inl (dA 1, 30, .inl (fun _ => 0))), (q31, .inl (dA 1, 30, .inl (fun _ => 0)))]) H := hP
  have hD : va_D A ((r, .inr (6, [.int 0, .ref q7, .ref q15, .ref q23, .ref q31, .null, .null])) :: [(q7, .inl (dA 1, 30, .inl (fun _ => 0))), (q15, .inl (dA 1, 30, .inl (fun _ => 0))), (q23, .inl (dA 1, 30, .inl (fun _ => 0))), (q31, .inl (dA 1, 30, .inl (fun _ => 0)))]) := hD
  refine lv_aload_n C.1 C.2.1 dX6_init_36 rfl (lv_at hl 0 rfl) ?_
  refine lv_bipush (v := 60) C.1 C.2.1 dX6_init_37 (by decide) ?_
  refine y_arr (a0 := (60, .inl (fun _ => 0))) (N := 60) C hA hP hD hS (ty := .int) rfl 1 rfl ac_int (by decide) (by decide) (fun _ => rfl) (by decide) (Nat.le_of_ble_eq_true rfl) (Nat.le_of_ble_eq_true rfl) dX6_init_39 (fun q39 H hP hD hS => ?_)
  have hP : va_P D vwCl ((r, .inr (6, [.int 0, .ref q7, .ref q15, .ref q23, .ref q31, .null, .null])) :: [(q7, .inl (dA 1, 30, .inl (fun _ => 0))), (q15, .inl (dA 1, 30, .inl (fun _ => 0))), (q23, .inl (dA 1, 30, .inl (fun _ => 0))), (q31, .inl (dA 1, 30, .inl (fun _ => 0))), (q39, .inl (dA 1, 60, .inl (fun _ => 0)))]) H := hP
  have hD : va_D A ((r, .inr (6, [.int 0, .ref q7, .ref q15, .ref q23, .ref q31, .null, .null])) :: [(q7, .inl (dA 1, 30, .inl (fun _ => 0))), (q15, .inl (dA 1, 30, .inl (fun _ => 0))), (q23, .inl (dA 1, 30, .inl (fun _ => 0))), (q31, .inl (dA 1, 30, .inl (fun _ => 0))), (q39, .inl (dA 1, 60, .inl (fun _ => 0)))]) := hD
  refine y_putF C hin2 hP hD hS (T := TX6) (N := 7) rfl wsX6_in tyX6 tyX6_ok nmX6 5 24 (by decide) fl_X6_24 rfl rfl (ty := .array .int) (v := .ref q39) (by decide +kernel) rfl rfl (Nat.le_of_ble_eq_true rfl) dX6_init_41 (fun H locs hP hD hS => ?_)
  have hP : va_P D vwCl ((r, .inr (6, [.int 0, .ref q7, .ref q15, .ref q23, .ref q31, .ref q39, .null])) :: [(q7, .inl (dA 1, 30, .inl (fun _ => 0))), (q15, .inl (dA 1, 30, .inl (fun _ => 0))), (q23, .inl (dA 1, 30, .inl (fun _ => 0))), (q31, .inl (dA 1, 30, .inl (fun _ => 0))), (q39, .inl (dA 1, 60, .inl (fun _ => 0)))]) H := hP
  have hD : va_D A ((r, .inr (6, [.int 0, .ref q7, .ref q15, .ref q23, .ref q31, .ref q39, .null])) :: [(q7, .inl (dA 1, 30, .inl (fun _ => 0))), (q15, .inl (dA 1, 30, .inl (fun _ => 0))), (q23, .inl (dA 1, 30, .inl (fun _ => 0))), (q31, .inl (dA 1, 30, .inl (fun _ => 0))), (q39, .inl (dA 1, 60, .inl (fun _ => 0)))]) := hD
  refine lv_aload_n C.1 C.2.1 dX6_init_44 rfl (lv_at hl 0 rfl) ?_
  refine lv_sipush (v := 360) C.1 C.2.1 dX6_init_45 (by decide) ?_
  refine y_arr (a0 := (360, .inl (fun _ => 0))) (N := 360) C hA hP hD hS (ty := .int) rfl 1 rfl ac_int (by decide) (by decide) (fun _ => rfl) (by decide) (Nat.le_of_ble_eq_true rfl) (Nat.le_of_ble_eq_true rfl) dX6_init_48 (fun q48 H hP hD hS => ?_)
  have hP : va_P D vwCl ((r, .inr (6, [.int 0, .ref q7, .ref q15, .ref q23, .ref q31, .ref q39, .null])) :: [(q7, .inl (dA 1, 30, .inl (fun _ => 0))), (q15, .inl (dA 1, 30, .inl (fun _ => 0))), (q23, .inl (dA 1, 30, .inl (fun _ => 0))), (q31, .inl (dA 1, 30, .inl (fun _ => 0))), (q39, .inl (dA 1, 60, .inl (fun _ => 0))), (q48, .inl (dA 1, 360, .inl (fun _ => 0)))]) H := hP
  have hD : va_D A ((r, .inr (6, [.int 0, .ref q7, .ref q15, .ref q23, .ref q31, .ref q39, .null])) :: [(q7, .inl (dA 1, 30, .inl (fun _ => 0))), (q15, .inl (dA 1, 30, .inl (fun _ => 0))), (q23, .inl (dA 1, 30, .inl (fun _ => 0))), (q31, .inl (dA 1, 30, .inl (fun _ => 0))), (q39, .inl (dA 1, 60, .inl (fun _ => 0))), (q48, .inl (dA 1, 360, .inl (fun _ => 0)))]) := hD
  refine y_putF C hin2 hP hD hS (T := TX6) (N := 7) rfl wsX6_in tyX6 tyX6_ok nmX6 6 27 (by decide) fl_X6_27 rfl rfl (ty := .array .int) (v := .ref q48) (by decide +kernel) rfl rfl (Nat.le_of_ble_eq_true rfl) dX6_init_50 (fun H locs hP hD hS => ?_)
  have hP : va_P D vwCl ((r, .inr (6, [.int 0, .ref q7, .ref q15, .ref q23, .ref q31, .ref q39, .ref q48])) :: [(q7, .inl (dA 1, 30, .inl (fun _ => 0))), (q15, .inl (dA 1, 30, .inl (fun _ => 0))), (q23, .inl (dA 1, 30, .inl (fun _ => 0))), (q31, .inl (dA 1, 30, .inl (fun _ => 0))), (q39, .inl (dA 1, 60, .inl (fun _ => 0))), (q48, .inl (dA 1, 360, .inl (fun _ => 0)))]) H := hP
  have hD : va_D A ((r, .inr (6, [.int 0, .ref q7, .ref q15, .ref q23, .ref q31, .ref q39, .ref q48])) :: [(q7, .inl (dA 1, 30, .inl (fun _ => 0))), (q15, .inl (dA 1, 30, .inl (fun _ => 0))), (q23, .inl (dA 1, 30, .inl (fun _ => 0))), (q31, .inl (dA 1, 30, .inl (fun _ => 0))), (q39, .inl (dA 1, 60, .inl (fun _ => 0))), (q48, .inl (dA 1, 360, .inl (fun _ => 0)))]) := hD
  exact y_ret C hr hlocks hS (fun i => [r, q7, q15, q23, q31, q39, q48].getD i 0) rfl hP hD dX6_init_53
abbrev cX9_init : ByteArray := prog_11_method_1_code
def yX9_init : MethodName := ⟨RX9, "<init>", "()V"⟩
theorem dX9_init_0 : decode cX9_init 0 = .ok (.aload_n 0, 1) := by decide +kernel
theorem dX9_init_1 : decode cX9_init 1 = .ok (.invokespecial 3, 3) := by decide +kernel
theorem dX9_init_4 : decode cX9_init 4 = .ok (.aload_n 0, 1) := by decide +kernel
theorem dX9_init_5 : decode cX9_init 5 = .ok (.sipush 900, 3) := by decide +kernel
theorem dX9_init_8 : decode cX9_init 8 = .ok (.newarray .byte, 2) := by decide +kernel
theorem dX9_init_10 : decode cX9_init 10 = .ok (.putfield 9, 3) := by decide +kernel
theorem dX9_init_13 : decode cX9_init 13 = .ok (.aload_n 0, 1) := by decide +kernel
theorem dX9_init_14 : decode cX9_init 14 = .ok (.iconst (-1), 1) := by decide +kernel
theorem dX9_init_15 : decode cX9_init 15 = .ok (.putfield 15, 3) := by decide +kernel
theorem dX9_init_18 : decode cX9_init 18 = .ok (.return_, 1) := by decide +kernel
theorem ci_X9_init : Cond.instanceMethod yX9_init ∈ TW := TW_of 57 (by decide +kernel) (by decide +kernel)
theorem cc_X9_init : Cond.code yX9_init cX9_init 1 none ∈ TW := TW_of 58 (by decide +kernel) (by decide +kernel)
theorem cd_X9_init : yX9_init.cls ≠ "java/lang/invoke/MethodHandle" ∧ yX9_init.cls ≠ "java/lang/invoke/VarHandle" ∧ (parseMethodDescriptor yX9_init.desc).map (fun d => d.parameters.length) = some 0 := by decide +kernel
theorem fl_X9_9 : Cond.fieldLink RX9 9 RX9 (TX9 0).2.1 (TX9 0).2.2.1 ∈ TW := TW_of 60 (by decide +kernel) (by decide +kernel)
theorem fl_X9_15 : Cond.fieldLink RX9 15 RX9 (TX9 2).2.1 (TX9 2).2.2.1 ∈ TW := TW_of 63 (by decide +kernel) (by decide +kernel)
def zX9 (u : Nat → Nat) : Nat := u 0
def wX9 (dA : Nat → ClassId) (u : Nat → Nat) : va_W := [(u 0, .inr (7, [.ref (u 1), .int 0, .int (-1), .int 0, .int 0, .int 0, .int 0])), (u 1, .inl (dA 0, 900, .inl (fun _ => 0)))]
abbrev SX9 : Type := Nat → Nat
set_option maxHeartbeats 4000000 in
set_option maxRecDepth 100000 in
theorem k_X9_init (l : Launch) (D : va_G) (dA : Nat → ClassId) : Ctor l D dA yX9_init cX9_init 1 ({ frames := 1, cells := 1, slots := 900, locals := 12 } : Room) (.inr (7, [.null, .int 0, .int 0, .int 0, .int 0, .int 0, .int 0])) zX9 (wX9 dA) 1 900 := by
  refine metC RX9 rfl (by decide +kernel) (by decide) rfl ?_
  intro p e s m args below meth c r A C hr hlocks hin2 hA hP hD ls hl
  have hS : va_S A s.heap s.heap [] := va_S.rf
  have hP : va_P D vwCl ((r, .inr (7, [.null, .int 0, .int 0, .int 0, .int 0, .int 0, .int 0])) :: []) s.heap := hP
  have hD : va_D A ((r, .inr (7, [.null, .int 0, .int 0, .int 0, .int 0, .int 0, .int 0])) :: []) := hD
  refine lv_aload_n C.1 C.2.1 dX9_init_0 rfl (lv_at hl 0 rfl) ?_
  refine y_obj C hl ml_X9_obj oi_i oi_c dX9_init_1 ⟨Nat.le_of_ble_eq_true rfl, Nat.le_of_ble_eq_true rfl⟩ ?_
  refine lv_aload_n C.1 C.2.1 dX9_init_4 rfl (lv_at hl 0 rfl) ?_
  refine lv_sipush (v := 900) C.1 C.2.1 dX9_init_5 (by decide) ?_
  refine y_arr (a0 := (900, .inl (fun _ => 0))) (N := 900) C hA hP hD hS (ty := .byte) rfl 0 rfl ac_byte (by decide) (by decide) (fun _ => rfl) (by decide) (Nat.le_of_ble_eq_true rfl) (Nat.le_of_ble_eq_true rfl) dX9_init_8 (fun q8 H hP hD hS => ?_)
  have hP : va_P D vwCl ((r, .inr (7, [.null, .int 0, .int 0, .int 0, .int 0, .int 0, .int 0])) :: [(q8, .inl (dA 0, 900, .inl (fun _ => 0)))]) H := hP
  have hD : va_D A ((r, .inr (7, [.null, .int 0, .int 0, .int 0, .int 0, .int 0, .int 0])) :: [(q8, .inl (dA 0, 900, .inl (fun _ => 0)))]) := hD
  refine y_putF C hin2 hP hD hS (T := TX9) (N := 7) rfl wsX9_in tyX9 tyX9_ok nmX9 0 9 (by decide) fl_X9_9 rfl rfl (ty := .array .byte) (v := .ref q8) (by decide +kernel) rfl rfl (Nat.le_of_ble_eq_true rfl) dX9_init_10 (fun H locs hP hD hS => ?_)
  have hP : va_P D vwCl ((r, .inr (7, [.ref q8, .int 0, .int 0, .int 0, .int 0, .int 0, .int 0])) :: [(q8, .inl (dA 0, 900, .inl (fun _ => 0)))]) H := hP
  have hD : va_D A ((r, .inr (7, [.ref q8, .int 0, .int 0, .int 0, .int 0, .int 0, .int 0])) :: [(q8, .inl (dA 0, 900, .inl (fun _ => 0)))]) := hD
  refine lv_aload_n C.1 C.2.1 dX9_init_13 rfl (lv_at hl 0 rfl) ?_
  refine lv_iconst (v := -1) C.1 C.2.1 dX9_init_14 (by decide) ?_
  refine y_put C hP hD hS (T := TX9) (N := 7) rfl wsX9_in tyX9 tyX9_ok nmX9 2 15 (by decide) fl_X9_15 rfl rfl (ty := .int) (v := .int (-1)) (by decide +kernel) rfl rfl (Nat.le_of_ble_eq_true rfl) dX9_init_15 (fun H locs hP hD hS => ?_)
  have hP : va_P D vwCl ((r, .inr (7, [.ref q8, .int 0, .int (-1), .int 0, .int 0, .int 0, .int 0])) :: [(q8, .inl (dA 0, 900, .inl (fun _ => 0)))]) H := hP
  have hD : va_D A ((r, .inr (7, [.ref q8, .int 0, .int (-1), .int 0, .int 0, .int 0, .int 0])) :: [(q8, .inl (dA 0, 900, .inl (fun _ => 0)))]) := hD
  exact y_ret C hr hlocks hS (fun i => [r, q8].getD i 0) rfl hP hD dX9_init_18
