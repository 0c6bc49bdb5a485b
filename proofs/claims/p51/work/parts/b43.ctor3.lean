/-! constructors that make objects -/
abbrev cX1_init : ByteArray := prog_3_method_1_code
def yX1_init : MethodName := ⟨RX1, "<init>", "()V"⟩
theorem dX1_init_0 : decode cX1_init 0 = .ok (.aload_n 0, 1) := by decide +kernel
theorem dX1_init_1 : decode cX1_init 1 = .ok (.invokespecial 3, 3) := by decide +kernel
theorem dX1_init_4 : decode cX1_init 4 = .ok (.aload_n 0, 1) := by decide +kernel
theorem dX1_init_5 : decode cX1_init 5 = .ok (.new 9, 3) := by decide +kernel
theorem dX1_init_8 : decode cX1_init 8 = .ok (.dup, 1) := by decide +kernel
theorem dX1_init_9 : decode cX1_init 9 = .ok (.invokespecial 11, 3) := by decide +kernel
theorem dX1_init_12 : decode cX1_init 12 = .ok (.putfield 12, 3) := by decide +kernel
theorem dX1_init_15 : decode cX1_init 15 = .ok (.aload_n 0, 1) := by decide +kernel
theorem dX1_init_16 : decode cX1_init 16 = .ok (.new 18, 3) := by decide +kernel
theorem dX1_init_19 : decode cX1_init 19 = .ok (.dup, 1) := by decide +kernel
theorem dX1_init_20 : decode cX1_init 20 = .ok (.invokespecial 20, 3) := by decide +kernel
theorem dX1_init_23 : decode cX1_init 23 = .ok (.putfield 21, 3) := by decide +kernel
theorem dX1_init_26 : decode cX1_init 26 = .ok (.aload_n 0, 1) := by decide +kernel
theorem dX1_init_27 : decode cX1_init 27 = .ok (.bipush 40, 2) := by decide +kernel
theorem dX1_init_29 : decode cX1_init 29 = .ok (.newarray .int, 2) := by decide +kernel
theorem dX1_init_31 : decode cX1_init 31 = .ok (.putfield 25, 3) := by decide +kernel
theorem dX1_init_34 : decode cX1_init 34 = .ok (.aload_n 0, 1) := by decide +kernel
theorem dX1_init_35 : decode cX1_init 35 = .ok (.bipush 40, 2) := by decide +kernel
theorem dX1_init_37 : decode cX1_init 37 = .ok (.newarray .int, 2) := by decide +kernel
theorem dX1_init_39 : decode cX1_init 39 = .ok (.putfield 29, 3) := by decide +kernel
theorem dX1_init_42 : decode cX1_init 42 = .ok (.aload_n 0, 1) := by decide +kernel
theorem dX1_init_43 : decode cX1_init 43 = .ok (.bipush 40, 2) := by decide +kernel
theorem dX1_init_45 : decode cX1_init 45 = .ok (.newarray .int, 2) := by decide +kernel
theorem dX1_init_47 : decode cX1_init 47 = .ok (.putfield 32, 3) := by decide +kernel
theorem dX1_init_50 : decode cX1_init 50 = .ok (.aload_n 0, 1) := by decide +kernel
theorem dX1_init_51 : decode cX1_init 51 = .ok (.bipush 41, 2) := by decide +kernel
theorem dX1_init_53 : decode cX1_init 53 = .ok (.newarray .int, 2) := by decide +kernel
theorem dX1_init_55 : decode cX1_init 55 = .ok (.putfield 35, 3) := by decide +kernel
theorem dX1_init_58 : decode cX1_init 58 = .ok (.aload_n 0, 1) := by decide +kernel
theorem dX1_init_59 : decode cX1_init 59 = .ok (.bipush 40, 2) := by decide +kernel
theorem dX1_init_61 : decode cX1_init 61 = .ok (.newarray .int, 2) := by decide +kernel
theorem dX1_init_63 : decode cX1_init 63 = .ok (.putfield 38, 3) := by decide +kernel
theorem dX1_init_66 : decode cX1_init 66 = .ok (.aload_n 0, 1) := by decide +kernel
theorem dX1_init_67 : decode cX1_init 67 = .ok (.bipush 40, 2) := by decide +kernel
theorem dX1_init_69 : decode cX1_init 69 = .ok (.newarray .int, 2) := by decide +kernel
theorem dX1_init_71 : decode cX1_init 71 = .ok (.putfield 41, 3) := by decide +kernel
theorem dX1_init_74 : decode cX1_init 74 = .ok (.aload_n 0, 1) := by decide +kernel
theorem dX1_init_75 : decode cX1_init 75 = .ok (.bipush 40, 2) := by decide +kernel
theorem dX1_init_77 : decode cX1_init 77 = .ok (.newarray .int, 2) := by decide +kernel
theorem dX1_init_79 : decode cX1_init 79 = .ok (.putfield 44, 3) := by decide +kernel
theorem dX1_init_82 : decode cX1_init 82 = .ok (.aload_n 0, 1) := by decide +kernel
theorem dX1_init_83 : decode cX1_init 83 = .ok (.bipush 41, 2) := by decide +kernel
theorem dX1_init_85 : decode cX1_init 85 = .ok (.newarray .int, 2) := by decide +kernel
theorem dX1_init_87 : decode cX1_init 87 = .ok (.putfield 47, 3) := by decide +kernel
theorem dX1_init_90 : decode cX1_init 90 = .ok (.aload_n 0, 1) := by decide +kernel
theorem dX1_init_91 : decode cX1_init 91 = .ok (.bipush 40, 2) := by decide +kernel
theorem dX1_init_93 : decode cX1_init 93 = .ok (.newarray .int, 2) := by decide +kernel
theorem dX1_init_95 : decode cX1_init 95 = .ok (.putfield 50, 3) := by decide +kernel
theorem dX1_init_98 : decode cX1_init 98 = .ok (.return_, 1) := by decide +kernel
theorem ci_X1_init : Cond.instanceMethod yX1_init ∈ TW := TW_of 88 (by decide +kernel) (by decide +kernel)
theorem cc_X1_init : Cond.code yX1_init cX1_init 1 none ∈ TW := TW_of 89 (by decide +kernel) (by decide +kernel)
theorem cd_X1_init : yX1_init.cls ≠ "java/lang/invoke/MethodHandle" ∧ yX1_init.cls ≠ "java/lang/invoke/VarHandle" ∧ (parseMethodDescriptor yX1_init.desc).map (fun d => d.parameters.length) = some 0 := by decide +kernel
theorem kl_X1_9 : Cond.classLink RX1 9 RX4 ∈ TW := TW_of 91 (by decide +kernel) (by decide +kernel)
theorem fl_X1_12 : Cond.fieldLink RX1 12 RX1 (TX1 0).2.1 (TX1 0).2.2.1 ∈ TW := TW_of 217 (by decide +kernel) (by decide +kernel)
theorem kl_X1_18 : Cond.classLink RX1 18 RX0 ∈ TW := TW_of 186 (by decide +kernel) (by decide +kernel)
theorem fl_X1_21 : Cond.fieldLink RX1 21 RX1 (TX1 1).2.1 (TX1 1).2.2.1 ∈ TW := TW_of 219 (by decide +kernel) (by decide +kernel)
theorem fl_X1_25 : Cond.fieldLink RX1 25 RX1 (TX1 3).2.1 (TX1 3).2.2.1 ∈ TW := TW_of 223 (by decide +kernel) (by decide +kernel)
theorem fl_X1_29 : Cond.fieldLink RX1 29 RX1 (TX1 4).2.1 (TX1 4).2.2.1 ∈ TW := TW_of 225 (by decide +kernel) (by decide +kernel)
theorem fl_X1_32 : Cond.fieldLink RX1 32 RX1 (TX1 5).2.1 (TX1 5).2.2.1 ∈ TW := TW_of 227 (by decide +kernel) (by decide +kernel)
theorem fl_X1_35 : Cond.fieldLink RX1 35 RX1 (TX1 6).2.1 (TX1 6).2.2.1 ∈ TW := TW_of 229 (by decide +kernel) (by decide +kernel)
theorem fl_X1_38 : Cond.fieldLink RX1 38 RX1 (TX1 7).2.1 (TX1 7).2.2.1 ∈ TW := TW_of 230 (by decide +kernel) (by decide +kernel)
theorem fl_X1_41 : Cond.fieldLink RX1 41 RX1 (TX1 9).2.1 (TX1 9).2.2.1 ∈ TW := TW_of 234 (by decide +kernel) (by decide +kernel)
theorem fl_X1_44 : Cond.fieldLink RX1 44 RX1 (TX1 10).2.1 (TX1 10).2.2.1 ∈ TW := TW_of 236 (by decide +kernel) (by decide +kernel)
theorem fl_X1_47 : Cond.fieldLink RX1 47 RX1 (TX1 12).2.1 (TX1 12).2.2.1 ∈ TW := TW_of 239 (by decide +kernel) (by decide +kernel)
theorem fl_X1_50 : Cond.fieldLink RX1 50 RX1 (TX1 15).2.1 (TX1 15).2.2.1 ∈ TW := TW_of 242 (by decide +kernel) (by decide +kernel)
abbrev SX1 : Type := (Nat → Nat) × SX4 × SX0
def zX1 (u : SX1) : Nat := u.1 0
def wX1 (dA : Nat → ClassId) (u : SX1) : va_W := (u.1 0, .inr (1, [.ref (zX4 u.2.1), .ref (zX0 u.2.2), .int 0, .ref (u.1 1), .ref (u.1 2), .ref (u.1 3), .ref (u.1 4), .ref (u.1 5), .int 0, .ref (u.1 6), .ref (u.1 7), .int 0, .ref (u.1 8), .int 0, .int 0, .ref (u.1 9)])) :: ((((((((((wX4 dA u.2.1 ++ wX0 dA u.2.2) ++ [(u.1 1, .inl (dA 1, 40, .inl (fun _ => 0)))]) ++ [(u.1 2, .inl (dA 1, 40, .inl (fun _ => 0)))]) ++ [(u.1 3, .inl (dA 1, 40, .inl (fun _ => 0)))]) ++ [(u.1 4, .inl (dA 1, 41, .inl (fun _ => 0)))]) ++ [(u.1 5, .inl (dA 1, 40, .inl (fun _ => 0)))]) ++ [(u.1 6, .inl (dA 1, 40, .inl (fun _ => 0)))]) ++ [(u.1 7, .inl (dA 1, 40, .inl (fun _ => 0)))]) ++ [(u.1 8, .inl (dA 1, 41, .inl (fun _ => 0)))]) ++ [(u.1 9, .inl (dA 1, 40, .inl (fun _ => 0)))])
set_option maxHeartbeats 4000000 in
set_option maxRecDepth 100000 in
theorem k_X1_init (l : Launch) (D : va_G) (dA : Nat → ClassId) : Ctor l D dA yX1_init cX1_init 1 ({ frames := 2, cells := 28, slots := 975, locals := 32 } : Room) (.inr (1, [.null, .null, .int 0, .null, .null, .null, .null, .null, .int 0, .null, .null, .int 0, .null, .int 0, .int 0, .null])) zX1 (wX1 dA) 28 975 := by
  refine metC RX1 rfl (by decide +kernel) (by decide) rfl ?_
  intro p e s m args below meth c r A C hr hlocks hin2 hA hP hD ls hl
  have hS : va_S A s.heap s.heap [] := va_S.rf
  have hP : va_P D vwCl ((r, .inr (1, [.null, .null, .int 0, .null, .null, .null, .null, .null, .int 0, .null, .null, .int 0, .null, .int 0, .int 0, .null])) :: []) s.heap := hP
  have hD : va_D A ((r, .inr (1, [.null, .null, .int 0, .null, .null, .null, .null, .null, .int 0, .null, .null, .int 0, .null, .int 0, .int 0, .null])) :: []) := hD
  refine lv_aload_n C.1 C.2.1 dX1_init_0 rfl (lv_at hl 0 rfl) ?_
  refine y_obj C hl ml_X1_obj oi_i oi_c dX1_init_1 ⟨Nat.le_of_ble_eq_true rfl, Nat.le_of_ble_eq_true rfl⟩ ?_
  refine lv_aload_n C.1 C.2.1 dX1_init_4 rfl (lv_at hl 0 rfl) ?_
  refine y_new C hl hA hP hD hS (ci := 4) (N := 19) (Cn := RX4) (T := TX4) rfl wsX4_in tyX4 tyX4_ok df_X4 kl_X1_9 in_X4 iz_X4 (k_X4_init l D dA) ⟨rfl, rfl⟩ ci_X4_init cc_X4_init cd_X4_init (Or.inr ⟨"TranscriptCutter", by decide +kernel⟩) ⟨rfl, rfl⟩ ⟨Nat.le_of_ble_eq_true rfl, Nat.le_of_ble_eq_true rfl⟩ (Nat.le_of_ble_eq_true rfl) (Nat.le_of_ble_eq_true rfl) (Nat.le_of_ble_eq_true rfl) dX1_init_5 dX1_init_8 dX1_init_9 (fun u5 H locs hP hD hS => ?_)
  have hP : va_P D vwCl ((r, .inr (1, [.null, .null, .int 0, .null, .null, .null, .null, .null, .int 0, .null, .null, .int 0, .null, .int 0, .int 0, .null])) :: wX4 dA u5) H := hP
  have hD : va_D A ((r, .inr (1, [.null, .null, .int 0, .null, .null, .null, .null, .null, .int 0, .null, .null, .int 0, .null, .int 0, .int 0, .null])) :: wX4 dA u5) := hD
  refine y_put C hP hD hS (T := TX1) (N := 16) rfl wsX1_in tyX1 tyX1_ok nmX1 0 12 (by decide) fl_X1_12 rfl rfl (ty := .object "TranscriptCutter$Recording") (v := .ref (zX4 u5)) (by decide +kernel) rfl rfl (Nat.le_of_ble_eq_true rfl) dX1_init_12 (fun H locs hP hD hS => ?_)
  have hP : va_P D vwCl ((r, .inr (1, [.ref (zX4 u5), .null, .int 0, .null, .null, .null, .null, .null, .int 0, .null, .null, .int 0, .null, .int 0, .int 0, .null])) :: wX4 dA u5) H := hP
  have hD : va_D A ((r, .inr (1, [.ref (zX4 u5), .null, .int 0, .null, .null, .null, .null, .null, .int 0, .null, .null, .int 0, .null, .int 0, .int 0, .null])) :: wX4 dA u5) := hD
  refine lv_aload_n C.1 C.2.1 dX1_init_15 rfl (lv_at hl 0 rfl) ?_
  refine y_new C hl hA hP hD hS (ci := 0) (N := 5) (Cn := RX0) (T := TX0) rfl wsX0_in tyX0 tyX0_ok df_X0 kl_X1_18 in_X0 iz_X0 (k_X0_init l D dA) ⟨rfl, rfl⟩ ci_X0_init cc_X0_init cd_X0_init (Or.inr ⟨"TranscriptCutter", by decide +kernel⟩) ⟨rfl, rfl⟩ ⟨Nat.le_of_ble_eq_true rfl, Nat.le_of_ble_eq_true rfl⟩ (Nat.le_of_ble_eq_true rfl) (Nat.le_of_ble_eq_true rfl) (Nat.le_of_ble_eq_true rfl) dX1_init_16 dX1_init_19 dX1_init_20 (fun u16 H locs hP hD hS => ?_)
  have hP : va_P D vwCl ((r, .inr (1, [.ref (zX4 u5), .null, .int 0, .null, .null, .null, .null, .null, .int 0, .null, .null, .int 0, .null, .int 0, .int 0, .null])) :: wX4 dA u5 ++ wX0 dA u16) H := hP
  have hD : va_D A ((r, .inr (1, [.ref (zX4 u5), .null, .int 0, .null, .null, .null, .null, .null, .int 0, .null, .null, .int 0, .null, .int 0, .int 0, .null])) :: wX4 dA u5 ++ wX0 dA u16) := hD
  refine y_putF C hin2 hP hD hS (T := TX1) (N := 16) rfl wsX1_in tyX1 tyX1_ok nmX1 1 21 (by decide) fl_X1_21 rfl rfl (ty := .object "TranscriptCutter$Edit") (v := .ref (zX0 u16)) (by decide +kernel) rfl rfl (Nat.le_of_ble_eq_true rfl) dX1_init_23 (fun H locs hP hD hS => ?_)
  have hP : va_P D vwCl ((r, .inr (1, [.ref (zX4 u5), .ref (zX0 u16), .int 0, .null, .null, .null, .null, .null, .int 0, .null, .null, .int 0, .null, .int 0, .int 0, .null])) :: wX4 dA u5 ++ wX0 dA u16) H := hP
  have hD : va_D A ((r, .inr (1, [.ref (zX4 u5), .ref (zX0 u16), .int 0, .null, .null, .null, .null, .null, .int 0, .null, .null, .int 0, .null, .int 0, .int 0, .null])) :: wX4 dA u5 ++ wX0 dA u16) := hD
  refine lv_aload_n C.1 C.2.1 dX1_init_26 rfl (lv_at hl 0 rfl) ?_
  refine lv_bipush (v := 40) C.1 C.2.1 dX1_init_27 (by decide) ?_
  refine y_arr (a0 := (40, .inl (fun _ => 0))) (N := 40) C hA hP hD hS (ty := .int) rfl 1 rfl ac_int (by decide) (by decide) (fun _ => rfl) (by decide) (Nat.le_of_ble_eq_true rfl) (Nat.le_of_ble_eq_true rfl) dX1_init_29 (fun q29 H hP hD hS => ?_)
  have hP : va_P D vwCl ((r, .inr (1, [.ref (zX4 u5), .ref (zX0 u16), .int 0, .null, .null, .null, .null, .null, .int 0, .null, .null, .int 0, .null, .int 0, .int 0, .null])) :: (wX4 dA u5 ++ wX0 dA u16) ++ [(q29, .inl (dA 1, 40, .inl (fun _ => 0)))]) H := hP
  have hD : va_D A ((r, .inr (1, [.ref (zX4 u5), .ref (zX0 u16), .int 0, .null, .null, .null, .null, .null, .int 0, .null, .null, .int 0, .null, .int 0, .int 0, .null])) :: (wX4 dA u5 ++ wX0 dA u16) ++ [(q29, .inl (dA 1, 40, .inl (fun _ => 0)))]) := hD
  refine y_putF C hin2 hP hD hS (T := TX1) (N := 16) rfl wsX1_in tyX1 tyX1_ok nmX1 3 25 (by decide) fl_X1_25 rfl rfl (ty := .array .int) (v := .ref q29) (by decide +kernel) rfl rfl (Nat.le_of_ble_eq_true rfl) dX1_init_31 (fun H locs hP hD hS => ?_)
  have hP : va_P D vwCl ((r, .inr (1, [.ref (zX4 u5), .ref (zX0 u16), .int 0, .ref q29, .null, .null, .null, .null, .int 0, .null, .null, .int 0, .null, .int 0, .int 0, .null])) :: (wX4 dA u5 ++ wX0 dA u16) ++ [(q29, .inl (dA 1, 40, .inl (fun _ => 0)))]) H := hP
  have hD : va_D A ((r, .inr (1, [.ref (zX4 u5), .ref (zX0 u16), .int 0, .ref q29, .null, .null, .null, .null, .int 0, .null, .null, .int 0, .null, .int 0, .int 0, .null])) :: (wX4 dA u5 ++ wX0 dA u16) ++ [(q29, .inl (dA 1, 40, .inl (fun _ => 0)))]) := hD
  refine lv_aload_n C.1 C.2.1 dX1_init_34 rfl (lv_at hl 0 rfl) ?_
  refine lv_bipush (v := 40) C.1 C.2.1 dX1_init_35 (by decide) ?_
  refine y_arr (a0 := (40, .inl (fun _ => 0))) (N := 40) C hA hP hD hS (ty := .int) rfl 1 rfl ac_int (by decide) (by decide) (fun _ => rfl) (by decide) (Nat.le_of_ble_eq_true rfl) (Nat.le_of_ble_eq_true rfl) dX1_init_37 (fun q37 H hP hD hS => ?_)
  have hP : va_P D vwCl ((r, .inr (1, [.ref (zX4 u5), .ref (zX0 u16), .int 0, .ref q29, .null, .null, .null, .null, .int 0, .null, .null, .int 0, .null, .int 0, .int 0, .null])) :: ((wX4 dA u5 ++ wX0 dA u16) ++ [(q29, .inl (dA 1, 40, .inl (fun _ => 0)))]) ++ [(q37, .inl (dA 1, 40, .inl (fun _ => 0)))]) H := hP
  have hD : va_D A ((r, .inr (1, [.ref (zX4 u5), .ref (zX0 u16), .int 0, .ref q29, .null, .null, .null, .null, .int 0, .null, .null, .int 0, .null, .int 0, .int 0, .null])) :: ((wX4 dA u5 ++ wX0 dA u16) ++ [(q29, .inl (dA 1, 40, .inl (fun _ => 0)))]) ++ [(q37, .inl (dA 1, 40, .inl (fun _ => 0)))]) := hD
  refine y_putF C hin2 hP hD hS (T := TX1) (N := 16) rfl wsX1_in tyX1 tyX1_ok nmX1 4 29 (by decide) fl_X1_29 rfl rfl (ty := .array .int) (v := .ref q37) (by decide +kernel) rfl rfl (Nat.le_of_ble_eq_true rfl) dX1_init_39 (fun H locs hP hD hS => ?_)
  have hP : va_P D vwCl ((r, .inr (1, [.ref (zX4 u5), .ref (zX0 u16), .int 0, .ref q29, .ref q37, .null, .null, .null, .int 0, .null, .null, .int 0, .null, .int 0, .int 0, .null])) :: ((wX4 dA u5 ++ wX0 dA u16) ++ [(q29, .inl (dA 1, 40, .inl (fun _ => 0)))]) ++ [(q37, .inl (dA 1, 40, .inl (fun _ => 0)))]) H := hP
  have hD : va_D A ((r, .inr (1, [.ref (zX4 u5), .ref (zX0 u16), .int 0, .ref q29, .ref q37, .null, .null, .null, .int 0, .null, .null, .int 0, .null, .int 0, .int 0, .null])) :: ((wX4 dA u5 ++ wX0 dA u16) ++ [(q29, .inl (dA 1, 40, .inl (fun _ => 0)))]) ++ [(q37, .inl (dA 1, 40, .inl (fun _ => 0)))]) := hD
  refine lv_aload_n C.1 C.2.1 dX1_init_42 rfl (lv_at hl 0 rfl) ?_
  refine lv_bipush (v := 40) C.1 C.2.1 dX1_init_43 (by decide) ?_
  refine y_arr (a0 := (40, .inl (fun _ => 0))) (N := 40) C hA hP hD hS (ty := .int) rfl 1 rfl ac_int (by decide) (by decide) (fun _ => rfl) (by decide) (Nat.le_of_ble_eq_true rfl) (Nat.le_of_ble_eq_true rfl) dX1_init_45 (fun q45 H hP hD hS => ?_)
  have hP : va_P D vwCl ((r, .inr (1, [.ref (zX4 u5), .ref (zX0 u16), .int 0, .ref q29, .ref q37, .null, .null, .null, .int 0, .null, .null, .int 0, .null, .int 0, .int 0, .null])) :: (((wX4 dA u5 ++ wX0 dA u16) ++ [(q29, .inl (dA 1, 40, .inl (fun _ => 0)))]) ++ [(q37, .inl (dA 1, 40, .inl (fun _ => 0)))]) ++ [(q45, .inl (dA 1, 40, .inl (fun _ => 0)))]) H := hP
  have hD : va_D A ((r, .inr (1, [.ref (zX4 u5), .ref (zX0 u16), .int 0, .ref q29, .ref q37, .null, .null, .null, .int 0, .null, .null, .int 0, .null, .int 0, .int 0, .null])) :: (((wX4 dA u5 ++ wX0 dA u16) ++ [(q29, .inl (dA 1, 40, .inl (fun _ => 0)))]) ++ [(q37, .inl (dA 1, 40, .inl (fun _ => 0)))]) ++ [(q45, .inl (dA 1, 40, .inl (fun _ => 0)))]) := hD
  refine y_putF C hin2 hP hD hS (T := TX1) (N := 16) rfl wsX1_in tyX1 tyX1_ok nmX1 5 32 (by decide) fl_X1_32 rfl rfl (ty := .array .int) (v := .ref q45) (by decide +kernel) rfl rfl (Nat.le_of_ble_eq_true rfl) dX1_init_47 (fun H locs hP hD hS => ?_)
  have hP : va_P D vwCl ((r, .inr (1, [.ref (zX4 u5), .ref (zX0 u16), .int 0, .ref q29, .ref q37, .ref q45, .null, .null, .int 0, .null, .null, .int 0, .null, .int 0, .int 0, .null])) :: (((wX4 dA u5 ++ wX0 dA u16) ++ [(q29, .inl (dA 1, 40, .inl (fun _ => 0)))]) ++ [(q37, .inl (dA 1, 40, .inl (fun _ => 0)))]) ++ [(q45, .inl (dA 1, 40, .inl (fun _ => 0)))]) H := hP
  have hD : va_D A ((r, .inr (1, [.ref (zX4 u5), .ref (zX0 u16), .int 0, .ref q29, .ref q37, .ref q45, .null, .null, .int 0, .null, .null, .int 0, .null, .int 0, .int 0, .null])) :: (((wX4 dA u5 ++ wX0 dA u16) ++ [(q29, .inl (dA 1, 40, .inl (fun _ => 0)))]) ++ [(q37, .inl (dA 1, 40, .inl (fun _ => 0)))]) ++ [(q45, .inl (dA 1, 40, .inl (fun _ => 0)))]) := hD
  refine lv_aload_n C.1 C.2.1 dX1_init_50 rfl (lv_at hl 0 rfl) ?_
  refine lv_bipush (v := 41) C.1 C.2.1 dX1_init_51 (by decide) ?_
  refine y_arr (a0 := (41, .inl (fun _ => 0))) (N := 41) C hA hP hD hS (ty := .int) rfl 1 rfl ac_int (by decide) (by decide) (fun _ => rfl) (by decide) (Nat.le_of_ble_eq_true rfl) (Nat.le_of_ble_eq_true rfl) dX1_init_53 (fun q53 H hP hD hS => ?_)
  have hP : va_P D vwCl ((r, .inr (1, [.ref (zX4 u5), .ref (zX0 u16), .int 0, .ref q29, .ref q37, .ref q45, .null, .null, .int 0, .null, .null, .int 0, .null, .int 0, .int 0, .null])) :: ((((wX4 dA u5 ++ wX0 dA u16) ++ [(q29, .inl (dA 1, 40, .inl (fun _ => 0)))]) ++ [(q37, .inl (dA 1, 40, .inl (fun _ => 0)))]) ++ [(q45, .inl (dA 1, 40, .inl (fun _ => 0)))]) ++ [(q53, .inl (dA 1, 41, .inl (fun _ => 0)))]) H := hP
  have hD : va_D A ((r, .inr (1, [.ref (zX4 u5), .ref (zX0 u16), .int 0, .ref q29, .ref q37, .ref q45, .null, .null, .int 0, .null, .null, .int 0, .null, .int 0, .int 0, .null])) :: ((((wX4 dA u5 ++ wX0 dA u16) ++ [(q29, .inl (dA 1, 40, .inl (fun _ => 0)))]) ++ [(q37, .inl (dA 1, 40, .inl (fun _ => 0)))]) ++ [(q45, .inl (dA 1, 40, .inl (fun _ => 0)))]) ++ [(q53, .inl (dA 1, 41, .inl (fun _ => 0)))]) := hD
  refine y_putF C hin2 hP hD hS (T := TX1) (N := 16) rfl wsX1_in tyX1 tyX1_ok nmX1 6 35 (by decide) fl_X1_35 rfl rfl (ty := .array .int) (v := .ref q53) (by decide +kernel) rfl rfl (Nat.le_of_ble_eq_true rfl) dX1_init_55 (fun H locs hP hD hS => ?_)
  have hP : va_P D vwCl ((r, .inr (1, [.ref (zX4 u5), .ref (zX0 u16), .int 0, .ref q29, .ref q37, .ref q45, .ref q53, .null, .int 0, .null, .null, .int 0, .null, .int 0, .int 0, .null])) :: ((((wX4 dA u5 ++ wX0 dA u16) ++ [(q29, .inl (dA 1, 40, .inl (fun _ => 0)))]) ++ [(q37, .inl (dA 1, 40, .inl (fun _ => 0)))]) ++ [(q45, .inl (dA 1, 40, .inl (fun _ => 0)))]) ++ [(q53, .inl (dA 1, 41, .inl (fun _ => 0)))]) H := hP
  have hD : va_D A ((r, .inr (1, [.ref (zX4 u5), .ref (zX0 u16), .int 0, .ref q29, .ref q37, .ref q45, .ref q53, .null, .int 0, .null, .null, .int 0, .null, .int 0, .int 0, .null])) :: ((((wX4 dA u5 ++ wX0 dA u16) ++ [(q29, .inl (dA 1, 40, .inl (fun _ => 0)))]) ++ [(q37, .inl (dA 1, 40, .inl (fun _ => 0)))]) ++ [(q45, .inl (dA 1, 40, .inl (fun _ => 0)))]) ++ [(q53, .inl (dA 1, 41, .inl (fun _ => 0)))]) := hD
  refine lv_aload_n C.1 C.2.1 dX1_init_58 rfl (lv_at hl 0 rfl) ?_
  refine lv_bipush (v := 40) C.1 C.2.1 dX1_init_59 (by decide) ?_
  refine y_arr (a0 := (40, .inl (fun _ => 0))) (N := 40) C hA hP hD hS (ty := .int) rfl 1 rfl ac_int (by decide) (by decide) (fun _ => rfl) (by decide) (Nat.le_of_ble_eq_true rfl) (Nat.le_of_ble_eq_true rfl) dX1_init_61 (fun q61 H hP hD hS => ?_)
  have hP : va_P D vwCl ((r, .inr (1, [.ref (zX4 u5), .ref (zX0 u16), .int 0, .ref q29, .ref q37, .ref q45, .ref q53, .null, .int 0, .null, .null, .int 0, .null, .int 0, .int 0, .null])) :: (((((wX4 dA u5 ++ wX0 dA u16) ++ [(q29, .inl (dA 1, 40, .inl (fun _ => 0)))]) ++ [(q37, .inl (dA 1, 40, .inl (fun _ => 0)))]) ++ [(q45, .inl (dA 1, 40, .inl (fun _ => 0)))]) ++ [(q53, .inl (dA 1, 41, .inl (fun _ => 0)))]) ++ [(q61, .inl (dA 1, 40, .inl (fun _ => 0)))]) H := hP
  have hD : va_D A ((r, .inr (1, [.ref (zX4 u5), .ref (zX0 u16), .int 0, .ref q29, .ref q37, .ref q45, .ref q53, .null, .int 0, .null, .null, .int 0, .null, .int 0, .int 0, .null])) :: (((((wX4 dA u5 ++ wX0 dA u16) ++ [(q29, .inl (dA 1, 40, .inl (fun _ => 0)))]) ++ [(q37, .inl (dA 1, 40, .inl (fun _ => 0)))]) ++ [(q45, .inl (dA 1, 40, .inl (fun _ => 0)))]) ++ [(q53, .inl (dA 1, 41, .inl (fun _ => 0)))]) ++ [(q61, .inl (dA 1, 40, .inl (fun _ => 0)))]) := hD
  refine y_putF C hin2 hP hD hS (T := TX1) (N := 16) rfl wsX1_in tyX1 tyX1_ok nmX1 7 38 (by decide) fl_X1_38 rfl rfl (ty := .array .int) (v := .ref q61) (by decide +kernel) rfl rfl (Nat.le_of_ble_eq_true rfl) dX1_init_63 (fun H locs hP hD hS => ?_)
  have hP : va_P D vwCl ((r, .inr (1, [.ref (zX4 u5), .ref (zX0 u16), .int 0, .ref q29, .ref q37, .ref q45, .ref q53, .ref q61, .int 0, .null, .null, .int 0, .null, .int 0, .int 0, .null])) :: (((((wX4 dA u5 ++ wX0 dA u16) ++ [(q29, .inl (dA 1, 40, .inl (fun _ => 0)))]) ++ [(q37, .inl (dA 1, 40, .inl (fun _ => 0)))]) ++ [(q45, .inl (dA 1, 40, .inl (fun _ => 0)))]) ++ [(q53, .inl (dA 1, 41, .inl (fun _ => 0)))]) ++ [(q61, .inl (dA 1, 40, .inl (fun _ => 0)))]) H := hP
  have hD : va_D A ((r, .inr (1, [.ref (zX4 u5), .ref (zX0 u16), .int 0, .ref q29, .ref q37, .ref q45, .ref q53, .ref q61, .int 0, .null, .null, .int 0, .null, .int 0, .int 0, .null])) :: (((((wX4 dA u5 ++ wX0 dA u16) ++ [(q29, .inl (dA 1, 40, .inl (fun _ => 0)))]) ++ [(q37, .inl (dA 1, 40, .inl (fun _ => 0)))]) ++ [(q45, .inl (dA 1, 40, .inl (fun _ => 0)))]) ++ [(q53, .inl (dA 1, 41, .inl (fun _ => 0)))]) ++ [(q61, .inl (dA 1, 40, .inl (fun _ => 0)))]) := hD
  refine lv_aload_n C.1 C.2.1 dX1_init_66 rfl (lv_at hl 0 rfl) ?_
  refine lv_bipush (v := 40) C.1 C.2.1 dX1_init_67 (by decide) ?_
  refine y_arr (a0 := (40, .inl (fun _ => 0))) (N := 40) C hA hP hD hS (ty := .int) rfl 1 rfl ac_int (by decide) (by decide) (fun _ => rfl) (by decide) (Nat.le_of_ble_eq_true rfl) (Nat.le_of_ble_eq_true rfl) dX1_init_69 (fun q69 H hP hD hS => ?_)
  have hP : va_P D vwCl ((r, .inr (1, [.ref (zX4 u5), .ref (zX0 u16), .int 0, .ref q29, .ref q37, .ref q45, .ref q53, .ref q61, .int 0, .null, .null, .int 0, .null, .int 0, .int 0, .null])) :: ((((((wX4 dA u5 ++ wX0 dA u16) ++ [(q29, .inl (dA 1, 40, .inl (fun _ => 0)))]) ++ [(q37, .inl (dA 1, 40, .inl (fun _ => 0)))]) ++ [(q45, .inl (dA 1, 40, .inl (fun _ => 0)))]) ++ [(q53, .inl (dA 1, 41, .inl (fun _ => 0)))]) ++ [(q61, .inl (dA 1, 40, .inl (fun _ => 0)))]) ++ [(q69, .inl (dA 1, 40, .inl (fun _ => 0)))]) H := hP
  have hD : va_D A ((r, .inr (1, [.ref (zX4 u5), .ref (zX0 u16), .int 0, .ref q29, .ref q37, .ref q45, .ref q53, .ref q61, .int 0, .null, .null, .int 0, .null, .int 0, .int 0, .null])) :: ((((((wX4 dA u5 ++ wX0 dA u16) ++ [(q29, .inl (dA 1, 40, .inl (fun _ => 0)))]) ++ [(q37, .inl (dA 1, 40, .inl (fun _ => 0)))]) ++ [(q45, .inl (dA 1, 40, .inl (fun _ => 0)))]) ++ [(q53, .inl (dA 1, 41, .inl (fun _ => 0)))]) ++ [(q61, .inl (dA 1, 40, .inl (fun _ => 0)))]) ++ [(q69, .inl (dA 1, 40, .inl (fun _ => 0)))]) := hD
  refine y_putF C hin2 hP hD hS (T := TX1) (N := 16) rfl wsX1_in tyX1 tyX1_ok nmX1 9 41 (by decide) fl_X1_41 rfl rfl (ty := .array .int) (v := .ref q69) (by decide +kernel) rfl rfl (Nat.le_of_ble_eq_true rfl) dX1_init_71 (fun H locs hP hD hS => ?_)
  have hP : va_P D vwCl ((r, .inr (1, [.ref (zX4 u5), .ref (zX0 u16), .int 0, .ref q29, .ref q37, .ref q45, .ref q53, .ref q61, .int 0, .ref q69, .null, .int 0, .null, .int 0, .int 0, .null])) :: ((((((wX4 dA u5 ++ wX0 dA u16) ++ [(q29, .inl (dA 1, 40, .inl (fun _ => 0)))]) ++ [(q37, .inl (dA 1, 40, .inl (fun _ => 0)))]) ++ [(q45, .inl (dA 1, 40, .inl (fun _ => 0)))]) ++ [(q53, .inl (dA 1, 41, .inl (fun _ => 0)))]) ++ [(q61, .inl (dA 1, 40, .inl (fun _ => 0)))]) ++ [(q69, .inl (dA 1, 40, .inl (fun _ => 0)))]) H := hP
  have hD : va_D A ((r, .inr (1, [.ref (zX4 u5), .ref (zX0 u16), .int 0, .ref q29, .ref q37, .ref q45, .ref q53, .ref q61, .int 0, .ref q69, .null, .int 0, .null, .int 0, .int 0, .null])) :: ((((((wX4 dA u5 ++ wX0 dA u16) ++ [(q29, .inl (dA 1, 40, .inl (fun _ => 0)))]) ++ [(q37, .inl (dA 1, 40, .inl (fun _ => 0)))]) ++ [(q45, .inl (dA 1, 40, .inl (fun _ => 0)))]) ++ [(q53, .inl (dA 1, 41, .inl (fun _ => 0)))]) ++ [(q61, .inl (dA 1, 40, .inl (fun _ => 0)))]) ++ [(q69, .inl (dA 1, 40, .inl (fun _ => 0)))]) := hD
  refine lv_aload_n C.1 C.2.1 dX1_init_74 rfl (lv_at hl 0 rfl) ?_
  refine lv_bipush (v := 40) C.1 C.2.1 dX1_init_75 (by decide) ?_
  refine y_arr (a0 := (40, .inl (fun _ => 0))) (N := 40) C hA hP hD hS (ty := .int) rfl 1 rfl ac_int (by decide) (by decide) (fun _ => rfl) (by decide) (Nat.le_of_ble_eq_true rfl) (Nat.le_of_ble_eq_true rfl) dX1_init_77 (fun q77 H hP hD hS => ?_)
  have hP : va_P D vwCl ((r, .inr (1, [.ref (zX4 u5), .ref (zX0 u16), .int 0, .ref q29, .ref q37, .ref q45, .ref q53, .ref q61, .int 0, .ref q69, .null, .int 0, .null, .int 0, .int 0, .null])) :: (((((((wX4 dA u5 ++ wX0 dA u16) ++ [(q29, .inl (dA 1, 40, .inl (fun _ => 0)))]) ++ [(q37, .inl (dA 1, 40, .inl (fun _ => 0)))]) ++ [(q45, .inl (dA 1, 40, .inl (fun _ => 0)))]) ++ [(q53, .inl (dA 1, 41, .inl (fun _ => 0)))]) ++ [(q61, .inl (dA 1, 40, .inl (fun _ => 0)))]) ++ [(q69, .inl (dA 1, 40, .inl (fun _ => 0)))]) ++ [(q77, .inl (dA 1, 40, .inl (fun _ => 0)))]) H := hP
  have hD : va_D A ((r, .inr (1, [.ref (zX4 u5), .ref (zX0 u16), .int 0, .ref q29, .ref q37, .ref q45, .ref q53, .ref q61, .int 0, .ref q69, .null, .int 0, .null, .int 0, .int 0, .null])) :: (((((((wX4 dA u5 ++ wX0 dA u16) ++ [(q29, .inl (dA 1, 40, .inl (fun _ => 0)))]) ++ [(q37, .inl (dA 1, 40, .inl (fun _ => 0)))]) ++ [(q45, .inl (dA 1, 40, .inl (fun _ => 0)))]) ++ [(q53, .inl (dA 1, 41, .inl (fun _ => 0)))]) ++ [(q61, .inl (dA 1, 40, .inl (fun _ => 0)))]) ++ [(q69, .inl (dA 1, 40, .inl (fun _ => 0)))]) ++ [(q77, .inl (dA 1, 40, .inl (fun _ => 0)))]) := hD
  refine y_putF C hin2 hP hD hS (T := TX1) (N := 16) rfl wsX1_in tyX1 tyX1_ok nmX1 10 44 (by decide) fl_X1_44 rfl rfl (ty := .array .int) (v := .ref q77) (by decide +kernel) rfl rfl (Nat.le_of_ble_eq_true rfl) dX1_init_79 (fun H locs hP hD hS => ?_)
  have hP : va_P D vwCl ((r, .inr (1, [.ref (zX4 u5), .ref (zX0 u16), .int 0, .ref q29, .ref q37, .ref q45, .ref q53, .ref q61, .int 0, .ref q69, .ref q77, .int 0, .null, .int 0, .int 0, .null])) :: (((((((wX4 dA u5 ++ wX0 dA u16) ++ [(q29, .inl (dA 1, 40, .inl (fun _ => 0)))]) ++ [(q37, .inl (dA 1, 40, .inl (fun _ => 0)))]) ++ [(q45, .inl (dA 1, 40, .inl (fun _ => 0)))]) ++ [(q53, .inl (dA 1, 41, .inl (fun _ => 0)))]) ++ [(q61, .inl (dA 1, 40, .inl (fun _ => 0)))]) ++ [(q69, .inl (dA 1, 40, .inl (fun _ => 0)))]) ++ [(q77, .inl (dA 1, 40, .inl (fun _ => 0)))]) H := hP
  have hD : va_D A ((r, .inr (1, [.ref (zX4 u5), .ref (zX0 u16), .int 0, .ref q29, .ref q37, .ref q45, .ref q53, .ref q61, .int 0, .ref q69, .ref q77, .int 0, .null, .int 0, .int 0, .null])) :: (((((((wX4 dA u5 ++ wX0 dA u16) ++ [(q29, .inl (dA 1, 40, .inl (fun _ => 0)))]) ++ [(q37, .inl (dA 1, 40, .inl (fun _ => 0)))]) ++ [(q45, .inl (dA 1, 40, .inl (fun _ => 0)))]) ++ [(q53, .inl (dA 1, 41, .inl (fun _ => 0)))]) ++ [(q61, .inl (dA 1, 40, .inl (fun _ => 0)))]) ++ [(q69, .inl (dA 1, 40, .inl (fun _ => 0)))]) ++ [(q77, .inl (dA 1, 40, .inl (fun _ => 0)))]) := hD
  refine lv_aload_n C.1 C.2.1 dX1_init_82 rfl (lv_at hl 0 rfl) ?_
  refine lv_bipush (v := 41) C.1 C.2.1 dX1_init_83 (by decide) ?_
  refine y_arr (a0 := (41, .inl (fun _ => 0))) (N := 41) C hA hP hD hS (ty := .int) rfl 1 rfl ac_int (by decide) (by decide) (fun _ => rfl) (by decide) (Nat.le_of_ble_eq_true rfl) (Nat.le_of_ble_eq_true rfl) dX1_init_85 (fun q85 H hP hD hS => ?_)
  have hP : va_P D vwCl ((r, .inr (1, [.ref (zX4 u5), .ref (zX0 u16), .int 0, .ref q29, .ref q37, .ref q45, .ref q53, .ref q61, .int 0, .ref q69, .ref q77, .int 0, .null, .int 0, .int 0, .null])) :: ((((((((wX4 dA u5 ++ wX0 dA u16) ++ [(q29, .inl (dA 1, 40, .inl (fun _ => 0)))]) ++ [(q37, .inl (dA 1, 40, .inl (fun _ => 0)))]) ++ [(q45, .inl (dA 1, 40, .inl (fun _ => 0)))]) ++ [(q53, .inl (dA 1, 41, .inl (fun _ => 0)))]) ++ [(q61, .inl (dA 1, 40, .inl (fun _ => 0)))]) ++ [(q69, .inl (dA 1, 40, .inl (fun _ => 0)))]) ++ [(q77, .inl (dA 1, 40, .inl (fun _ => 0)))]) ++ [(q85, .inl (dA 1, 41, .inl (fun _ => 0)))]) H := hP
  have hD : va_D A ((r, .inr (1, [.ref (zX4 u5), .ref (zX0 u16), .int 0, .ref q29, .ref q37, .ref q45, .ref q53, .ref q61, .int 0, .ref q69, .ref q77, .int 0, .null, .int 0, .int 0, .null])) :: ((((((((wX4 dA u5 ++ wX0 dA u16) ++ [(q29, .inl (dA 1, 40, .inl (fun _ => 0)))]) ++ [(q37, .inl (dA 1, 40, .inl (fun _ => 0)))]) ++ [(q45, .inl (dA 1, 40, .inl (fun _ => 0)))]) ++ [(q53, .inl (dA 1, 41, .inl (fun _ => 0)))]) ++ [(q61, .inl (dA 1, 40, .inl (fun _ => 0)))]) ++ [(q69, .inl (dA 1, 40, .inl (fun _ => 0)))]) ++ [(q77, .inl (dA 1, 40, .inl (fun _ => 0)))]) ++ [(q85, .inl (dA 1, 41, .inl (fun _ => 0)))]) := hD
  refine y_putF C hin2 hP hD hS (T := TX1) (N := 16) rfl wsX1_in tyX1 tyX1_ok nmX1 12 47 (by decide) fl_X1_47 rfl rfl (ty := .array .int) (v := .ref q85) (by decide +kernel) rfl rfl (Nat.le_of_ble_eq_true rfl) dX1_init_87 (fun H locs hP hD hS => ?_)
  have hP : va_P D vwCl ((r, .inr (1, [.ref (zX4 u5), .ref (zX0 u16), .int 0, .ref q29, .ref q37, .ref q45, .ref q53, .ref q61, .int 0, .ref q69, .ref q77, .int 0, .ref q85, .int 0, .int 0, .null])) :: ((((((((wX4 dA u5 ++ wX0 dA u16) ++ [(q29, .inl (dA 1, 40, .inl (fun _ => 0)))]) ++ [(q37, .inl (dA 1, 40, .inl (fun _ => 0)))]) ++ [(q45, .inl (dA 1, 40, .inl (fun _ => 0)))]) ++ [(q53, .inl (dA 1, 41, .inl (fun _ => 0)))]) ++ [(q61, .inl (dA 1, 40, .inl (fun _ => 0)))]) ++ [(q69, .inl (dA 1, 40, .inl (fun _ => 0)))]) ++ [(q77, .inl (dA 1, 40, .inl (fun _ => 0)))]) ++ [(q85, .inl (dA 1, 41, .inl (fun _ => 0)))]) H := hP
  have hD : va_D A ((r, .inr (1, [.ref (zX4 u5), .ref (zX0 u16), .int 0, .ref q29, .ref q37, .ref q45, .ref q53, .ref q61, .int 0, .ref q69, .ref q77, .int 0, .ref q85, .int 0, .int 0, .null])) :: ((((((((wX4 dA u5 ++ wX0 dA u16) ++ [(q29, .inl (dA 1, 40, .inl (fun _ => 0)))]) ++ [(q37, .inl (dA 1, 40, .inl (fun _ => 0)))]) ++ [(q45, .inl (dA 1, 40, .inl (fun _ => 0)))]) ++ [(q53, .inl (dA 1, 41, .inl (fun _ => 0)))]) ++ [(q61, .inl (dA 1, 40, .inl (fun _ => 0)))]) ++ [(q69, .inl (dA 1, 40, .inl (fun _ => 0)))]) ++ [(q77, .inl (dA 1, 40, .inl (fun _ => 0)))]) ++ [(q85, .inl (dA 1, 41, .inl (fun _ => 0)))]) := hD
  refine lv_aload_n C.1 C.2.1 dX1_init_90 rfl (lv_at hl 0 rfl) ?_
  refine lv_bipush (v := 40) C.1 C.2.1 dX1_init_91 (by decide) ?_
  refine y_arr (a0 := (40, .inl (fun _ => 0))) (N := 40) C hA hP hD hS (ty := .int) rfl 1 rfl ac_int (by decide) (by decide) (fun _ => rfl) (by decide) (Nat.le_of_ble_eq_true rfl) (Nat.le_of_ble_eq_true rfl) dX1_init_93 (fun q93 H hP hD hS => ?_)
  have hP : va_P D vwCl ((r, .inr (1, [.ref (zX4 u5), .ref (zX0 u16), .int 0, .ref q29, .ref q37, .ref q45, .ref q53, .ref q61, .int 0, .ref q69, .ref q77, .int 0, .ref q85, .int 0, .int 0, .null])) :: (((((((((wX4 dA u5 ++ wX0 dA u16) ++ [(q29, .inl (dA 1, 40, .inl (fun _ => 0)))]) ++ [(q37, .inl (dA 1, 40, .inl (fun _ => 0)))]) ++ [(q45, .inl (dA 1, 40, .inl (fun _ => 0)))]) ++ [(q53, .inl (dA 1, 41, .inl (fun _ => 0)))]) ++ [(q61, .inl (dA 1, 40, .inl (fun _ => 0)))]) ++ [(q69, .inl (dA 1, 40, .inl (fun _ => 0)))]) ++ [(q77, .inl (dA 1, 40, .inl (fun _ => 0)))]) ++ [(q85, .inl (dA 1, 41, .inl (fun _ => 0)))]) ++ [(q93, .inl (dA 1, 40, .inl (fun _ => 0)))]) H := hP
  have hD : va_D A ((r, .inr (1, [.ref (zX4 u5), .ref (zX0 u16), .int 0, .ref q29, .ref q37, .ref q45, .ref q53, .ref q61, .int 0, .ref q69, .ref q77, .int 0, .ref q85, .int 0, .int 0, .null])) :: (((((((((wX4 dA u5 ++ wX0 dA u16) ++ [(q29, .inl (dA 1, 40, .inl (fun _ => 0)))]) ++ [(q37, .inl (dA 1, 40, .inl (fun _ => 0)))]) ++ [(q45, .inl (dA 1, 40, .inl (fun _ => 0)))]) ++ [(q53, .inl (dA 1, 41, .inl (fun _ => 0)))]) ++ [(q61, .inl (dA 1, 40, .inl (fun _ => 0)))]) ++ [(q69, .inl (dA 1, 40, .inl (fun _ => 0)))]) ++ [(q77, .inl (dA 1, 40, .inl (fun _ => 0)))]) ++ [(q85, .inl (dA 1, 41, .inl (fun _ => 0)))]) ++ [(q93, .inl (dA 1, 40, .inl (fun _ => 0)))]) := hD
  refine y_putF C hin2 hP hD hS (T := TX1) (N := 16) rfl wsX1_in tyX1 tyX1_ok nmX1 15 50 (by decide) fl_X1_50 rfl rfl (ty := .array .int) (v := .ref q93) (by decide +kernel) rfl rfl (Nat.le_of_ble_eq_true rfl) dX1_init_95 (fun H locs hP hD hS => ?_)
  have hP : va_P D vwCl ((r, .inr (1, [.ref (zX4 u5), .ref (zX0 u16), .int 0, .ref q29, .ref q37, .ref q45, .ref q53, .ref q61, .int 0, .ref q69, .ref q77, .int 0, .ref q85, .int 0, .int 0, .ref q93])) :: (((((((((wX4 dA u5 ++ wX0 dA u16) ++ [(q29, .inl (dA 1, 40, .inl (fun _ => 0)))]) ++ [(q37, .inl (dA 1, 40, .inl (fun _ => 0)))]) ++ [(q45, .inl (dA 1, 40, .inl (fun _ => 0)))]) ++ [(q53, .inl (dA 1, 41, .inl (fun _ => 0)))]) ++ [(q61, .inl (dA 1, 40, .inl (fun _ => 0)))]) ++ [(q69, .inl (dA 1, 40, .inl (fun _ => 0)))]) ++ [(q77, .inl (dA 1, 40, .inl (fun _ => 0)))]) ++ [(q85, .inl (dA 1, 41, .inl (fun _ => 0)))]) ++ [(q93, .inl (dA 1, 40, .inl (fun _ => 0)))]) H := hP
  have hD : va_D A ((r, .inr (1, [.ref (zX4 u5), .ref (zX0 u16), .int 0, .ref q29, .ref q37, .ref q45, .ref q53, .ref q61, .int 0, .ref q69, .ref q77, .int 0, .ref q85, .int 0, .int 0, .ref q93])) :: (((((((((wX4 dA u5 ++ wX0 dA u16) ++ [(q29, .inl (dA 1, 40, .inl (fun _ => 0)))]) ++ [(q37, .inl (dA 1, 40, .inl (fun _ => 0)))]) ++ [(q45, .inl (dA 1, 40, .inl (fun _ => 0)))]) ++ [(q53, .inl (dA 1, 41, .inl (fun _ => 0)))]) ++ [(q61, .inl (dA 1, 40, .inl (fun _ => 0)))]) ++ [(q69, .inl (dA 1, 40, .inl (fun _ => 0)))]) ++ [(q77, .inl (dA 1, 40, .inl (fun _ => 0)))]) ++ [(q85, .inl (dA 1, 41, .inl (fun _ => 0)))]) ++ [(q93, .inl (dA 1, 40, .inl (fun _ => 0)))]) := hD
  exact y_ret C hr hlocks hS ((fun i => [r, q29, q37, q45, q53, q61, q69, q77, q85, q93].getD i 0), u5, u16) rfl hP hD dX1_init_98
theorem kl_X3_9 : Cond.classLink RX3 9 RX0 ∈ TW := TW_of 282 (by decide +kernel) (by decide +kernel)
abbrev cX3_init : ByteArray := prog_5_method_1_code
def yX3_init : MethodName := ⟨RX3, "<init>", "()V"⟩
theorem dX3_init_0 : decode cX3_init 0 = .ok (.aload_n 0, 1) := by decide +kernel
theorem dX3_init_1 : decode cX3_init 1 = .ok (.invokespecial 3, 3) := by decide +kernel
theorem dX3_init_4 : decode cX3_init 4 = .ok (.aload_n 0, 1) := by decide +kernel
theorem dX3_init_5 : decode cX3_init 5 = .ok (.bipush 12, 2) := by decide +kernel
theorem dX3_init_7 : decode cX3_init 7 = .ok (.anewarray 9, 3) := by decide +kernel
theorem dX3_init_10 : decode cX3_init 10 = .ok (.putfield 11, 3) := by decide +kernel
theorem dX3_init_13 : decode cX3_init 13 = .ok (.iconst 0, 1) := by decide +kernel
theorem dX3_init_14 : decode cX3_init 14 = .ok (.istore_n 1, 1) := by decide +kernel
theorem dX3_init_15 : decode cX3_init 15 = .ok (.iload_n 1, 1) := by decide +kernel
theorem dX3_init_16 : decode cX3_init 16 = .ok (.bipush 12, 2) := by decide +kernel
theorem dX3_init_18 : decode cX3_init 18 = .ok (.if_icmp .ge 22, 3) := by decide +kernel
theorem dX3_init_21 : decode cX3_init 21 = .ok (.aload_n 0, 1) := by decide +kernel
theorem dX3_init_22 : decode cX3_init 22 = .ok (.getfield 11, 3) := by decide +kernel
theorem dX3_init_25 : decode cX3_init 25 = .ok (.iload_n 1, 1) := by decide +kernel
theorem dX3_init_26 : decode cX3_init 26 = .ok (.new 9, 3) := by decide +kernel
theorem dX3_init_29 : decode cX3_init 29 = .ok (.dup, 1) := by decide +kernel
theorem dX3_init_30 : decode cX3_init 30 = .ok (.invokespecial 17, 3) := by decide +kernel
theorem dX3_init_33 : decode cX3_init 33 = .ok (.aastore, 1) := by decide +kernel
theorem dX3_init_34 : decode cX3_init 34 = .ok (.iinc 1 1, 3) := by decide +kernel
theorem dX3_init_37 : decode cX3_init 37 = .ok (.goto (-22), 3) := by decide +kernel
theorem dX3_init_40 : decode cX3_init 40 = .ok (.return_, 1) := by decide +kernel
theorem ci_X3_init : Cond.instanceMethod yX3_init ∈ TW := TW_of 279 (by decide +kernel) (by decide +kernel)
theorem cc_X3_init : Cond.code yX3_init cX3_init 2 none ∈ TW := TW_of 280 (by decide +kernel) (by decide +kernel)
theorem cd_X3_init : yX3_init.cls ≠ "java/lang/invoke/MethodHandle" ∧ yX3_init.cls ≠ "java/lang/invoke/VarHandle" ∧ (parseMethodDescriptor yX3_init.desc).map (fun d => d.parameters.length) = some 0 := by decide +kernel
theorem fl_X3_11 : Cond.fieldLink RX3 11 RX3 (TX3 0).2.1 (TX3 0).2.2.1 ∈ TW := TW_of 285 (by decide +kernel) (by decide +kernel)
abbrev SX3 : Type := (Nat → Nat) × (Nat → Nat → Nat)
def zX3 (u : SX3) : Nat := u.1 0
def wX3 (dA : Nat → ClassId) (u : SX3) : va_W := (u.1 0, .inr (3, [.ref (u.1 1), .int 0, .int 0])) :: (((((((((((([(u.1 1, .inl (dA 3, 12, .inr (.inr (.inr (.inr (fun j => some (zX0 (u.2 j))))))))] ++ wX0 dA (u.2 0)) ++ wX0 dA (u.2 1)) ++ wX0 dA (u.2 2)) ++ wX0 dA (u.2 3)) ++ wX0 dA (u.2 4)) ++ wX0 dA (u.2 5)) ++ wX0 dA (u.2 6)) ++ wX0 dA (u.2 7)) ++ wX0 dA (u.2 8)) ++ wX0 dA (u.2 9)) ++ wX0 dA (u.2 10)) ++ wX0 dA (u.2 11))
set_option maxHeartbeats 4000000 in
set_option maxRecDepth 100000 in
theorem k_X3_init (l : Launch) (D : va_G) (dA : Nat → ClassId) : Ctor l D dA yX3_init cX3_init 2 ({ frames := 2, cells := 61, slots := 1992, locals := 32 } : Room) (.inr (3, [.null, .int 0, .int 0])) zX3 (wX3 dA) 61 1992 := by
  refine metC RX3 rfl (by decide +kernel) (by decide) rfl ?_
  intro p e s m args below meth c r A C hr hlocks hin2 hA hP hD ls hl
  have hS : va_S A s.heap s.heap [] := va_S.rf
  have hP : va_P D vwCl ((r, .inr (3, [.null, .int 0, .int 0])) :: []) s.heap := hP
  have hD : va_D A ((r, .inr (3, [.null, .int 0, .int 0])) :: []) := hD
  refine lv_aload_n C.1 C.2.1 dX3_init_0 rfl (lv_at hl 0 rfl) ?_
  refine y_obj C hl ml_X3_obj oi_i oi_c dX3_init_1 ⟨Nat.le_of_ble_eq_true rfl, Nat.le_of_ble_eq_true rfl⟩ ?_
  refine lv_aload_n C.1 C.2.1 dX3_init_4 rfl (lv_at hl 0 rfl) ?_
  refine lv_bipush (v := 12) C.1 C.2.1 dX3_init_5 (by decide) ?_
  refine va_newq (D := D) (cl := vwCl) (tys := tyG dA) (C := RX0) (N' := 12) C.1 C.2.1 C.2.2.2.1 (C.2.2.1 _ kl_X3_9) C.2.2.2.2.2.2.1 C.2.2.2.2.2.1 hP hD hS hA (by decide) (by decide) (by decide) (Nat.le_of_ble_eq_true rfl) (Nat.le_of_ble_eq_true rfl) dX3_init_7 (fun q7 cA H hK1 hP hD hS => ?_)
  have eA : cA = dA 3 := va_RA_inj (hK1.2 5 (cA, .object RX0) rfl).2 (C.2.2.2.2.2.1.2 3 (dA 3, .object RX0) rfl).2
  subst eA
  have hP : va_P D vwCl ((r, .inr (3, [.null, .int 0, .int 0])) :: [(q7, .inl (dA 3, 12, .inr (.inr (.inr (.inr (fun _ => none))))))]) H := hP
  have hD : va_D A ((r, .inr (3, [.null, .int 0, .int 0])) :: [(q7, .inl (dA 3, 12, .inr (.inr (.inr (.inr (fun _ => none))))))]) := hD
  refine y_putF C hin2 hP hD hS (T := TX3) (N := 3) rfl wsX3_in tyX3 tyX3_ok nmX3 0 11 (by decide) fl_X3_11 rfl rfl (ty := .array (.object "TranscriptCutter$Edit")) (v := .ref q7) (by decide +kernel) rfl rfl (Nat.le_of_ble_eq_true rfl) dX3_init_10 (fun H locs hP hD hS => ?_)
  have hP : va_P D vwCl ((r, .inr (3, [.ref q7, .int 0, .int 0])) :: [(q7, .inl (dA 3, 12, .inr (.inr (.inr (.inr (fun _ => none))))))]) H := hP
  have hD : va_D A ((r, .inr (3, [.ref q7, .int 0, .int 0])) :: [(q7, .inl (dA 3, 12, .inr (.inr (.inr (.inr (fun _ => none))))))]) := hD
  refine lv_iconst (v := 0) C.1 C.2.1 dX3_init_13 (by decide) ?_
  refine lv_istore_n (lv' := [(1, .int 0), (0, .ref r)]) C.1 C.2.1 dX3_init_14 rfl hl (by decide) rfl (fun ls hl => ?_)
  refine lv_iload_n C.1 C.2.1 dX3_init_15 rfl (lv_at hl 0 rfl) ?_
  refine lv_bipush (v := 12) C.1 C.2.1 dX3_init_16 (by decide) ?_
  refine lv_icmp_ge (tgt := 40) C.1 C.2.1 dX3_init_18 (by decide) (fun q => absurd q (by decide)) (fun _ => ?_)
  refine lv_aload_n C.1 C.2.1 dX3_init_21 rfl (lv_at hl 1 rfl) ?_
  refine va_get (D := D) (ci := 3) (v := .ref q7) (C := RX3) (T := TX3) (N := 3) C.1 C.2.1 C.2.2.1 wsX3_in C.2.2.2.1 C.2.2.2.2.2.1 hP 0 rfl rfl 0 (by decide) (C.2.2.1 _ fl_X3_11) (fun _ h9 => h9) rfl dX3_init_22 ?_
  refine lv_iload_n C.1 C.2.1 dX3_init_25 rfl (lv_at hl 0 rfl) ?_
  refine y_new C hl hA hP hD hS (ci := 0) (N := 5) (Cn := RX0) (T := TX0) rfl wsX0_in tyX0 tyX0_ok df_X0 kl_X3_9 in_X0 iz_X0 (k_X0_init l D dA) ⟨rfl, rfl⟩ ci_X0_init cc_X0_init cd_X0_init (Or.inr ⟨"TranscriptCutter", by decide +kernel⟩) ⟨rfl, rfl⟩ ⟨Nat.le_of_ble_eq_true rfl, Nat.le_of_ble_eq_true rfl⟩ (Nat.le_of_ble_eq_true rfl) (Nat.le_of_ble_eq_true rfl) (Nat.le_of_ble_eq_true rfl) dX3_init_26 dX3_init_29 dX3_init_30 (fun u26_0 H locs hP hD hS => ?_)
  have hP : va_P D vwCl ((r, .inr (3, [.ref q7, .int 0, .int 0])) :: [(q7, .inl (dA 3, 12, .inr (.inr (.inr (.inr (fun _ => none))))))] ++ wX0 dA u26_0) H := hP
  have hD : va_D A ((r, .inr (3, [.ref q7, .int 0, .int 0])) :: [(q7, .inl (dA 3, 12, .inr (.inr (.inr (.inr (fun _ => none))))))] ++ wX0 dA u26_0) := hD
  refine va_astq (D := D) (cl := vwCl) (tys := tyG dA) C.1 C.2.1 C.2.2.2.2.2.1 hP hD hS 1 3 2 0 (r := (RX0, TX0, 5)) rfl rfl rfl rfl (show ¬((0 : Int32) < 0 ∨ 12 ≤ (0 : Int32).toNatClampNeg) from by decide) dX3_init_33 (fun H locs hP hD hS => ?_)
  have hP : va_P D vwCl ((r, .inr (3, [.ref q7, .int 0, .int 0])) :: [(q7, .inl (dA 3, 12, .inr (.inr (.inr (.inr (va_up (fun _ => none) 0 (some (zX0 u26_0))))))))] ++ wX0 dA u26_0) H := hP
  have hD : va_D A ((r, .inr (3, [.ref q7, .int 0, .int 0])) :: [(q7, .inl (dA 3, 12, .inr (.inr (.inr (.inr (va_up (fun _ => none) 0 (some (zX0 u26_0))))))))] ++ wX0 dA u26_0) := hD
  refine lv_iinc (v := 1) (lv' := [(1, .int 1), (0, .ref r)]) C.1 C.2.1 dX3_init_34 hl (k := 0) rfl (by decide) (by decide) rfl (fun ls hl => ?_)
  refine lv_goto (tgt := 15) C.1 C.2.1 dX3_init_37 (by decide) ?_
  refine lv_iload_n C.1 C.2.1 dX3_init_15 rfl (lv_at hl 0 rfl) ?_
  refine lv_bipush (v := 12) C.1 C.2.1 dX3_init_16 (by decide) ?_
  refine lv_icmp_ge (tgt := 40) C.1 C.2.1 dX3_init_18 (by decide) (fun q => absurd q (by decide)) (fun _ => ?_)
  refine lv_aload_n C.1 C.2.1 dX3_init_21 rfl (lv_at hl 1 rfl) ?_
  refine va_get (D := D) (ci := 3) (v := .ref q7) (C := RX3) (T := TX3) (N := 3) C.1 C.2.1 C.2.2.1 wsX3_in C.2.2.2.1 C.2.2.2.2.2.1 hP 0 rfl rfl 0 (by decide) (C.2.2.1 _ fl_X3_11) (fun _ h9 => h9) rfl dX3_init_22 ?_
  refine lv_iload_n C.1 C.2.1 dX3_init_25 rfl (lv_at hl 0 rfl) ?_
  refine y_new C hl hA hP hD hS (ci := 0) (N := 5) (Cn := RX0) (T := TX0) rfl wsX0_in tyX0 tyX0_ok df_X0 kl_X3_9 in_X0 iz_X0 (k_X0_init l D dA) ⟨rfl, rfl⟩ ci_X0_init cc_X0_init cd_X0_init (Or.inr ⟨"TranscriptCutter", by decide +kernel⟩) ⟨rfl, rfl⟩ ⟨Nat.le_of_ble_eq_true rfl, Nat.le_of_ble_eq_true rfl⟩ (Nat.le_of_ble_eq_true rfl) (Nat.le_of_ble_eq_true rfl) (Nat.le_of_ble_eq_true rfl) dX3_init_26 dX3_init_29 dX3_init_30 (fun u26_1 H locs hP hD hS => ?_)
  have hP : va_P D vwCl ((r, .inr (3, [.ref q7, .int 0, .int 0])) :: ([(q7, .inl (dA 3, 12, .inr (.inr (.inr (.inr (va_up (fun _ => none) 0 (some (zX0 u26_0))))))))] ++ wX0 dA u26_0) ++ wX0 dA u26_1) H := hP
  have hD : va_D A ((r, .inr (3, [.ref q7, .int 0, .int 0])) :: ([(q7, .inl (dA 3, 12, .inr (.inr (.inr (.inr (va_up (fun _ => none) 0 (some (zX0 u26_0))))))))] ++ wX0 dA u26_0) ++ wX0 dA u26_1) := hD
  refine va_astq (D := D) (cl := vwCl) (tys := tyG dA) C.1 C.2.1 C.2.2.2.2.2.1 hP hD hS 1 3 7 0 (r := (RX0, TX0, 5)) rfl rfl rfl rfl (show ¬((1 : Int32) < 0 ∨ 12 ≤ (1 : Int32).toNatClampNeg) from by decide) dX3_init_33 (fun H locs hP hD hS => ?_)
  have hP : va_P D vwCl ((r, .inr (3, [.ref q7, .int 0, .int 0])) :: ([(q7, .inl (dA 3, 12, .inr (.inr (.inr (.inr (va_up (va_up (fun _ => none) 0 (some (zX0 u26_0))) 1 (some (zX0 u26_1))))))))] ++ wX0 dA u26_0) ++ wX0 dA u26_1) H := hP
  have hD : va_D A ((r, .inr (3, [.ref q7, .int 0, .int 0])) :: ([(q7, .inl (dA 3, 12, .inr (.inr (.inr (.inr (va_up (va_up (fun _ => none) 0 (some (zX0 u26_0))) 1 (some (zX0 u26_1))))))))] ++ wX0 dA u26_0) ++ wX0 dA u26_1) := hD
  refine lv_iinc (v := 2) (lv' := [(1, .int 2), (0, .ref r)]) C.1 C.2.1 dX3_init_34 hl (k := 0) rfl (by decide) (by decide) rfl (fun ls hl => ?_)
  refine lv_goto (tgt := 15) C.1 C.2.1 dX3_init_37 (by decide) ?_
  refine lv_iload_n C.1 C.2.1 dX3_init_15 rfl (lv_at hl 0 rfl) ?_
  refine lv_bipush (v := 12) C.1 C.2.1 dX3_init_16 (by decide) ?_
  refine lv_icmp_ge (tgt := 40) C.1 C.2.1 dX3_init_18 (by decide) (fun q => absurd q (by decide)) (fun _ => ?_)
  refine lv_aload_n C.1 C.2.1 dX3_init_21 rfl (lv_at hl 1 rfl) ?_
  refine va_get (D := D) (ci := 3) (v := .ref q7) (C := RX3) (T := TX3) (N := 3) C.1 C.2.1 C.2.2.1 wsX3_in C.2.2.2.1 C.2.2.2.2.2.1 hP 0 rfl rfl 0 (by decide) (C.2.2.1 _ fl_X3_11) (fun _ h9 => h9) rfl dX3_init_22 ?_
  refine lv_iload_n C.1 C.2.1 dX3_init_25 rfl (lv_at hl 0 rfl) ?_
  refine y_new C hl hA hP hD hS (ci := 0) (N := 5) (Cn := RX0) (T := TX0) rfl wsX0_in tyX0 tyX0_ok df_X0 kl_X3_9 in_X0 iz_X0 (k_X0_init l D dA) ⟨rfl, rfl⟩ ci_X0_init cc_X0_init cd_X0_init (Or.inr ⟨"TranscriptCutter", by decide +kernel⟩) ⟨rfl, rfl⟩ ⟨Nat.le_of_ble_eq_true rfl, Nat.le_of_ble_eq_true rfl⟩ (Nat.le_of_ble_eq_true rfl) (Nat.le_of_ble_eq_true rfl) (Nat.le_of_ble_eq_true rfl) dX3_init_26 dX3_init_29 dX3_init_30 (fun u26_2 H locs hP hD hS => ?_)
  have hP : va_P D vwCl ((r, .inr (3, [.ref q7, .int 0, .int 0])) :: (([(q7, .inl (dA 3, 12, .inr (.inr (.inr (.inr (va_up (va_up (fun _ => none) 0 (some (zX0 u26_0))) 1 (some (zX0 u26_1))))))))] ++ wX0 dA u26_0) ++ wX0 dA u26_1) ++ wX0 dA u26_2) H := hP
  have hD : va_D A ((r, .inr (3, [.ref q7, .int 0, .int 0])) :: (([(q7, .inl (dA 3, 12, .inr (.inr (.inr (.inr (va_up (va_up (fun _ => none) 0 (some (zX0 u26_0))) 1 (some (zX0 u26_1))))))))] ++ wX0 dA u26_0) ++ wX0 dA u26_1) ++ wX0 dA u26_2) := hD
  refine va_astq (D := D) (cl := vwCl) (tys := tyG dA) C.1 C.2.1 C.2.2.2.2.2.1 hP hD hS 1 3 12 0 (r := (RX0, TX0, 5)) rfl rfl rfl rfl (show ¬((2 : Int32) < 0 ∨ 12 ≤ (2 : Int32).toNatClampNeg) from by decide) dX3_init_33 (fun H locs hP hD hS => ?_)
  have hP : va_P D vwCl ((r, .inr (3, [.ref q7, .int 0, .int 0])) :: (([(q7, .inl (dA 3, 12, .inr (.inr (.inr (.inr (va_up (va_up (va_up (fun _ => none) 0 (some (zX0 u26_0))) 1 (some (zX0 u26_1))) 2 (some (zX0 u26_2))))))))] ++ wX0 dA u26_0) ++ wX0 dA u26_1) ++ wX0 dA u26_2) H := hP
  have hD : va_D A ((r, .inr (3, [.ref q7, .int 0, .int 0])) :: (([(q7, .inl (dA 3, 12, .inr (.inr (.inr (.inr (va_up (va_up (va_up (fun _ => none) 0 (some (zX0 u26_0))) 1 (some (zX0 u26_1))) 2 (some (zX0 u26_2))))))))] ++ wX0 dA u26_0) ++ wX0 dA u26_1) ++ wX0 dA u26_2) := hD
  refine lv_iinc (v := 3) (lv' := [(1, .int 3), (0, .ref r)]) C.1 C.2.1 dX3_init_34 hl (k := 0) rfl (by decide) (by decide) rfl (fun ls hl => ?_)
  refine lv_goto (tgt := 15) C.1 C.2.1 dX3_init_37 (by decide) ?_
  refine lv_iload_n C.1 C.2.1 dX3_init_15 rfl (lv_at hl 0 rfl) ?_
  refine lv_bipush (v := 12) C.1 C.2.1 dX3_init_16 (by decide) ?_
  refine lv_icmp_ge (tgt := 40) C.1 C.2.1 dX3_init_18 (by decide) (fun q => absurd q (by decide)) (fun _ => ?_)
  refine lv_aload_n C.1 C.2.1 dX3_init_21 rfl (lv_at hl 1 rfl) ?_
  refine va_get (D := D) (ci := 3) (v := .ref q7) (C := RX3) (T := TX3) (N := 3) C.1 C.2.1 C.2.2.1 wsX3_in C.2.2.2.1 C.2.2.2.2.2.1 hP 0 rfl rfl 0 (by decide) (C.2.2.1 _ fl_X3_11) (fun _ h9 => h9) rfl dX3_init_22 ?_
  refine lv_iload_n C.1 C.2.1 dX3_init_25 rfl (lv_at hl 0 rfl) ?_
  refine y_new C hl hA hP hD hS (ci := 0) (N := 5) (Cn := RX0) (T := TX0) rfl wsX0_in tyX0 tyX0_ok df_X0 kl_X3_9 in_X0 iz_X0 (k_X0_init l D dA) ⟨rfl, rfl⟩ ci_X0_init cc_X0_init cd_X0_init (Or.inr ⟨"TranscriptCutter", by decide +kernel⟩) ⟨rfl, rfl⟩ ⟨Nat.le_of_ble_eq_true rfl, Nat.le_of_ble_eq_true rfl⟩ (Nat.le_of_ble_eq_true rfl) (Nat.le_of_ble_eq_true rfl) (Nat.le_of_ble_eq_true rfl) dX3_init_26 dX3_init_29 dX3_init_30 (fun u26_3 H locs hP hD hS => ?_)
  have hP : va_P D vwCl ((r, .inr (3, [.ref q7, .int 0, .int 0])) :: ((([(q7, .inl (dA 3, 12, .inr (.inr (.inr (.inr (va_up (va_up (va_up (fun _ => none) 0 (some (zX0 u26_0))) 1 (some (zX0 u26_1))) 2 (some (zX0 u26_2))))))))] ++ wX0 dA u26_0) ++ wX0 dA u26_1) ++ wX0 dA u26_2) ++ wX0 dA u26_3) H := hP
  have hD : va_D A ((r, .inr (3, [.ref q7, .int 0, .int 0])) :: ((([(q7, .inl (dA 3, 12, .inr (.inr (.inr (.inr (va_up (va_up (va_up (fun _ => none) 0 (some (zX0 u26_0))) 1 (some (zX0 u26_1))) 2 (some (zX0 u26_2))))))))] ++ wX0 dA u26_0) ++ wX0 dA u26_1) ++ wX0 dA u26_2) ++ wX0 dA u26_3) := hD
  refine va_astq (D := D) (cl := vwCl) (tys := tyG dA) C.1 C.2.1 C.2.2.2.2.2.1 hP hD hS 1 3 17 0 (r := (RX0, TX0, 5)) rfl rfl rfl rfl (show ¬((3 : Int32) < 0 ∨ 12 ≤ (3 : Int32).toNatClampNeg) from by decide) dX3_init_33 (fun H locs hP hD hS => ?_)
  have hP : va_P D vwCl ((r, .inr (3, [.ref q7, .int 0, .int 0])) :: ((([(q7, .inl (dA 3, 12, .inr (.inr (.inr (.inr (va_up (va_up (va_up (va_up (fun _ => none) 0 (some (zX0 u26_0))) 1 (some (zX0 u26_1))) 2 (some (zX0 u26_2))) 3 (some (zX0 u26_3))))))))] ++ wX0 dA u26_0) ++ wX0 dA u26_1) ++ wX0 dA u26_2) ++ wX0 dA u26_3) H := hP
  have hD : va_D A ((r, .inr (3, [.ref q7, .int 0, .int 0])) :: ((([(q7, .inl (dA 3, 12, .inr (.inr (.inr (.inr (va_up (va_up (va_up (va_up (fun _ => none) 0 (some (zX0 u26_0))) 1 (some (zX0 u26_1))) 2 (some (zX0 u26_2))) 3 (some (zX0 u26_3))))))))] ++ wX0 dA u26_0) ++ wX0 dA u26_1) ++ wX0 dA u26_2) ++ wX0 dA u26_3) := hD
  refine lv_iinc (v := 4) (lv' := [(1, .int 4), (0, .ref r)]) C.1 C.2.1 dX3_init_34 hl (k := 0) rfl (by decide) (by decide) rfl (fun ls hl => ?_)
  refine lv_goto (tgt := 15) C.1 C.2.1 dX3_init_37 (by decide) ?_
  refine lv_iload_n C.1 C.2.1 dX3_init_15 rfl (lv_at hl 0 rfl) ?_
  refine lv_bipush (v := 12) C.1 C.2.1 dX3_init_16 (by decide) ?_
  refine lv_icmp_ge (tgt := 40) C.1 C.2.1 dX3_init_18 (by decide) (fun q => absurd q (by decide)) (fun _ => ?_)
  refine lv_aload_n C.1 C.2.1 dX3_init_21 rfl (lv_at hl 1 rfl) ?_
  refine va_get (D := D) (ci := 3) (v := .ref q7) (C := RX3) (T := TX3) (N := 3) C.1 C.2.1 C.2.2.1 wsX3_in C.2.2.2.1 C.2.2.2.2.2.1 hP 0 rfl rfl 0 (by decide) (C.2.2.1 _ fl_X3_11) (fun _ h9 => h9) rfl dX3_init_22 ?_
  refine lv_iload_n C.1 C.2.1 dX3_init_25 rfl (lv_at hl 0 rfl) ?_
  refine y_new C hl hA hP hD hS (ci := 0) (N := 5) (Cn := RX0) (T := TX0) rfl wsX0_in tyX0 tyX0_ok df_X0 kl_X3_9 in_X0 iz_X0 (k_X0_init l D dA) ⟨rfl, rfl⟩ ci_X0_init cc_X0_init cd_X0_init (Or.inr ⟨"TranscriptCutter", by decide +kernel⟩) ⟨rfl, rfl⟩ ⟨Nat.le_of_ble_eq_true rfl, Nat.le_of_ble_eq_true rfl⟩ (Nat.le_of_ble_eq_true rfl) (Nat.le_of_ble_eq_true rfl) (Nat.le_of_ble_eq_true rfl) dX3_init_26 dX3_init_29 dX3_init_30 (fun u26_4 H locs hP hD hS => ?_)
  have hP : va_P D vwCl ((r, .inr (3, [.ref q7, .int 0, .int 0])) :: (((([(q7, .inl (dA 3, 12, .inr (.inr (.inr (.inr (va_up (va_up (va_up (va_up (fun _ => none) 0 (some (zX0 u26_0))) 1 (some (zX0 u26_1))) 2 (some (zX0 u26_2))) 3 (some (zX0 u26_3))))))))] ++ wX0 dA u26_0) ++ wX0 dA u26_1) ++ wX0 dA u26_2) ++ wX0 dA u26_3) ++ wX0 dA u26_4) H := hP
  have hD : va_D A ((r, .inr (3, [.ref q7, .int 0, .int 0])) :: (((([(q7, .inl (dA 3, 12, .inr (.inr (.inr (.inr (va_up (va_up (va_up (va_up (fun _ => none) 0 (some (zX0 u26_0))) 1 (some (zX0 u26_1))) 2 (some (zX0 u26_2))) 3 (some (zX0 u26_3))))))))] ++ wX0 dA u26_0) ++ wX0 dA u26_1) ++ wX0 dA u26_2) ++ wX0 dA u26_3) ++ wX0 dA u26_4) := hD
  refine va_astq (D := D) (cl := vwCl) (tys := tyG dA) C.1 C.2.1 C.2.2.2.2.2.1 hP hD hS 1 3 22 0 (r := (RX0, TX0, 5)) rfl rfl rfl rfl (show ¬((4 : Int32) < 0 ∨ 12 ≤ (4 : Int32).toNatClampNeg) from by decide) dX3_init_33 (fun H locs hP hD hS => ?_)
  have hP : va_P D vwCl ((r, .inr (3, [.ref q7, .int 0, .int 0])) :: (((([(q7, .inl (dA 3, 12, .inr (.inr (.inr (.inr (va_up (va_up (va_up (va_up (va_up (fun _ => none) 0 (some (zX0 u26_0))) 1 (some (zX0 u26_1))) 2 (some (zX0 u26_2))) 3 (some (zX0 u26_3))) 4 (some (zX0 u26_4))))))))] ++ wX0 dA u26_0) ++ wX0 dA u26_1) ++ wX0 dA u26_2) ++ wX0 dA u26_3) ++ wX0 dA u26_4) H := hP
  have hD : va_D A ((r, .inr (3, [.ref q7, .int 0, .int 0])) :: (((([(q7, .inl (dA 3, 12, .inr (.inr (.inr (.inr (va_up (va_up (va_up (va_up (va_up (fun _ => none) 0 (some (zX0 u26_0))) 1 (some (zX0 u26_1))) 2 (some (zX0 u26_2))) 3 (some (zX0 u26_3))) 4 (some (zX0 u26_4))))))))] ++ wX0 dA u26_0) ++ wX0 dA u26_1) ++ wX0 dA u26_2) ++ wX0 dA u26_3) ++ wX0 dA u26_4) := hD
  refine lv_iinc (v := 5) (lv' := [(1, .int 5), (0, .ref r)]) C.1 C.2.1 dX3_init_34 hl (k := 0) rfl (by decide) (by decide) rfl (fun ls hl => ?_)
  refine lv_goto (tgt := 15) C.1 C.2.1 dX3_init_37 (by decide) ?_
  refine lv_iload_n C.1 C.2.1 dX3_init_15 rfl (lv_at hl 0 rfl) ?_
  refine lv_bipush (v := 12) C.1 C.2.1 dX3_init_16 (by decide) ?_
  refine lv_icmp_ge (tgt := 40) C.1 C.2.1 dX3_init_18 (by decide) (fun q => absurd q (by decide)) (fun _ => ?_)
  refine lv_aload_n C.1 C.2.1 dX3_init_21 rfl (lv_at hl 1 rfl) ?_
  refine va_get (D := D) (ci := 3) (v := .ref q7) (C := RX3) (T := TX3) (N := 3) C.1 C.2.1 C.2.2.1 wsX3_in C.2.2.2.1 C.2.2.2.2.2.1 hP 0 rfl rfl 0 (by decide) (C.2.2.1 _ fl_X3_11) (fun _ h9 => h9) rfl dX3_init_22 ?_
  refine lv_iload_n C.1 C.2.1 dX3_init_25 rfl (lv_at hl 0 rfl) ?_
  refine y_new C hl hA hP hD hS (ci := 0) (N := 5) (Cn := RX0) (T := TX0) rfl wsX0_in tyX0 tyX0_ok df_X0 kl_X3_9 in_X0 iz_X0 (k_X0_init l D dA) ⟨rfl, rfl⟩ ci_X0_init cc_X0_init cd_X0_init (Or.inr ⟨"TranscriptCutter", by decide +kernel⟩) ⟨rfl, rfl⟩ ⟨Nat.le_of_ble_eq_true rfl, Nat.le_of_ble_eq_true rfl⟩ (Nat.le_of_ble_eq_true rfl) (Nat.le_of_ble_eq_true rfl) (Nat.le_of_ble_eq_true rfl) dX3_init_26 dX3_init_29 dX3_init_30 (fun u26_5 H locs hP hD hS => ?_)
  have hP : va_P D vwCl ((r, .inr (3, [.ref q7, .int 0, .int 0])) :: ((((([(q7, .inl (dA 3, 12, .inr (.inr (.inr (.inr (va_up (va_up (va_up (va_up (va_up (fun _ => none) 0 (some (zX0 u26_0))) 1 (some (zX0 u26_1))) 2 (some (zX0 u26_2))) 3 (some (zX0 u26_3))) 4 (some (zX0 u26_4))))))))] ++ wX0 dA u26_0) ++ wX0 dA u26_1) ++ wX0 dA u26_2) ++ wX0 dA u26_3) ++ wX0 dA u26_4) ++ wX0 dA u26_5) H := hP
  have hD : va_D A ((r, .inr (3, [.ref q7, .int 0, .int 0])) :: ((((([(q7, .inl (dA 3, 12, .inr (.inr (.inr (.inr (va_up (va_up (va_up (va_up (va_up (fun _ => none) 0 (some (zX0 u26_0))) 1 (some (zX0 u26_1))) 2 (some (zX0 u26_2))) 3 (some (zX0 u26_3))) 4 (some (zX0 u26_4))))))))] ++ wX0 dA u26_0) ++ wX0 dA u26_1) ++ wX0 dA u26_2) ++ wX0 dA u26_3) ++ wX0 dA u26_4) ++ wX0 dA u26_5) := hD
  refine va_astq (D := D) (cl := vwCl) (tys := tyG dA) C.1 C.2.1 C.2.2.2.2.2.1 hP hD hS 1 3 27 0 (r := (RX0, TX0, 5)) rfl rfl rfl rfl (show ¬((5 : Int32) < 0 ∨ 12 ≤ (5 : Int32).toNatClampNeg) from by decide) dX3_init_33 (fun H locs hP hD hS => ?_)
  have hP : va_P D vwCl ((r, .inr (3, [.ref q7, .int 0, .int 0])) :: ((((([(q7, .inl (dA 3, 12, .inr (.inr (.inr (.inr (va_up (va_up (va_up (va_up (va_up (va_up (fun _ => none) 0 (some (zX0 u26_0))) 1 (some (zX0 u26_1))) 2 (some (zX0 u26_2))) 3 (some (zX0 u26_3))) 4 (some (zX0 u26_4))) 5 (some (zX0 u26_5))))))))] ++ wX0 dA u26_0) ++ wX0 dA u26_1) ++ wX0 dA u26_2) ++ wX0 dA u26_3) ++ wX0 dA u26_4) ++ wX0 dA u26_5) H := hP
  have hD : va_D A ((r, .inr (3, [.ref q7, .int 0, .int 0])) :: ((((([(q7, .inl (dA 3, 12, .inr (.inr (.inr (.inr (va_up (va_up (va_up (va_up (va_up (va_up (fun _ => none) 0 (some (zX0 u26_0))) 1 (some (zX0 u26_1))) 2 (some (zX0 u26_2))) 3 (some (zX0 u26_3))) 4 (some (zX0 u26_4))) 5 (some (zX0 u26_5))))))))] ++ wX0 dA u26_0) ++ wX0 dA u26_1) ++ wX0 dA u26_2) ++ wX0 dA u26_3) ++ wX0 dA u26_4) ++ wX0 dA u26_5) := hD
  refine lv_iinc (v := 6) (lv' := [(1, .int 6), (0, .ref r)]) C.1 C.2.1 dX3_init_34 hl (k := 0) rfl (by decide) (by decide) rfl (fun ls hl => ?_)
  refine lv_goto (tgt := 15) C.1 C.2.1 dX3_init_37 (by decide) ?_
  refine lv_iload_n C.1 C.2.1 dX3_init_15 rfl (lv_at hl 0 rfl) ?_
  refine lv_bipush (v := 12) C.1 C.2.1 dX3_init_16 (by decide) ?_
  refine lv_icmp_ge (tgt := 40) C.1 C.2.1 dX3_init_18 (by decide) (fun q => absurd q (by decide)) (fun _ => ?_)
  refine lv_aload_n C.1 C.2.1 dX3_init_21 rfl (lv_at hl 1 rfl) ?_
  refine va_get (D := D) (ci := 3) (v := .ref q7) (C := RX3) (T := TX3) (N := 3) C.1 C.2.1 C.2.2.1 wsX3_in C.2.2.2.1 C.2.2.2.2.2.1 hP 0 rfl rfl 0 (by decide) (C.2.2.1 _ fl_X3_11) (fun _ h9 => h9) rfl dX3_init_22 ?_
  refine lv_iload_n C.1 C.2.1 dX3_init_25 rfl (lv_at hl 0 rfl) ?_
  refine y_new C hl hA hP hD hS (ci := 0) (N := 5) (Cn := RX0) (T := TX0) rfl wsX0_in tyX0 tyX0_ok df_X0 kl_X3_9 in_X0 iz_X0 (k_X0_init l D dA) ⟨rfl, rfl⟩ ci_X0_init cc_X0_init cd_X0_init (Or.inr ⟨"TranscriptCutter", by decide +kernel⟩) ⟨rfl, rfl⟩ ⟨Nat.le_of_ble_eq_true rfl, Nat.le_of_ble_eq_true rfl⟩ (Nat.le_of_ble_eq_true rfl) (Nat.le_of_ble_eq_true rfl) (Nat.le_of_ble_eq_true rfl) dX3_init_26 dX3_init_29 dX3_init_30 (fun u26_6 H locs hP hD hS => ?_)
  have hP : va_P D vwCl ((r, .inr (3, [.ref q7, .int 0, .int 0])) :: (((((([(q7, .inl (dA 3, 12, .inr (.inr (.inr (.inr (va_up (va_up (va_up (va_up (va_up (va_up (fun _ => none) 0 (some (zX0 u26_0))) 1 (some (zX0 u26_1))) 2 (some (zX0 u26_2))) 3 (some (zX0 u26_3))) 4 (some (zX0 u26_4))) 5 (some (zX0 u26_5))))))))] ++ wX0 dA u26_0) ++ wX0 dA u26_1) ++ wX0 dA u26_2) ++ wX0 dA u26_3) ++ wX0 dA u26_4) ++ wX0 dA u26_5) ++ wX0 dA u26_6) H := hP
  have hD : va_D A ((r, .inr (3, [.ref q7, .int 0, .int 0])) :: (((((([(q7, .inl (dA 3, 12, .inr (.inr (.inr (.inr (va_up (va_up (va_up (va_up (va_up (va_up (fun _ => none) 0 (some (zX0 u26_0))) 1 (some (zX0 u26_1))) 2 (some (zX0 u26_2))) 3 (some (zX0 u26_3))) 4 (some (zX0 u26_4))) 5 (some (zX0 u26_5))))))))] ++ wX0 dA u26_0) ++ wX0 dA u26_1) ++ wX0 dA u26_2) ++ wX0 dA u26_3) ++ wX0 dA u26_4) ++ wX0 dA u26_5) ++ wX0 dA u26_6) := hD
  refine va_astq (D := D) (cl := vwCl) (tys := tyG dA) C.1 C.2.1 C.2.2.2.2.2.1 hP hD hS 1 3 32 0 (r := (RX0, TX0, 5)) rfl rfl rfl rfl (show ¬((6 : Int32) < 0 ∨ 12 ≤ (6 : Int32).toNatClampNeg) from by decide) dX3_init_33 (fun H locs hP hD hS => ?_)
  have hP : va_P D vwCl ((r, .inr (3, [.ref q7, .int 0, .int 0])) :: (((((([(q7, .inl (dA 3, 12, .inr (.inr (.inr (.inr (va_up (va_up (va_up (va_up (va_up (va_up (va_up (fun _ => none) 0 (some (zX0 u26_0))) 1 (some (zX0 u26_1))) 2 (some (zX0 u26_2))) 3 (some (zX0 u26_3))) 4 (some (zX0 u26_4))) 5 (some (zX0 u26_5))) 6 (some (zX0 u26_6))))))))] ++ wX0 dA u26_0) ++ wX0 dA u26_1) ++ wX0 dA u26_2) ++ wX0 dA u26_3) ++ wX0 dA u26_4) ++ wX0 dA u26_5) ++ wX0 dA u26_6) H := hP
  have hD : va_D A ((r, .inr (3, [.ref q7, .int 0, .int 0])) :: (((((([(q7, .inl (dA 3, 12, .inr (.inr (.inr (.inr (va_up (va_up (va_up (va_up (va_up (va_up (va_up (fun _ => none) 0 (some (zX0 u26_0))) 1 (some (zX0 u26_1))) 2 (some (zX0 u26_2))) 3 (some (zX0 u26_3))) 4 (some (zX0 u26_4))) 5 (some (zX0 u26_5))) 6 (some (zX0 u26_6))))))))] ++ wX0 dA u26_0) ++ wX0 dA u26_1) ++ wX0 dA u26_2) ++ wX0 dA u26_3) ++ wX0 dA u26_4) ++ wX0 dA u26_5) ++ wX0 dA u26_6) := hD
  refine lv_iinc (v := 7) (lv' := [(1, .int 7), (0, .ref r)]) C.1 C.2.1 dX3_init_34 hl (k := 0) rfl (by decide) (by decide) rfl (fun ls hl => ?_)
  refine lv_goto (tgt := 15) C.1 C.2.1 dX3_init_37 (by decide) ?_
  refine lv_iload_n C.1 C.2.1 dX3_init_15 rfl (lv_at hl 0 rfl) ?_
  refine lv_bipush (v := 12) C.1 C.2.1 dX3_init_16 (by decide) ?_
  refine lv_icmp_ge (tgt := 40) C.1 C.2.1 dX3_init_18 (by decide) (fun q => absurd q (by decide)) (fun _ => ?_)
  refine lv_aload_n C.1 C.2.1 dX3_init_21 rfl (lv_at hl 1 rfl) ?_
  refine va_get (D := D) (ci := 3) (v := .ref q7) (C := RX3) (T := TX3) (N := 3) C.1 C.2.1 C.2.2.1 wsX3_in C.2.2.2.1 C.2.2.2.2.2.1 hP 0 rfl rfl 0 (by decide) (C.2.2.1 _ fl_X3_11) (fun _ h9 => h9) rfl dX3_init_22 ?_
  refine lv_iload_n C.1 C.2.1 dX3_init_25 rfl (lv_at hl 0 rfl) ?_
  refine y_new C hl hA hP hD hS (ci := 0) (N := 5) (Cn := RX0) (T := TX0) rfl wsX0_in tyX0 tyX0_ok df_X0 kl_X3_9 in_X0 iz_X0 (k_X0_init l D dA) ⟨rfl, rfl⟩ ci_X0_init cc_X0_init cd_X0_init (Or.inr ⟨"TranscriptCutter", by decide +kernel⟩) ⟨rfl, rfl⟩ ⟨Nat.le_of_ble_eq_true rfl, Nat.le_of_ble_eq_true rfl⟩ (Nat.le_of_ble_eq_true rfl) (Nat.le_of_ble_eq_true rfl) (Nat.le_of_ble_eq_true rfl) dX3_init_26 dX3_init_29 dX3_init_30 (fun u26_7 H locs hP hD hS => ?_)
  have hP : va_P D vwCl ((r, .inr (3, [.ref q7, .int 0, .int 0])) :: ((((((([(q7, .inl (dA 3, 12, .inr (.inr (.inr (.inr (va_up (va_up (va_up (va_up (va_up (va_up (va_up (fun _ => none) 0 (some (zX0 u26_0))) 1 (some (zX0 u26_1))) 2 (some (zX0 u26_2))) 3 (some (zX0 u26_3))) 4 (some (zX0 u26_4))) 5 (some (zX0 u26_5))) 6 (some (zX0 u26_6))))))))] ++ wX0 dA u26_0) ++ wX0 dA u26_1) ++ wX0 dA u26_2) ++ wX0 dA u26_3) ++ wX0 dA u26_4) ++ wX0 dA u26_5) ++ wX0 dA u26_6) ++ wX0 dA u26_7) H := hP
  have hD : va_D A ((r, .inr (3, [.ref q7, .int 0, .int 0])) :: ((((((([(q7, .inl (dA 3, 12, .inr (.inr (.inr (.inr (va_up (va_up (va_up (va_up (va_up (va_up (va_up (fun _ => none) 0 (some (zX0 u26_0))) 1 (some (zX0 u26_1))) 2 (some (zX0 u26_2))) 3 (some (zX0 u26_3))) 4 (some (zX0 u26_4))) 5 (some (zX0 u26_5))) 6 (some (zX0 u26_6))))))))] ++ wX0 dA u26_0) ++ wX0 dA u26_1) ++ wX0 dA u26_2) ++ wX0 dA u26_3) ++ wX0 dA u26_4) ++ wX0 dA u26_5) ++ wX0 dA u26_6) ++ wX0 dA u26_7) := hD
  refine va_astq (D := D) (cl := vwCl) (tys := tyG dA) C.1 C.2.1 C.2.2.2.2.2.1 hP hD hS 1 3 37 0 (r := (RX0, TX0, 5)) rfl rfl rfl rfl (show ¬((7 : Int32) < 0 ∨ 12 ≤ (7 : Int32).toNatClampNeg) from by decide) dX3_init_33 (fun H locs hP hD hS => ?_)
  have hP : va_P D vwCl ((r, .inr (3, [.ref q7, .int 0, .int 0])) :: ((((((([(q7, .inl (dA 3, 12, .inr (.inr (.inr (.inr (va_up (va_up (va_up (va_up (va_up (va_up (va_up (va_up (fun _ => none) 0 (some (zX0 u26_0))) 1 (some (zX0 u26_1))) 2 (some (zX0 u26_2))) 3 (some (zX0 u26_3))) 4 (some (zX0 u26_4))) 5 (some (zX0 u26_5))) 6 (some (zX0 u26_6))) 7 (some (zX0 u26_7))))))))] ++ wX0 dA u26_0) ++ wX0 dA u26_1) ++ wX0 dA u26_2) ++ wX0 dA u26_3) ++ wX0 dA u26_4) ++ wX0 dA u26_5) ++ wX0 dA u26_6) ++ wX0 dA u26_7) H := hP
  have hD : va_D A ((r, .inr (3, [.ref q7, .int 0, .int 0])) :: ((((((([(q7, .inl (dA 3, 12, .inr (.inr (.inr (.inr (va_up (va_up (va_up (va_up (va_up (va_up (va_up (va_up (fun _ => none) 0 (some (zX0 u26_0))) 1 (some (zX0 u26_1))) 2 (some (zX0 u26_2))) 3 (some (zX0 u26_3))) 4 (some (zX0 u26_4))) 5 (some (zX0 u26_5))) 6 (some (zX0 u26_6))) 7 (some (zX0 u26_7))))))))] ++ wX0 dA u26_0) ++ wX0 dA u26_1) ++ wX0 dA u26_2) ++ wX0 dA u26_3) ++ wX0 dA u26_4) ++ wX0 dA u26_5) ++ wX0 dA u26_6) ++ wX0 dA u26_7) := hD
  refine lv_iinc (v := 8) (lv' := [(1, .int 8), (0, .ref r)]) C.1 C.2.1 dX3_init_34 hl (k := 0) rfl (by decide) (by decide) rfl (fun ls hl => ?_)
  refine lv_goto (tgt := 15) C.1 C.2.1 dX3_init_37 (by decide) ?_
  refine lv_iload_n C.1 C.2.1 dX3_init_15 rfl (lv_at hl 0 rfl) ?_
  refine lv_bipush (v := 12) C.1 C.2.1 dX3_init_16 (by decide) ?_
  refine lv_icmp_ge (tgt := 40) C.1 C.2.1 dX3_init_18 (by decide) (fun q => absurd q (by decide)) (fun _ => ?_)
  refine lv_aload_n C.1 C.2.1 dX3_init_21 rfl (lv_at hl 1 rfl) ?_
  refine va_get (D := D) (ci := 3) (v := .ref q7) (C := RX3) (T := TX3) (N := 3) C.1 C.2.1 C.2.2.1 wsX3_in C.2.2.2.1 C.2.2.2.2.2.1 hP 0 rfl rfl 0 (by decide) (C.2.2.1 _ fl_X3_11) (fun _ h9 => h9) rfl dX3_init_22 ?_
  refine lv_iload_n C.1 C.2.1 dX3_init_25 rfl (lv_at hl 0 rfl) ?_
  refine y_new C hl hA hP hD hS (ci := 0) (N := 5) (Cn := RX0) (T := TX0) rfl wsX0_in tyX0 tyX0_ok df_X0 kl_X3_9 in_X0 iz_X0 (k_X0_init l D dA) ⟨rfl, rfl⟩ ci_X0_init cc_X0_init cd_X0_init (Or.inr ⟨"TranscriptCutter", by decide +kernel⟩) ⟨rfl, rfl⟩ ⟨Nat.le_of_ble_eq_true rfl, Nat.le_of_ble_eq_true rfl⟩ (Nat.le_of_ble_eq_true rfl) (Nat.le_of_ble_eq_true rfl) (Nat.le_of_ble_eq_true rfl) dX3_init_26 dX3_init_29 dX3_init_30 (fun u26_8 H locs hP hD hS => ?_)
  have hP : va_P D vwCl ((r, .inr (3, [.ref q7, .int 0, .int 0])) :: (((((((([(q7, .inl (dA 3, 12, .inr (.inr (.inr (.inr (va_up (va_up (va_up (va_up (va_up (va_up (va_up (va_up (fun _ => none) 0 (some (zX0 u26_0))) 1 (some (zX0 u26_1))) 2 (some (zX0 u26_2))) 3 (some (zX0 u26_3))) 4 (some (zX0 u26_4))) 5 (some (zX0 u26_5))) 6 (some (zX0 u26_6))) 7 (some (zX0 u26_7))))))))] ++ wX0 dA u26_0) ++ wX0 dA u26_1) ++ wX0 dA u26_2) ++ wX0 dA u26_3) ++ wX0 dA u26_4) ++ wX0 dA u26_5) ++ wX0 dA u26_6) ++ wX0 dA u26_7) ++ wX0 dA u26_8) H := hP
  have hD : va_D A ((r, .inr (3, [.ref q7, .int 0, .int 0])) :: (((((((([(q7, .inl (dA 3, 12, .inr (.inr (.inr (.inr (va_up (va_up (va_up (va_up (va_up (va_up (va_up (va_up (fun _ => none) 0 (some (zX0 u26_0))) 1 (some (zX0 u26_1))) 2 (some (zX0 u26_2))) 3 (some (zX0 u26_3))) 4 (some (zX0 u26_4))) 5 (some (zX0 u26_5))) 6 (some (zX0 u26_6))) 7 (some (zX0 u26_7))))))))] ++ wX0 dA u26_0) ++ wX0 dA u26_1) ++ wX0 dA u26_2) ++ wX0 dA u26_3) ++ wX0 dA u26_4) ++ wX0 dA u26_5) ++ wX0 dA u26_6) ++ wX0 dA u26_7) ++ wX0 dA u26_8) := hD
  refine va_astq (D := D) (cl := vwCl) (tys := tyG dA) C.1 C.2.1 C.2.2.2.2.2.1 hP hD hS 1 3 42 0 (r := (RX0, TX0, 5)) rfl rfl rfl rfl (show ¬((8 : Int32) < 0 ∨ 12 ≤ (8 : Int32).toNatClampNeg) from by decide) dX3_init_33 (fun H locs hP hD hS => ?_)
  have hP : va_P D vwCl ((r, .inr (3, [.ref q7, .int 0, .int 0])) :: (((((((([(q7, .inl (dA 3, 12, .inr (.inr (.inr (.inr (va_up (va_up (va_up (va_up (va_up (va_up (va_up (va_up (va_up (fun _ => none) 0 (some (zX0 u26_0))) 1 (some (zX0 u26_1))) 2 (some (zX0 u26_2))) 3 (some (zX0 u26_3))) 4 (some (zX0 u26_4))) 5 (some (zX0 u26_5))) 6 (some (zX0 u26_6))) 7 (some (zX0 u26_7))) 8 (some (zX0 u26_8))))))))] ++ wX0 dA u26_0) ++ wX0 dA u26_1) ++ wX0 dA u26_2) ++ wX0 dA u26_3) ++ wX0 dA u26_4) ++ wX0 dA u26_5) ++ wX0 dA u26_6) ++ wX0 dA u26_7) ++ wX0 dA u26_8) H := hP
  have hD : va_D A ((r, .inr (3, [.ref q7, .int 0, .int 0])) :: (((((((([(q7, .inl (dA 3, 12, .inr (.inr (.inr (.inr (va_up (va_up (va_up (va_up (va_up (va_up (va_up (va_up (va_up (fun _ => none) 0 (some (zX0 u26_0))) 1 (some (zX0 u26_1))) 2 (some (zX0 u26_2))) 3 (some (zX0 u26_3))) 4 (some (zX0 u26_4))) 5 (some (zX0 u26_5))) 6 (some (zX0 u26_6))) 7 (some (zX0 u26_7))) 8 (some (zX0 u26_8))))))))] ++ wX0 dA u26_0) ++ wX0 dA u26_1) ++ wX0 dA u26_2) ++ wX0 dA u26_3) ++ wX0 dA u26_4) ++ wX0 dA u26_5) ++ wX0 dA u26_6) ++ wX0 dA u26_7) ++ wX0 dA u26_8) := hD
  refine lv_iinc (v := 9) (lv' := [(1, .int 9), (0, .ref r)]) C.1 C.2.1 dX3_init_34 hl (k := 0) rfl (by decide) (by decide) rfl (fun ls hl => ?_)
  refine lv_goto (tgt := 15) C.1 C.2.1 dX3_init_37 (by decide) ?_
  refine lv_iload_n C.1 C.2.1 dX3_init_15 rfl (lv_at hl 0 rfl) ?_
  refine lv_bipush (v := 12) C.1 C.2.1 dX3_init_16 (by decide) ?_
  refine lv_icmp_ge (tgt := 40) C.1 C.2.1 dX3_init_18 (by decide) (fun q => absurd q (by decide)) (fun _ => ?_)
  refine lv_aload_n C.1 C.2.1 dX3_init_21 rfl (lv_at hl 1 rfl) ?_
  refine va_get (D := D) (ci := 3) (v := .ref q7) (C := RX3) (T := TX3) (N := 3) C.1 C.2.1 C.2.2.1 wsX3_in C.2.2.2.1 C.2.2.2.2.2.1 hP 0 rfl rfl 0 (by decide) (C.2.2.1 _ fl_X3_11) (fun _ h9 => h9) rfl dX3_init_22 ?_
  refine lv_iload_n C.1 C.2.1 dX3_init_25 rfl (lv_at hl 0 rfl) ?_
  refine y_new C hl hA hP hD hS (ci := 0) (N := 5) (Cn := RX0) (T := TX0) rfl wsX0_in tyX0 tyX0_ok df_X0 kl_X3_9 in_X0 iz_X0 (k_X0_init l D dA) ⟨rfl, rfl⟩ ci_X0_init cc_X0_init cd_X0_init (Or.inr ⟨"TranscriptCutter", by decide +kernel⟩) ⟨rfl, rfl⟩ ⟨Nat.le_of_ble_eq_true rfl, Nat.le_of_ble_eq_true rfl⟩ (Nat.le_of_ble_eq_true rfl) (Nat.le_of_ble_eq_true rfl) (Nat.le_of_ble_eq_true rfl) dX3_init_26 dX3_init_29 dX3_init_30 (fun u26_9 H locs hP hD hS => ?_)
  have hP : va_P D vwCl ((r, .inr (3, [.ref q7, .int 0, .int 0])) :: ((((((((([(q7, .inl (dA 3, 12, .inr (.inr (.inr (.inr (va_up (va_up (va_up (va_up (va_up (va_up (va_up (va_up (va_up (fun _ => none) 0 (some (zX0 u26_0))) 1 (some (zX0 u26_1))) 2 (some (zX0 u26_2))) 3 (some (zX0 u26_3))) 4 (some (zX0 u26_4))) 5 (some (zX0 u26_5))) 6 (some (zX0 u26_6))) 7 (some (zX0 u26_7))) 8 (some (zX0 u26_8))))))))] ++ wX0 dA u26_0) ++ wX0 dA u26_1) ++ wX0 dA u26_2) ++ wX0 dA u26_3) ++ wX0 dA u26_4) ++ wX0 dA u26_5) ++ wX0 dA u26_6) ++ wX0 dA u26_7) ++ wX0 dA u26_8) ++ wX0 dA u26_9) H := hP
  have hD : va_D A ((r, .inr (3, [.ref q7, .int 0, .int 0])) :: ((((((((([(q7, .inl (dA 3, 12, .inr (.inr (.inr (.inr (va_up (va_up (va_up (va_up (va_up (va_up (va_up (va_up (va_up (fun _ => none) 0 (some (zX0 u26_0))) 1 (some (zX0 u26_1))) 2 (some (zX0 u26_2))) 3 (some (zX0 u26_3))) 4 (some (zX0 u26_4))) 5 (some (zX0 u26_5))) 6 (some (zX0 u26_6))) 7 (some (zX0 u26_7))) 8 (some (zX0 u26_8))))))))] ++ wX0 dA u26_0) ++ wX0 dA u26_1) ++ wX0 dA u26_2) ++ wX0 dA u26_3) ++ wX0 dA u26_4) ++ wX0 dA u26_5) ++ wX0 dA u26_6) ++ wX0 dA u26_7) ++ wX0 dA u26_8) ++ wX0 dA u26_9) := hD
  refine va_astq (D := D) (cl := vwCl) (tys := tyG dA) C.1 C.2.1 C.2.2.2.2.2.1 hP hD hS 1 3 47 0 (r := (RX0, TX0, 5)) rfl rfl rfl rfl (show ¬((9 : Int32) < 0 ∨ 12 ≤ (9 : Int32).toNatClampNeg) from by decide) dX3_init_33 (fun H locs hP hD hS => ?_)
  have hP : va_P D vwCl ((r, .inr (3, [.ref q7, .int 0, .int 0])) :: ((((((((([(q7, .inl (dA 3, 12, .inr (.inr (.inr (.inr (va_up (va_up (va_up (va_up (va_up (va_up (va_up (va_up (va_up (va_up (fun _ => none) 0 (some (zX0 u26_0))) 1 (some (zX0 u26_1))) 2 (some (zX0 u26_2))) 3 (some (zX0 u26_3))) 4 (some (zX0 u26_4))) 5 (some (zX0 u26_5))) 6 (some (zX0 u26_6))) 7 (some (zX0 u26_7))) 8 (some (zX0 u26_8))) 9 (some (zX0 u26_9))))))))] ++ wX0 dA u26_0) ++ wX0 dA u26_1) ++ wX0 dA u26_2) ++ wX0 dA u26_3) ++ wX0 dA u26_4) ++ wX0 dA u26_5) ++ wX0 dA u26_6) ++ wX0 dA u26_7) ++ wX0 dA u26_8) ++ wX0 dA u26_9) H := hP
  have hD : va_D A ((r, .inr (3, [.ref q7, .int 0, .int 0])) :: ((((((((([(q7, .inl (dA 3, 12, .inr (.inr (.inr (.inr (va_up (va_up (va_up (va_up (va_up (va_up (va_up (va_up (va_up (va_up (fun _ => none) 0 (some (zX0 u26_0))) 1 (some (zX0 u26_1))) 2 (some (zX0 u26_2))) 3 (some (zX0 u26_3))) 4 (some (zX0 u26_4))) 5 (some (zX0 u26_5))) 6 (some (zX0 u26_6))) 7 (some (zX0 u26_7))) 8 (some (zX0 u26_8))) 9 (some (zX0 u26_9))))))))] ++ wX0 dA u26_0) ++ wX0 dA u26_1) ++ wX0 dA u26_2) ++ wX0 dA u26_3) ++ wX0 dA u26_4) ++ wX0 dA u26_5) ++ wX0 dA u26_6) ++ wX0 dA u26_7) ++ wX0 dA u26_8) ++ wX0 dA u26_9) := hD
  refine lv_iinc (v := 10) (lv' := [(1, .int 10), (0, .ref r)]) C.1 C.2.1 dX3_init_34 hl (k := 0) rfl (by decide) (by decide) rfl (fun ls hl => ?_)
  refine lv_goto (tgt := 15) C.1 C.2.1 dX3_init_37 (by decide) ?_
  refine lv_iload_n C.1 C.2.1 dX3_init_15 rfl (lv_at hl 0 rfl) ?_
  refine lv_bipush (v := 12) C.1 C.2.1 dX3_init_16 (by decide) ?_
  refine lv_icmp_ge (tgt := 40) C.1 C.2.1 dX3_init_18 (by decide) (fun q => absurd q (by decide)) (fun _ => ?_)
  refine lv_aload_n C.1 C.2.1 dX3_init_21 rfl (lv_at hl 1 rfl) ?_
  refine va_get (D := D) (ci := 3) (v := .ref q7) (C := RX3) (T := TX3) (N := 3) C.1 C.2.1 C.2.2.1 wsX3_in C.2.2.2.1 C.2.2.2.2.2.1 hP 0 rfl rfl 0 (by decide) (C.2.2.1 _ fl_X3_11) (fun _ h9 => h9) rfl dX3_init_22 ?_
  refine lv_iload_n C.1 C.2.1 dX3_init_25 rfl (lv_at hl 0 rfl) ?_
  refine y_new C hl hA hP hD hS (ci := 0) (N := 5) (Cn := RX0) (T := TX0) rfl wsX0_in tyX0 tyX0_ok df_X0 kl_X3_9 in_X0 iz_X0 (k_X0_init l D dA) ⟨rfl, rfl⟩ ci_X0_init cc_X0_init cd_X0_init (Or.inr ⟨"TranscriptCutter", by decide +kernel⟩) ⟨rfl, rfl⟩ ⟨Nat.le_of_ble_eq_true rfl, Nat.le_of_ble_eq_true rfl⟩ (Nat.le_of_ble_eq_true rfl) (Nat.le_of_ble_eq_true rfl) (Nat.le_of_ble_eq_true rfl) dX3_init_26 dX3_init_29 dX3_init_30 (fun u26_10 H locs hP hD hS => ?_)
  have hP : va_P D vwCl ((r, .inr (3, [.ref q7, .int 0, .int 0])) :: (((((((((([(q7, .inl (dA 3, 12, .inr (.inr (.inr (.inr (va_up (va_up (va_up (va_up (va_up (va_up (va_up (va_up (va_up (va_up (fun _ => none) 0 (some (zX0 u26_0))) 1 (some (zX0 u26_1))) 2 (some (zX0 u26_2))) 3 (some (zX0 u26_3))) 4 (some (zX0 u26_4))) 5 (some (zX0 u26_5))) 6 (some (zX0 u26_6))) 7 (some (zX0 u26_7))) 8 (some (zX0 u26_8))) 9 (some (zX0 u26_9))))))))] ++ wX0 dA u26_0) ++ wX0 dA u26_1) ++ wX0 dA u26_2) ++ wX0 dA u26_3) ++ wX0 dA u26_4) ++ wX0 dA u26_5) ++ wX0 dA u26_6) ++ wX0 dA u26_7) ++ wX0 dA u26_8) ++ wX0 dA u26_9) ++ wX0 dA u26_10) H := hP
  have hD : va_D A ((r, .inr (3, [.ref q7, .int 0, .int 0])) :: (((((((((([(q7, .inl (dA 3, 12, .inr (.inr (.inr (.inr (va_up (va_up (va_up (va_up (va_up (va_up (va_up (va_up (va_up (va_up (fun _ => none) 0 (some (zX0 u26_0))) 1 (some (zX0 u26_1))) 2 (some (zX0 u26_2))) 3 (some (zX0 u26_3))) 4 (some (zX0 u26_4))) 5 (some (zX0 u26_5))) 6 (some (zX0 u26_6))) 7 (some (zX0 u26_7))) 8 (some (zX0 u26_8))) 9 (some (zX0 u26_9))))))))] ++ wX0 dA u26_0) ++ wX0 dA u26_1) ++ wX0 dA u26_2) ++ wX0 dA u26_3) ++ wX0 dA u26_4) ++ wX0 dA u26_5) ++ wX0 dA u26_6) ++ wX0 dA u26_7) ++ wX0 dA u26_8) ++ wX0 dA u26_9) ++ wX0 dA u26_10) := hD
  refine va_astq (D := D) (cl := vwCl) (tys := tyG dA) C.1 C.2.1 C.2.2.2.2.2.1 hP hD hS 1 3 52 0 (r := (RX0, TX0, 5)) rfl rfl rfl rfl (show ¬((10 : Int32) < 0 ∨ 12 ≤ (10 : Int32).toNatClampNeg) from by decide) dX3_init_33 (fun H locs hP hD hS => ?_)
  have hP : va_P D vwCl ((r, .inr (3, [.ref q7, .int 0, .int 0])) :: (((((((((([(q7, .inl (dA 3, 12, .inr (.inr (.inr (.inr (va_up (va_up (va_up (va_up (va_up (va_up (va_up (va_up (va_up (va_up (va_up (fun _ => none) 0 (some (zX0 u26_0))) 1 (some (zX0 u26_1))) 2 (some (zX0 u26_2))) 3 (some (zX0 u26_3))) 4 (some (zX0 u26_4))) 5 (some (zX0 u26_5))) 6 (some (zX0 u26_6))) 7 (some (zX0 u26_7))) 8 (some (zX0 u26_8))) 9 (some (zX0 u26_9))) 10 (some (zX0 u26_10))))))))] ++ wX0 dA u26_0) ++ wX0 dA u26_1) ++ wX0 dA u26_2) ++ wX0 dA u26_3) ++ wX0 dA u26_4) ++ wX0 dA u26_5) ++ wX0 dA u26_6) ++ wX0 dA u26_7) ++ wX0 dA u26_8) ++ wX0 dA u26_9) ++ wX0 dA u26_10) H := hP
  have hD : va_D A ((r, .inr (3, [.ref q7, .int 0, .int 0])) :: (((((((((([(q7, .inl (dA 3, 12, .inr (.inr (.inr (.inr (va_up (va_up (va_up (va_up (va_up (va_up (va_up (va_up (va_up (va_up (va_up (fun _ => none) 0 (some (zX0 u26_0))) 1 (some (zX0 u26_1))) 2 (some (zX0 u26_2))) 3 (some (zX0 u26_3))) 4 (some (zX0 u26_4))) 5 (some (zX0 u26_5))) 6 (some (zX0 u26_6))) 7 (some (zX0 u26_7))) 8 (some (zX0 u26_8))) 9 (some (zX0 u26_9))) 10 (some (zX0 u26_10))))))))] ++ wX0 dA u26_0) ++ wX0 dA u26_1) ++ wX0 dA u26_2) ++ wX0 dA u26_3) ++ wX0 dA u26_4) ++ wX0 dA u26_5) ++ wX0 dA u26_6) ++ wX0 dA u26_7) ++ wX0 dA u26_8) ++ wX0 dA u26_9) ++ wX0 dA u26_10) := hD
  refine lv_iinc (v := 11) (lv' := [(1, .int 11), (0, .ref r)]) C.1 C.2.1 dX3_init_34 hl (k := 0) rfl (by decide) (by decide) rfl (fun ls hl => ?_)
  refine lv_goto (tgt := 15) C.1 C.2.1 dX3_init_37 (by decide) ?_
  refine lv_iload_n C.1 C.2.1 dX3_init_15 rfl (lv_at hl 0 rfl) ?_
  refine lv_bipush (v := 12) C.1 C.2.1 dX3_init_16 (by decide) ?_
  refine lv_icmp_ge (tgt := 40) C.1 C.2.1 dX3_init_18 (by decide) (fun q => absurd q (by decide)) (fun _ => ?_)
  refine lv_aload_n C.1 C.2.1 dX3_init_21 rfl (lv_at hl 1 rfl) ?_
  refine va_get (D := D) (ci := 3) (v := .ref q7) (C := RX3) (T := TX3) (N := 3) C.1 C.2.1 C.2.2.1 wsX3_in C.2.2.2.1 C.2.2.2.2.2.1 hP 0 rfl rfl 0 (by decide) (C.2.2.1 _ fl_X3_11) (fun _ h9 => h9) rfl dX3_init_22 ?_
  refine lv_iload_n C.1 C.2.1 dX3_init_25 rfl (lv_at hl 0 rfl) ?_
  refine y_new C hl hA hP hD hS (ci := 0) (N := 5) (Cn := RX0) (T := TX0) rfl wsX0_in tyX0 tyX0_ok df_X0 kl_X3_9 in_X0 iz_X0 (k_X0_init l D dA) ⟨rfl, rfl⟩ ci_X0_init cc_X0_init cd_X0_init (Or.inr ⟨"TranscriptCutter", by decide +kernel⟩) ⟨rfl, rfl⟩ ⟨Nat.le_of_ble_eq_true rfl, Nat.le_of_ble_eq_true rfl⟩ (Nat.le_of_ble_eq_true rfl) (Nat.le_of_ble_eq_true rfl) (Nat.le_of_ble_eq_true rfl) dX3_init_26 dX3_init_29 dX3_init_30 (fun u26_11 H locs hP hD hS => ?_)
  have hP : va_P D vwCl ((r, .inr (3, [.ref q7, .int 0, .int 0])) :: ((((((((((([(q7, .inl (dA 3, 12, .inr (.inr (.inr (.inr (va_up (va_up (va_up (va_up (va_up (va_up (va_up (va_up (va_up (va_up (va_up (fun _ => none) 0 (some (zX0 u26_0))) 1 (some (zX0 u26_1))) 2 (some (zX0 u26_2))) 3 (some (zX0 u26_3))) 4 (some (zX0 u26_4))) 5 (some (zX0 u26_5))) 6 (some (zX0 u26_6))) 7 (some (zX0 u26_7))) 8 (some (zX0 u26_8))) 9 (some (zX0 u26_9))) 10 (some (zX0 u26_10))))))))] ++ wX0 dA u26_0) ++ wX0 dA u26_1) ++ wX0 dA u26_2) ++ wX0 dA u26_3) ++ wX0 dA u26_4) ++ wX0 dA u26_5) ++ wX0 dA u26_6) ++ wX0 dA u26_7) ++ wX0 dA u26_8) ++ wX0 dA u26_9) ++ wX0 dA u26_10) ++ wX0 dA u26_11) H := hP
  have hD : va_D A ((r, .inr (3, [.ref q7, .int 0, .int 0])) :: ((((((((((([(q7, .inl (dA 3, 12, .inr (.inr (.inr (.inr (va_up (va_up (va_up (va_up (va_up (va_up (va_up (va_up (va_up (va_up (va_up (fun _ => none) 0 (some (zX0 u26_0))) 1 (some (zX0 u26_1))) 2 (some (zX0 u26_2))) 3 (some (zX0 u26_3))) 4 (some (zX0 u26_4))) 5 (some (zX0 u26_5))) 6 (some (zX0 u26_6))) 7 (some (zX0 u26_7))) 8 (some (zX0 u26_8))) 9 (some (zX0 u26_9))) 10 (some (zX0 u26_10))))))))] ++ wX0 dA u26_0) ++ wX0 dA u26_1) ++ wX0 dA u26_2) ++ wX0 dA u26_3) ++ wX0 dA u26_4) ++ wX0 dA u26_5) ++ wX0 dA u26_6) ++ wX0 dA u26_7) ++ wX0 dA u26_8) ++ wX0 dA u26_9) ++ wX0 dA u26_10) ++ wX0 dA u26_11) := hD
  refine va_astq (D := D) (cl := vwCl) (tys := tyG dA) C.1 C.2.1 C.2.2.2.2.2.1 hP hD hS 1 3 57 0 (r := (RX0, TX0, 5)) rfl rfl rfl rfl (show ¬((11 : Int32) < 0 ∨ 12 ≤ (11 : Int32).toNatClampNeg) from by decide) dX3_init_33 (fun H locs hP hD hS => ?_)
  have hP : va_P D vwCl ((r, .inr (3, [.ref q7, .int 0, .int 0])) :: ((((((((((([(q7, .inl (dA 3, 12, .inr (.inr (.inr (.inr (va_up (va_up (va_up (va_up (va_up (va_up (va_up (va_up (va_up (va_up (va_up (va_up (fun _ => none) 0 (some (zX0 u26_0))) 1 (some (zX0 u26_1))) 2 (some (zX0 u26_2))) 3 (some (zX0 u26_3))) 4 (some (zX0 u26_4))) 5 (some (zX0 u26_5))) 6 (some (zX0 u26_6))) 7 (some (zX0 u26_7))) 8 (some (zX0 u26_8))) 9 (some (zX0 u26_9))) 10 (some (zX0 u26_10))) 11 (some (zX0 u26_11))))))))] ++ wX0 dA u26_0) ++ wX0 dA u26_1) ++ wX0 dA u26_2) ++ wX0 dA u26_3) ++ wX0 dA u26_4) ++ wX0 dA u26_5) ++ wX0 dA u26_6) ++ wX0 dA u26_7) ++ wX0 dA u26_8) ++ wX0 dA u26_9) ++ wX0 dA u26_10) ++ wX0 dA u26_11) H := hP
  have hD : va_D A ((r, .inr (3, [.ref q7, .int 0, .int 0])) :: ((((((((((([(q7, .inl (dA 3, 12, .inr (.inr (.inr (.inr (va_up (va_up (va_up (va_up (va_up (va_up (va_up (va_up (va_up (va_up (va_up (va_up (fun _ => none) 0 (some (zX0 u26_0))) 1 (some (zX0 u26_1))) 2 (some (zX0 u26_2))) 3 (some (zX0 u26_3))) 4 (some (zX0 u26_4))) 5 (some (zX0 u26_5))) 6 (some (zX0 u26_6))) 7 (some (zX0 u26_7))) 8 (some (zX0 u26_8))) 9 (some (zX0 u26_9))) 10 (some (zX0 u26_10))) 11 (some (zX0 u26_11))))))))] ++ wX0 dA u26_0) ++ wX0 dA u26_1) ++ wX0 dA u26_2) ++ wX0 dA u26_3) ++ wX0 dA u26_4) ++ wX0 dA u26_5) ++ wX0 dA u26_6) ++ wX0 dA u26_7) ++ wX0 dA u26_8) ++ wX0 dA u26_9) ++ wX0 dA u26_10) ++ wX0 dA u26_11) := hD
  refine lv_iinc (v := 12) (lv' := [(1, .int 12), (0, .ref r)]) C.1 C.2.1 dX3_init_34 hl (k := 0) rfl (by decide) (by decide) rfl (fun ls hl => ?_)
  refine lv_goto (tgt := 15) C.1 C.2.1 dX3_init_37 (by decide) ?_
  refine lv_iload_n C.1 C.2.1 dX3_init_15 rfl (lv_at hl 0 rfl) ?_
  refine lv_bipush (v := 12) C.1 C.2.1 dX3_init_16 (by decide) ?_
  refine lv_icmp_ge (tgt := 40) C.1 C.2.1 dX3_init_18 (by decide) (fun _ => ?_) (fun q => absurd (by decide) q)
  have hP := w_conv (i := 1) (g := fun j => some (zX0 ((fun i => [u26_0, u26_1, u26_2, u26_3, u26_4, u26_5, u26_6, u26_7, u26_8, u26_9, u26_10, u26_11].getD i (fun _ => 0)) j))) hP rfl (fun j hj => by
    rcases (show j = 0 ∨ j = 1 ∨ j = 2 ∨ j = 3 ∨ j = 4 ∨ j = 5 ∨ j = 6 ∨ j = 7 ∨ j = 8 ∨ j = 9 ∨ j = 10 ∨ j = 11 by omega) with rfl | rfl | rfl | rfl | rfl | rfl | rfl | rfl | rfl | rfl | rfl | rfl <;> rfl)
  have hD := hD.set (p := 1) (e := .inl (dA 3, 12, .inr (.inr (.inr (.inr (fun j => some (zX0 ((fun i => [u26_0, u26_1, u26_2, u26_3, u26_4, u26_5, u26_6, u26_7, u26_8, u26_9, u26_10, u26_11].getD i (fun _ => 0)) j)))))))) rfl
  exact y_ret C hr hlocks hS ((fun i => [r, q7].getD i 0), (fun i => [u26_0, u26_1, u26_2, u26_3, u26_4, u26_5, u26_6, u26_7, u26_8, u26_9, u26_10, u26_11].getD i (fun _ => 0))) rfl hP hD dX3_init_40
abbrev cX5_init : ByteArray := prog_7_method_1_code
def yX5_init : MethodName := ⟨RX5, "<init>", "()V"⟩
theorem dX5_init_0 : decode cX5_init 0 = .ok (.aload_n 0, 1) := by decide +kernel
theorem dX5_init_1 : decode cX5_init 1 = .ok (.invokespecial 3, 3) := by decide +kernel
theorem dX5_init_4 : decode cX5_init 4 = .ok (.aload_n 0, 1) := by decide +kernel
theorem dX5_init_5 : decode cX5_init 5 = .ok (.new 9, 3) := by decide +kernel
theorem dX5_init_8 : decode cX5_init 8 = .ok (.dup, 1) := by decide +kernel
theorem dX5_init_9 : decode cX5_init 9 = .ok (.invokespecial 11, 3) := by decide +kernel
theorem dX5_init_12 : decode cX5_init 12 = .ok (.putfield 12, 3) := by decide +kernel
theorem dX5_init_15 : decode cX5_init 15 = .ok (.return_, 1) := by decide +kernel
theorem ci_X5_init : Cond.instanceMethod yX5_init ∈ TW := TW_of 299 (by decide +kernel) (by decide +kernel)
theorem cc_X5_init : Cond.code yX5_init cX5_init 1 none ∈ TW := TW_of 300 (by decide +kernel) (by decide +kernel)
theorem cd_X5_init : yX5_init.cls ≠ "java/lang/invoke/MethodHandle" ∧ yX5_init.cls ≠ "java/lang/invoke/VarHandle" ∧ (parseMethodDescriptor yX5_init.desc).map (fun d => d.parameters.length) = some 0 := by decide +kernel
theorem kl_X5_9 : Cond.classLink RX5 9 RX6 ∈ TW := TW_of 302 (by decide +kernel) (by decide +kernel)
theorem fl_X5_12 : Cond.fieldLink RX5 12 RX5 (TX5 0).2.1 (TX5 0).2.2.1 ∈ TW := TW_of 337 (by decide +kernel) (by decide +kernel)
abbrev SX5 : Type := (Nat → Nat) × SX6
def zX5 (u : SX5) : Nat := u.1 0
def wX5 (dA : Nat → ClassId) (u : SX5) : va_W := (u.1 0, .inr (5, [.ref (zX6 u.2), .int 0, .int 0, .int 0])) :: (wX6 dA u.2)
set_option maxHeartbeats 4000000 in
set_option maxRecDepth 100000 in
theorem k_X5_init (l : Launch) (D : va_G) (dA : Nat → ClassId) : Ctor l D dA yX5_init cX5_init 1 ({ frames := 2, cells := 7, slots := 547, locals := 32 } : Room) (.inr (5, [.null, .int 0, .int 0, .int 0])) zX5 (wX5 dA) 7 547 := by
  refine metC RX5 rfl (by decide +kernel) (by decide) rfl ?_
  intro p e s m args below meth c r A C hr hlocks hin2 hA hP hD ls hl
  have hS : va_S A s.heap s.heap [] := va_S.rf
  have hP : va_P D vwCl ((r, .inr (5, [.null, .int 0, .int 0, .int 0])) :: []) s.heap := hP
  have hD : va_D A ((r, .inr (5, [.null, .int 0, .int 0, .int 0])) :: []) := hD
  refine lv_aload_n C.1 C.2.1 dX5_init_0 rfl (lv_at hl 0 rfl) ?_
  refine y_obj C hl ml_X5_obj oi_i oi_c dX5_init_1 ⟨Nat.le_of_ble_eq_true rfl, Nat.le_of_ble_eq_true rfl⟩ ?_
  refine lv_aload_n C.1 C.2.1 dX5_init_4 rfl (lv_at hl 0 rfl) ?_
  refine y_new C hl hA hP hD hS (ci := 6) (N := 7) (Cn := RX6) (T := TX6) rfl wsX6_in tyX6 tyX6_ok df_X6 kl_X5_9 in_X6 iz_X6 (k_X6_init l D dA) ⟨rfl, rfl⟩ ci_X6_init cc_X6_init cd_X6_init (Or.inr ⟨"TranscriptCutter", by decide +kernel⟩) ⟨rfl, rfl⟩ ⟨Nat.le_of_ble_eq_true rfl, Nat.le_of_ble_eq_true rfl⟩ (Nat.le_of_ble_eq_true rfl) (Nat.le_of_ble_eq_true rfl) (Nat.le_of_ble_eq_true rfl) dX5_init_5 dX5_init_8 dX5_init_9 (fun u5 H locs hP hD hS => ?_)
  have hP : va_P D vwCl ((r, .inr (5, [.null, .int 0, .int 0, .int 0])) :: wX6 dA u5) H := hP
  have hD : va_D A ((r, .inr (5, [.null, .int 0, .int 0, .int 0])) :: wX6 dA u5) := hD
  refine y_put C hP hD hS (T := TX5) (N := 4) rfl wsX5_in tyX5 tyX5_ok nmX5 0 12 (by decide) fl_X5_12 rfl rfl (ty := .object "TranscriptCutter$Script") (v := .ref (zX6 u5)) (by decide +kernel) rfl rfl (Nat.le_of_ble_eq_true rfl) dX5_init_12 (fun H locs hP hD hS => ?_)
  have hP : va_P D vwCl ((r, .inr (5, [.ref (zX6 u5), .int 0, .int 0, .int 0])) :: wX6 dA u5) H := hP
  have hD : va_D A ((r, .inr (5, [.ref (zX6 u5), .int 0, .int 0, .int 0])) :: wX6 dA u5) := hD
  exact y_ret C hr hlocks hS ((fun i => [r].getD i 0), u5) rfl hP hD dX5_init_15
abbrev cX10_init : ByteArray := prog_1_method_1_code
def yX10_init : MethodName := ⟨RX10, "<init>", "()V"⟩
theorem dX10_init_0 : decode cX10_init 0 = .ok (.aload_n 0, 1) := by decide +kernel
theorem dX10_init_1 : decode cX10_init 1 = .ok (.invokespecial 1, 3) := by decide +kernel
theorem dX10_init_4 : decode cX10_init 4 = .ok (.aload_n 0, 1) := by decide +kernel
theorem dX10_init_5 : decode cX10_init 5 = .ok (.new 7, 3) := by decide +kernel
theorem dX10_init_8 : decode cX10_init 8 = .ok (.dup, 1) := by decide +kernel
theorem dX10_init_9 : decode cX10_init 9 = .ok (.invokespecial 9, 3) := by decide +kernel
theorem dX10_init_12 : decode cX10_init 12 = .ok (.putfield 10, 3) := by decide +kernel
theorem dX10_init_15 : decode cX10_init 15 = .ok (.aload_n 0, 1) := by decide +kernel
theorem dX10_init_16 : decode cX10_init 16 = .ok (.new 16, 3) := by decide +kernel
theorem dX10_init_19 : decode cX10_init 19 = .ok (.dup, 1) := by decide +kernel
theorem dX10_init_20 : decode cX10_init 20 = .ok (.invokespecial 18, 3) := by decide +kernel
theorem dX10_init_23 : decode cX10_init 23 = .ok (.putfield 19, 3) := by decide +kernel
theorem dX10_init_26 : decode cX10_init 26 = .ok (.aload_n 0, 1) := by decide +kernel
theorem dX10_init_27 : decode cX10_init 27 = .ok (.new 23, 3) := by decide +kernel
theorem dX10_init_30 : decode cX10_init 30 = .ok (.dup, 1) := by decide +kernel
theorem dX10_init_31 : decode cX10_init 31 = .ok (.invokespecial 25, 3) := by decide +kernel
theorem dX10_init_34 : decode cX10_init 34 = .ok (.putfield 26, 3) := by decide +kernel
theorem dX10_init_37 : decode cX10_init 37 = .ok (.aload_n 0, 1) := by decide +kernel
theorem dX10_init_38 : decode cX10_init 38 = .ok (.new 30, 3) := by decide +kernel
theorem dX10_init_41 : decode cX10_init 41 = .ok (.dup, 1) := by decide +kernel
theorem dX10_init_42 : decode cX10_init 42 = .ok (.invokespecial 32, 3) := by decide +kernel
theorem dX10_init_45 : decode cX10_init 45 = .ok (.putfield 33, 3) := by decide +kernel
theorem dX10_init_48 : decode cX10_init 48 = .ok (.aload_n 0, 1) := by decide +kernel
theorem dX10_init_49 : decode cX10_init 49 = .ok (.new 37, 3) := by decide +kernel
theorem dX10_init_52 : decode cX10_init 52 = .ok (.dup, 1) := by decide +kernel
theorem dX10_init_53 : decode cX10_init 53 = .ok (.invokespecial 39, 3) := by decide +kernel
theorem dX10_init_56 : decode cX10_init 56 = .ok (.putfield 40, 3) := by decide +kernel
theorem dX10_init_59 : decode cX10_init 59 = .ok (.aload_n 0, 1) := by decide +kernel
theorem dX10_init_60 : decode cX10_init 60 = .ok (.new 44, 3) := by decide +kernel
theorem dX10_init_63 : decode cX10_init 63 = .ok (.dup, 1) := by decide +kernel
theorem dX10_init_64 : decode cX10_init 64 = .ok (.invokespecial 46, 3) := by decide +kernel
theorem dX10_init_67 : decode cX10_init 67 = .ok (.putfield 47, 3) := by decide +kernel
theorem dX10_init_70 : decode cX10_init 70 = .ok (.aload_n 0, 1) := by decide +kernel
theorem dX10_init_71 : decode cX10_init 71 = .ok (.new 51, 3) := by decide +kernel
theorem dX10_init_74 : decode cX10_init 74 = .ok (.dup, 1) := by decide +kernel
theorem dX10_init_75 : decode cX10_init 75 = .ok (.invokespecial 53, 3) := by decide +kernel
theorem dX10_init_78 : decode cX10_init 78 = .ok (.putfield 54, 3) := by decide +kernel
theorem dX10_init_81 : decode cX10_init 81 = .ok (.return_, 1) := by decide +kernel
theorem ci_X10_init : Cond.instanceMethod yX10_init ∈ TW := TW_of 49 (by decide +kernel) (by decide +kernel)
theorem cc_X10_init : Cond.code yX10_init cX10_init 1 none ∈ TW := TW_of 50 (by decide +kernel) (by decide +kernel)
theorem cd_X10_init : yX10_init.cls ≠ "java/lang/invoke/MethodHandle" ∧ yX10_init.cls ≠ "java/lang/invoke/VarHandle" ∧ (parseMethodDescriptor yX10_init.desc).map (fun d => d.parameters.length) = some 0 := by decide +kernel
theorem kl_X10_7 : Cond.classLink RX10 7 RX9 ∈ TW := TW_of 54 (by decide +kernel) (by decide +kernel)
theorem fl_X10_10 : Cond.fieldLink RX10 10 RX10 (TX10 0).2.1 (TX10 0).2.2.1 ∈ TW := TW_of 364 (by decide +kernel) (by decide +kernel)
theorem kl_X10_16 : Cond.classLink RX10 16 RX1 ∈ TW := TW_of 85 (by decide +kernel) (by decide +kernel)
theorem fl_X10_19 : Cond.fieldLink RX10 19 RX10 (TX10 1).2.1 (TX10 1).2.2.1 ∈ TW := TW_of 365 (by decide +kernel) (by decide +kernel)
theorem kl_X10_23 : Cond.classLink RX10 23 RX3 ∈ TW := TW_of 276 (by decide +kernel) (by decide +kernel)
theorem fl_X10_26 : Cond.fieldLink RX10 26 RX10 (TX10 2).2.1 (TX10 2).2.2.1 ∈ TW := TW_of 366 (by decide +kernel) (by decide +kernel)
theorem kl_X10_30 : Cond.classLink RX10 30 RX5 ∈ TW := TW_of 296 (by decide +kernel) (by decide +kernel)
theorem fl_X10_33 : Cond.fieldLink RX10 33 RX10 (TX10 3).2.1 (TX10 3).2.2.1 ∈ TW := TW_of 367 (by decide +kernel) (by decide +kernel)
theorem kl_X10_37 : Cond.classLink RX10 37 RX2 ∈ TW := TW_of 348 (by decide +kernel) (by decide +kernel)
theorem fl_X10_40 : Cond.fieldLink RX10 40 RX10 (TX10 4).2.1 (TX10 4).2.2.1 ∈ TW := TW_of 368 (by decide +kernel) (by decide +kernel)
theorem kl_X10_44 : Cond.classLink RX10 44 RX4 ∈ TW := TW_of 360 (by decide +kernel) (by decide +kernel)
theorem fl_X10_47 : Cond.fieldLink RX10 47 RX10 (TX10 5).2.1 (TX10 5).2.2.1 ∈ TW := TW_of 369 (by decide +kernel) (by decide +kernel)
theorem kl_X10_51 : Cond.classLink RX10 51 RX6 ∈ TW := TW_of 362 (by decide +kernel) (by decide +kernel)
theorem fl_X10_54 : Cond.fieldLink RX10 54 RX10 (TX10 6).2.1 (TX10 6).2.2.1 ∈ TW := TW_of 370 (by decide +kernel) (by decide +kernel)
abbrev SX10 : Type := (Nat → Nat) × SX9 × SX1 × SX3 × SX5 × SX2 × SX4 × SX6
def zX10 (u : SX10) : Nat := u.1 0
def wX10 (dA : Nat → ClassId) (u : SX10) : va_W := (u.1 0, .inr (8, [.ref (zX9 u.2.1), .ref (zX1 u.2.2.1), .ref (zX3 u.2.2.2.1), .ref (zX5 u.2.2.2.2.1), .ref (zX2 u.2.2.2.2.2.1), .ref (zX4 u.2.2.2.2.2.2.1), .ref (zX6 u.2.2.2.2.2.2.2)])) :: ((((((wX9 dA u.2.1 ++ wX1 dA u.2.2.1) ++ wX3 dA u.2.2.2.1) ++ wX5 dA u.2.2.2.2.1) ++ wX2 dA u.2.2.2.2.2.1) ++ wX4 dA u.2.2.2.2.2.2.1) ++ wX6 dA u.2.2.2.2.2.2.2)
set_option maxHeartbeats 4000000 in
set_option maxRecDepth 100000 in
theorem k_X10_init (l : Launch) (D : va_G) (dA : Nat → ClassId) : Ctor l D dA yX10_init cX10_init 1 ({ frames := 3, cells := 124, slots := 6441, locals := 53 } : Room) (.inr (8, [.null, .null, .null, .null, .null, .null, .null])) zX10 (wX10 dA) 124 6441 := by
  refine metC RX10 rfl (by decide +kernel) (by decide) rfl ?_
  intro p e s m args below meth c r A C hr hlocks hin2 hA hP hD ls hl
  have hS : va_S A s.heap s.heap [] := va_S.rf
  have hP : va_P D vwCl ((r, .inr (8, [.null, .null, .null, .null, .null, .null, .null])) :: []) s.heap := hP
  have hD : va_D A ((r, .inr (8, [.null, .null, .null, .null, .null, .null, .null])) :: []) := hD
  refine lv_aload_n C.1 C.2.1 dX10_init_0 rfl (lv_at hl 0 rfl) ?_
  refine y_obj C hl ml_X10_obj oi_i oi_c dX10_init_1 ⟨Nat.le_of_ble_eq_true rfl, Nat.le_of_ble_eq_true rfl⟩ ?_
  refine lv_aload_n C.1 C.2.1 dX10_init_4 rfl (lv_at hl 0 rfl) ?_
  refine y_new C hl hA hP hD hS (ci := 7) (N := 7) (Cn := RX9) (T := TX9) rfl wsX9_in tyX9 tyX9_ok df_X9 kl_X10_7 in_X9 iz_X9 (k_X9_init l D dA) ⟨rfl, rfl⟩ ci_X9_init cc_X9_init cd_X9_init (Or.inr ⟨"TranscriptCutter", by decide +kernel⟩) ⟨rfl, rfl⟩ ⟨Nat.le_of_ble_eq_true rfl, Nat.le_of_ble_eq_true rfl⟩ (Nat.le_of_ble_eq_true rfl) (Nat.le_of_ble_eq_true rfl) (Nat.le_of_ble_eq_true rfl) dX10_init_5 dX10_init_8 dX10_init_9 (fun u5 H locs hP hD hS => ?_)
  have hP : va_P D vwCl ((r, .inr (8, [.null, .null, .null, .null, .null, .null, .null])) :: wX9 dA u5) H := hP
  have hD : va_D A ((r, .inr (8, [.null, .null, .null, .null, .null, .null, .null])) :: wX9 dA u5) := hD
  refine y_putF C hin2 hP hD hS (T := TX10) (N := 7) rfl wsX10_in tyX10 tyX10_ok nmX10 0 10 (by decide) fl_X10_10 rfl rfl (ty := .object "TranscriptCutter$Tokens") (v := .ref (zX9 u5)) (by decide +kernel) rfl rfl (Nat.le_of_ble_eq_true rfl) dX10_init_12 (fun H locs hP hD hS => ?_)
  have hP : va_P D vwCl ((r, .inr (8, [.ref (zX9 u5), .null, .null, .null, .null, .null, .null])) :: wX9 dA u5) H := hP
  have hD : va_D A ((r, .inr (8, [.ref (zX9 u5), .null, .null, .null, .null, .null, .null])) :: wX9 dA u5) := hD
  refine lv_aload_n C.1 C.2.1 dX10_init_15 rfl (lv_at hl 0 rfl) ?_
  refine y_new C hl hA hP hD hS (ci := 1) (N := 16) (Cn := RX1) (T := TX1) rfl wsX1_in tyX1 tyX1_ok df_X1 kl_X10_16 in_X1 iz_X1 (k_X1_init l D dA) ⟨rfl, rfl⟩ ci_X1_init cc_X1_init cd_X1_init (Or.inr ⟨"TranscriptCutter", by decide +kernel⟩) ⟨rfl, rfl⟩ ⟨Nat.le_of_ble_eq_true rfl, Nat.le_of_ble_eq_true rfl⟩ (Nat.le_of_ble_eq_true rfl) (Nat.le_of_ble_eq_true rfl) (Nat.le_of_ble_eq_true rfl) dX10_init_16 dX10_init_19 dX10_init_20 (fun u16 H locs hP hD hS => ?_)
  have hP : va_P D vwCl ((r, .inr (8, [.ref (zX9 u5), .null, .null, .null, .null, .null, .null])) :: wX9 dA u5 ++ wX1 dA u16) H := hP
  have hD : va_D A ((r, .inr (8, [.ref (zX9 u5), .null, .null, .null, .null, .null, .null])) :: wX9 dA u5 ++ wX1 dA u16) := hD
  refine y_putF C hin2 hP hD hS (T := TX10) (N := 7) rfl wsX10_in tyX10 tyX10_ok nmX10 1 19 (by decide) fl_X10_19 rfl rfl (ty := .object "TranscriptCutter$Film") (v := .ref (zX1 u16)) (by decide +kernel) rfl rfl (Nat.le_of_ble_eq_true rfl) dX10_init_23 (fun H locs hP hD hS => ?_)
  have hP : va_P D vwCl ((r, .inr (8, [.ref (zX9 u5), .ref (zX1 u16), .null, .null, .null, .null, .null])) :: wX9 dA u5 ++ wX1 dA u16) H := hP
  have hD : va_D A ((r, .inr (8, [.ref (zX9 u5), .ref (zX1 u16), .null, .null, .null, .null, .null])) :: wX9 dA u5 ++ wX1 dA u16) := hD
  refine lv_aload_n C.1 C.2.1 dX10_init_26 rfl (lv_at hl 0 rfl) ?_
  refine y_new C hl hA hP hD hS (ci := 3) (N := 3) (Cn := RX3) (T := TX3) rfl wsX3_in tyX3 tyX3_ok df_X3 kl_X10_23 in_X3 iz_X3 (k_X3_init l D dA) ⟨rfl, rfl⟩ ci_X3_init cc_X3_init cd_X3_init (Or.inl (TW_of 278 (by decide +kernel) (by decide +kernel))) ⟨rfl, rfl⟩ ⟨Nat.le_of_ble_eq_true rfl, Nat.le_of_ble_eq_true rfl⟩ (Nat.le_of_ble_eq_true rfl) (Nat.le_of_ble_eq_true rfl) (Nat.le_of_ble_eq_true rfl) dX10_init_27 dX10_init_30 dX10_init_31 (fun u27 H locs hP hD hS => ?_)
  have hP : va_P D vwCl ((r, .inr (8, [.ref (zX9 u5), .ref (zX1 u16), .null, .null, .null, .null, .null])) :: (wX9 dA u5 ++ wX1 dA u16) ++ wX3 dA u27) H := hP
  have hD : va_D A ((r, .inr (8, [.ref (zX9 u5), .ref (zX1 u16), .null, .null, .null, .null, .null])) :: (wX9 dA u5 ++ wX1 dA u16) ++ wX3 dA u27) := hD
  refine y_putF C hin2 hP hD hS (T := TX10) (N := 7) rfl wsX10_in tyX10 tyX10_ok nmX10 2 26 (by decide) fl_X10_26 rfl rfl (ty := .object "TranscriptCutter$History") (v := .ref (zX3 u27)) (by decide +kernel) rfl rfl (Nat.le_of_ble_eq_true rfl) dX10_init_34 (fun H locs hP hD hS => ?_)
  have hP : va_P D vwCl ((r, .inr (8, [.ref (zX9 u5), .ref (zX1 u16), .ref (zX3 u27), .null, .null, .null, .null])) :: (wX9 dA u5 ++ wX1 dA u16) ++ wX3 dA u27) H := hP
  have hD : va_D A ((r, .inr (8, [.ref (zX9 u5), .ref (zX1 u16), .ref (zX3 u27), .null, .null, .null, .null])) :: (wX9 dA u5 ++ wX1 dA u16) ++ wX3 dA u27) := hD
  refine lv_aload_n C.1 C.2.1 dX10_init_37 rfl (lv_at hl 0 rfl) ?_
  refine y_new C hl hA hP hD hS (ci := 5) (N := 4) (Cn := RX5) (T := TX5) rfl wsX5_in tyX5 tyX5_ok df_X5 kl_X10_30 in_X5 iz_X5 (k_X5_init l D dA) ⟨rfl, rfl⟩ ci_X5_init cc_X5_init cd_X5_init (Or.inr ⟨"TranscriptCutter", by decide +kernel⟩) ⟨rfl, rfl⟩ ⟨Nat.le_of_ble_eq_true rfl, Nat.le_of_ble_eq_true rfl⟩ (Nat.le_of_ble_eq_true rfl) (Nat.le_of_ble_eq_true rfl) (Nat.le_of_ble_eq_true rfl) dX10_init_38 dX10_init_41 dX10_init_42 (fun u38 H locs hP hD hS => ?_)
  have hP : va_P D vwCl ((r, .inr (8, [.ref (zX9 u5), .ref (zX1 u16), .ref (zX3 u27), .null, .null, .null, .null])) :: ((wX9 dA u5 ++ wX1 dA u16) ++ wX3 dA u27) ++ wX5 dA u38) H := hP
  have hD : va_D A ((r, .inr (8, [.ref (zX9 u5), .ref (zX1 u16), .ref (zX3 u27), .null, .null, .null, .null])) :: ((wX9 dA u5 ++ wX1 dA u16) ++ wX3 dA u27) ++ wX5 dA u38) := hD
  refine y_putF C hin2 hP hD hS (T := TX10) (N := 7) rfl wsX10_in tyX10 tyX10_ok nmX10 3 33 (by decide) fl_X10_33 rfl rfl (ty := .object "TranscriptCutter$Runner") (v := .ref (zX5 u38)) (by decide +kernel) rfl rfl (Nat.le_of_ble_eq_true rfl) dX10_init_45 (fun H locs hP hD hS => ?_)
  have hP : va_P D vwCl ((r, .inr (8, [.ref (zX9 u5), .ref (zX1 u16), .ref (zX3 u27), .ref (zX5 u38), .null, .null, .null])) :: ((wX9 dA u5 ++ wX1 dA u16) ++ wX3 dA u27) ++ wX5 dA u38) H := hP
  have hD : va_D A ((r, .inr (8, [.ref (zX9 u5), .ref (zX1 u16), .ref (zX3 u27), .ref (zX5 u38), .null, .null, .null])) :: ((wX9 dA u5 ++ wX1 dA u16) ++ wX3 dA u27) ++ wX5 dA u38) := hD
  refine lv_aload_n C.1 C.2.1 dX10_init_48 rfl (lv_at hl 0 rfl) ?_
  refine y_new C hl hA hP hD hS (ci := 2) (N := 2) (Cn := RX2) (T := TX2) rfl wsX2_in tyX2 tyX2_ok df_X2 kl_X10_37 in_X2 iz_X2 (k_X2_init l D dA) ⟨rfl, rfl⟩ ci_X2_init cc_X2_init cd_X2_init (Or.inr ⟨"TranscriptCutter", by decide +kernel⟩) ⟨rfl, rfl⟩ ⟨Nat.le_of_ble_eq_true rfl, Nat.le_of_ble_eq_true rfl⟩ (Nat.le_of_ble_eq_true rfl) (Nat.le_of_ble_eq_true rfl) (Nat.le_of_ble_eq_true rfl) dX10_init_49 dX10_init_52 dX10_init_53 (fun u49 H locs hP hD hS => ?_)
  have hP : va_P D vwCl ((r, .inr (8, [.ref (zX9 u5), .ref (zX1 u16), .ref (zX3 u27), .ref (zX5 u38), .null, .null, .null])) :: (((wX9 dA u5 ++ wX1 dA u16) ++ wX3 dA u27) ++ wX5 dA u38) ++ wX2 dA u49) H := hP
  have hD : va_D A ((r, .inr (8, [.ref (zX9 u5), .ref (zX1 u16), .ref (zX3 u27), .ref (zX5 u38), .null, .null, .null])) :: (((wX9 dA u5 ++ wX1 dA u16) ++ wX3 dA u27) ++ wX5 dA u38) ++ wX2 dA u49) := hD
  refine y_putF C hin2 hP hD hS (T := TX10) (N := 7) rfl wsX10_in tyX10 tyX10_ok nmX10 4 40 (by decide) fl_X10_40 rfl rfl (ty := .object "TranscriptCutter$FormattedText") (v := .ref (zX2 u49)) (by decide +kernel) rfl rfl (Nat.le_of_ble_eq_true rfl) dX10_init_56 (fun H locs hP hD hS => ?_)
  have hP : va_P D vwCl ((r, .inr (8, [.ref (zX9 u5), .ref (zX1 u16), .ref (zX3 u27), .ref (zX5 u38), .ref (zX2 u49), .null, .null])) :: (((wX9 dA u5 ++ wX1 dA u16) ++ wX3 dA u27) ++ wX5 dA u38) ++ wX2 dA u49) H := hP
  have hD : va_D A ((r, .inr (8, [.ref (zX9 u5), .ref (zX1 u16), .ref (zX3 u27), .ref (zX5 u38), .ref (zX2 u49), .null, .null])) :: (((wX9 dA u5 ++ wX1 dA u16) ++ wX3 dA u27) ++ wX5 dA u38) ++ wX2 dA u49) := hD
  refine lv_aload_n C.1 C.2.1 dX10_init_59 rfl (lv_at hl 0 rfl) ?_
  refine y_new C hl hA hP hD hS (ci := 4) (N := 19) (Cn := RX4) (T := TX4) rfl wsX4_in tyX4 tyX4_ok df_X4 kl_X10_44 in_X4 iz_X4 (k_X4_init l D dA) ⟨rfl, rfl⟩ ci_X4_init cc_X4_init cd_X4_init (Or.inr ⟨"TranscriptCutter", by decide +kernel⟩) ⟨rfl, rfl⟩ ⟨Nat.le_of_ble_eq_true rfl, Nat.le_of_ble_eq_true rfl⟩ (Nat.le_of_ble_eq_true rfl) (Nat.le_of_ble_eq_true rfl) (Nat.le_of_ble_eq_true rfl) dX10_init_60 dX10_init_63 dX10_init_64 (fun u60 H locs hP hD hS => ?_)
  have hP : va_P D vwCl ((r, .inr (8, [.ref (zX9 u5), .ref (zX1 u16), .ref (zX3 u27), .ref (zX5 u38), .ref (zX2 u49), .null, .null])) :: ((((wX9 dA u5 ++ wX1 dA u16) ++ wX3 dA u27) ++ wX5 dA u38) ++ wX2 dA u49) ++ wX4 dA u60) H := hP
  have hD : va_D A ((r, .inr (8, [.ref (zX9 u5), .ref (zX1 u16), .ref (zX3 u27), .ref (zX5 u38), .ref (zX2 u49), .null, .null])) :: ((((wX9 dA u5 ++ wX1 dA u16) ++ wX3 dA u27) ++ wX5 dA u38) ++ wX2 dA u49) ++ wX4 dA u60) := hD
  refine y_put C hP hD hS (T := TX10) (N := 7) rfl wsX10_in tyX10 tyX10_ok nmX10 5 47 (by decide) fl_X10_47 rfl rfl (ty := .object "TranscriptCutter$Recording") (v := .ref (zX4 u60)) (by decide +kernel) rfl rfl (Nat.le_of_ble_eq_true rfl) dX10_init_67 (fun H locs hP hD hS => ?_)
  have hP : va_P D vwCl ((r, .inr (8, [.ref (zX9 u5), .ref (zX1 u16), .ref (zX3 u27), .ref (zX5 u38), .ref (zX2 u49), .ref (zX4 u60), .null])) :: ((((wX9 dA u5 ++ wX1 dA u16) ++ wX3 dA u27) ++ wX5 dA u38) ++ wX2 dA u49) ++ wX4 dA u60) H := hP
  have hD : va_D A ((r, .inr (8, [.ref (zX9 u5), .ref (zX1 u16), .ref (zX3 u27), .ref (zX5 u38), .ref (zX2 u49), .ref (zX4 u60), .null])) :: ((((wX9 dA u5 ++ wX1 dA u16) ++ wX3 dA u27) ++ wX5 dA u38) ++ wX2 dA u49) ++ wX4 dA u60) := hD
  refine lv_aload_n C.1 C.2.1 dX10_init_70 rfl (lv_at hl 0 rfl) ?_
  refine y_new C hl hA hP hD hS (ci := 6) (N := 7) (Cn := RX6) (T := TX6) rfl wsX6_in tyX6 tyX6_ok df_X6 kl_X10_51 in_X6 iz_X6 (k_X6_init l D dA) ⟨rfl, rfl⟩ ci_X6_init cc_X6_init cd_X6_init (Or.inr ⟨"TranscriptCutter", by decide +kernel⟩) ⟨rfl, rfl⟩ ⟨Nat.le_of_ble_eq_true rfl, Nat.le_of_ble_eq_true rfl⟩ (Nat.le_of_ble_eq_true rfl) (Nat.le_of_ble_eq_true rfl) (Nat.le_of_ble_eq_true rfl) dX10_init_71 dX10_init_74 dX10_init_75 (fun u71 H locs hP hD hS => ?_)
  have hP : va_P D vwCl ((r, .inr (8, [.ref (zX9 u5), .ref (zX1 u16), .ref (zX3 u27), .ref (zX5 u38), .ref (zX2 u49), .ref (zX4 u60), .null])) :: (((((wX9 dA u5 ++ wX1 dA u16) ++ wX3 dA u27) ++ wX5 dA u38) ++ wX2 dA u49) ++ wX4 dA u60) ++ wX6 dA u71) H := hP
  have hD : va_D A ((r, .inr (8, [.ref (zX9 u5), .ref (zX1 u16), .ref (zX3 u27), .ref (zX5 u38), .ref (zX2 u49), .ref (zX4 u60), .null])) :: (((((wX9 dA u5 ++ wX1 dA u16) ++ wX3 dA u27) ++ wX5 dA u38) ++ wX2 dA u49) ++ wX4 dA u60) ++ wX6 dA u71) := hD
  refine y_put C hP hD hS (T := TX10) (N := 7) rfl wsX10_in tyX10 tyX10_ok nmX10 6 54 (by decide) fl_X10_54 rfl rfl (ty := .object "TranscriptCutter$Script") (v := .ref (zX6 u71)) (by decide +kernel) rfl rfl (Nat.le_of_ble_eq_true rfl) dX10_init_78 (fun H locs hP hD hS => ?_)
  have hP : va_P D vwCl ((r, .inr (8, [.ref (zX9 u5), .ref (zX1 u16), .ref (zX3 u27), .ref (zX5 u38), .ref (zX2 u49), .ref (zX4 u60), .ref (zX6 u71)])) :: (((((wX9 dA u5 ++ wX1 dA u16) ++ wX3 dA u27) ++ wX5 dA u38) ++ wX2 dA u49) ++ wX4 dA u60) ++ wX6 dA u71) H := hP
  have hD : va_D A ((r, .inr (8, [.ref (zX9 u5), .ref (zX1 u16), .ref (zX3 u27), .ref (zX5 u38), .ref (zX2 u49), .ref (zX4 u60), .ref (zX6 u71)])) :: (((((wX9 dA u5 ++ wX1 dA u16) ++ wX3 dA u27) ++ wX5 dA u38) ++ wX2 dA u49) ++ wX4 dA u60) ++ wX6 dA u71) := hD
  exact y_ret C hr hlocks hS ((fun i => [r].getD i 0), u5, u16, u27, u38, u49, u60, u71) rfl hP hD dX10_init_81
