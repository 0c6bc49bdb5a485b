/-! the model's constructor and the whole world -/
abbrev cX11_init : ByteArray := prog_13_method_4_code
def yX11_init : MethodName := ⟨RX11, "<init>", "()V"⟩
theorem dX11_init_0 : decode cX11_init 0 = .ok (.aload_n 0, 1) := by decide +kernel
theorem dX11_init_1 : decode cX11_init 1 = .ok (.invokespecial 7, 3) := by decide +kernel
theorem dX11_init_4 : decode cX11_init 4 = .ok (.aload_n 0, 1) := by decide +kernel
theorem dX11_init_5 : decode cX11_init 5 = .ok (.sipush 193, 3) := by decide +kernel
theorem dX11_init_8 : decode cX11_init 8 = .ok (.newarray .int, 2) := by decide +kernel
theorem dX11_init_10 : decode cX11_init 10 = .ok (.putfield 13, 3) := by decide +kernel
theorem dX11_init_13 : decode cX11_init 13 = .ok (.aload_n 0, 1) := by decide +kernel
theorem dX11_init_14 : decode cX11_init 14 = .ok (.sipush 193, 3) := by decide +kernel
theorem dX11_init_17 : decode cX11_init 17 = .ok (.newarray .int, 2) := by decide +kernel
theorem dX11_init_19 : decode cX11_init 19 = .ok (.putfield 17, 3) := by decide +kernel
theorem dX11_init_22 : decode cX11_init 22 = .ok (.aload_n 0, 1) := by decide +kernel
theorem dX11_init_23 : decode cX11_init 23 = .ok (.bipush 40, 2) := by decide +kernel
theorem dX11_init_25 : decode cX11_init 25 = .ok (.newarray .int, 2) := by decide +kernel
theorem dX11_init_27 : decode cX11_init 27 = .ok (.putfield 20, 3) := by decide +kernel
theorem dX11_init_30 : decode cX11_init 30 = .ok (.aload_n 0, 1) := by decide +kernel
theorem dX11_init_31 : decode cX11_init 31 = .ok (.bipush 40, 2) := by decide +kernel
theorem dX11_init_33 : decode cX11_init 33 = .ok (.newarray .int, 2) := by decide +kernel
theorem dX11_init_35 : decode cX11_init 35 = .ok (.putfield 23, 3) := by decide +kernel
theorem dX11_init_38 : decode cX11_init 38 = .ok (.aload_n 0, 1) := by decide +kernel
theorem dX11_init_39 : decode cX11_init 39 = .ok (.bipush 40, 2) := by decide +kernel
theorem dX11_init_41 : decode cX11_init 41 = .ok (.newarray .int, 2) := by decide +kernel
theorem dX11_init_43 : decode cX11_init 43 = .ok (.putfield 26, 3) := by decide +kernel
theorem dX11_init_46 : decode cX11_init 46 = .ok (.aload_n 0, 1) := by decide +kernel
theorem dX11_init_47 : decode cX11_init 47 = .ok (.bipush 41, 2) := by decide +kernel
theorem dX11_init_49 : decode cX11_init 49 = .ok (.newarray .int, 2) := by decide +kernel
theorem dX11_init_51 : decode cX11_init 51 = .ok (.putfield 29, 3) := by decide +kernel
theorem dX11_init_54 : decode cX11_init 54 = .ok (.aload_n 0, 1) := by decide +kernel
theorem dX11_init_55 : decode cX11_init 55 = .ok (.bipush 40, 2) := by decide +kernel
theorem dX11_init_57 : decode cX11_init 57 = .ok (.newarray .int, 2) := by decide +kernel
theorem dX11_init_59 : decode cX11_init 59 = .ok (.putfield 32, 3) := by decide +kernel
theorem dX11_init_62 : decode cX11_init 62 = .ok (.aload_n 0, 1) := by decide +kernel
theorem dX11_init_63 : decode cX11_init 63 = .ok (.bipush 40, 2) := by decide +kernel
theorem dX11_init_65 : decode cX11_init 65 = .ok (.newarray .int, 2) := by decide +kernel
theorem dX11_init_67 : decode cX11_init 67 = .ok (.putfield 35, 3) := by decide +kernel
theorem dX11_init_70 : decode cX11_init 70 = .ok (.aload_n 0, 1) := by decide +kernel
theorem dX11_init_71 : decode cX11_init 71 = .ok (.sipush 161, 3) := by decide +kernel
theorem dX11_init_74 : decode cX11_init 74 = .ok (.newarray .int, 2) := by decide +kernel
theorem dX11_init_76 : decode cX11_init 76 = .ok (.putfield 38, 3) := by decide +kernel
theorem dX11_init_79 : decode cX11_init 79 = .ok (.aload_n 0, 1) := by decide +kernel
theorem dX11_init_80 : decode cX11_init 80 = .ok (.sipush 1932, 3) := by decide +kernel
theorem dX11_init_83 : decode cX11_init 83 = .ok (.newarray .int, 2) := by decide +kernel
theorem dX11_init_85 : decode cX11_init 85 = .ok (.putfield 41, 3) := by decide +kernel
theorem dX11_init_88 : decode cX11_init 88 = .ok (.aload_n 0, 1) := by decide +kernel
theorem dX11_init_89 : decode cX11_init 89 = .ok (.sipush 161, 3) := by decide +kernel
theorem dX11_init_92 : decode cX11_init 92 = .ok (.newarray .int, 2) := by decide +kernel
theorem dX11_init_94 : decode cX11_init 94 = .ok (.putfield 44, 3) := by decide +kernel
theorem dX11_init_97 : decode cX11_init 97 = .ok (.aload_n 0, 1) := by decide +kernel
theorem dX11_init_98 : decode cX11_init 98 = .ok (.sipush 900, 3) := by decide +kernel
theorem dX11_init_101 : decode cX11_init 101 = .ok (.newarray .byte, 2) := by decide +kernel
theorem dX11_init_103 : decode cX11_init 103 = .ok (.putfield 47, 3) := by decide +kernel
theorem dX11_init_106 : decode cX11_init 106 = .ok (.aload_n 0, 1) := by decide +kernel
theorem dX11_init_107 : decode cX11_init 107 = .ok (.iconst 5, 1) := by decide +kernel
theorem dX11_init_108 : decode cX11_init 108 = .ok (.newarray .int, 2) := by decide +kernel
theorem dX11_init_110 : decode cX11_init 110 = .ok (.putfield 51, 3) := by decide +kernel
theorem dX11_init_113 : decode cX11_init 113 = .ok (.aload_n 0, 1) := by decide +kernel
theorem dX11_init_114 : decode cX11_init 114 = .ok (.iconst (-1), 1) := by decide +kernel
theorem dX11_init_115 : decode cX11_init 115 = .ok (.putfield 54, 3) := by decide +kernel
theorem dX11_init_118 : decode cX11_init 118 = .ok (.aload_n 0, 1) := by decide +kernel
theorem dX11_init_119 : decode cX11_init 119 = .ok (.sipush 700, 3) := by decide +kernel
theorem dX11_init_122 : decode cX11_init 122 = .ok (.newarray .int, 2) := by decide +kernel
theorem dX11_init_124 : decode cX11_init 124 = .ok (.putfield 57, 3) := by decide +kernel
theorem dX11_init_127 : decode cX11_init 127 = .ok (.aload_n 0, 1) := by decide +kernel
theorem dX11_init_128 : decode cX11_init 128 = .ok (.sipush 700, 3) := by decide +kernel
theorem dX11_init_131 : decode cX11_init 131 = .ok (.newarray .int, 2) := by decide +kernel
theorem dX11_init_133 : decode cX11_init 133 = .ok (.putfield 60, 3) := by decide +kernel
theorem dX11_init_136 : decode cX11_init 136 = .ok (.aload_n 0, 1) := by decide +kernel
theorem dX11_init_137 : decode cX11_init 137 = .ok (.bipush 40, 2) := by decide +kernel
theorem dX11_init_139 : decode cX11_init 139 = .ok (.newarray .int, 2) := by decide +kernel
theorem dX11_init_141 : decode cX11_init 141 = .ok (.putfield 63, 3) := by decide +kernel
theorem dX11_init_144 : decode cX11_init 144 = .ok (.aload_n 0, 1) := by decide +kernel
theorem dX11_init_145 : decode cX11_init 145 = .ok (.bipush 40, 2) := by decide +kernel
theorem dX11_init_147 : decode cX11_init 147 = .ok (.newarray .int, 2) := by decide +kernel
theorem dX11_init_149 : decode cX11_init 149 = .ok (.putfield 66, 3) := by decide +kernel
theorem dX11_init_152 : decode cX11_init 152 = .ok (.aload_n 0, 1) := by decide +kernel
theorem dX11_init_153 : decode cX11_init 153 = .ok (.bipush 40, 2) := by decide +kernel
theorem dX11_init_155 : decode cX11_init 155 = .ok (.newarray .int, 2) := by decide +kernel
theorem dX11_init_157 : decode cX11_init 157 = .ok (.putfield 69, 3) := by decide +kernel
theorem dX11_init_160 : decode cX11_init 160 = .ok (.aload_n 0, 1) := by decide +kernel
theorem dX11_init_161 : decode cX11_init 161 = .ok (.sipush 900, 3) := by decide +kernel
theorem dX11_init_164 : decode cX11_init 164 = .ok (.newarray .byte, 2) := by decide +kernel
theorem dX11_init_166 : decode cX11_init 166 = .ok (.putfield 72, 3) := by decide +kernel
theorem dX11_init_169 : decode cX11_init 169 = .ok (.aload_n 0, 1) := by decide +kernel
theorem dX11_init_170 : decode cX11_init 170 = .ok (.invokevirtual 75, 3) := by decide +kernel
theorem dX11_init_173 : decode cX11_init 173 = .ok (.aload_n 0, 1) := by decide +kernel
theorem dX11_init_174 : decode cX11_init 174 = .ok (.invokevirtual 78, 3) := by decide +kernel
theorem dX11_init_177 : decode cX11_init 177 = .ok (.return_, 1) := by decide +kernel
theorem ci_X11_init : Cond.instanceMethod yX11_init ∈ TW := TW_of 1366 (by decide +kernel) (by decide +kernel)
theorem cc_X11_init : Cond.code yX11_init cX11_init 1 none ∈ TW := TW_of 1367 (by decide +kernel) (by decide +kernel)
theorem cd_X11_init : yX11_init.cls ≠ "java/lang/invoke/MethodHandle" ∧ yX11_init.cls ≠ "java/lang/invoke/VarHandle" ∧ (parseMethodDescriptor yX11_init.desc).map (fun d => d.parameters.length) = some 0 := by decide +kernel
theorem fl_X11_13 : Cond.fieldLink RX11 13 RX11 (TX11 1).2.1 (TX11 1).2.2.1 ∈ TW := TW_of 1396 (by decide +kernel) (by decide +kernel)
theorem fl_X11_17 : Cond.fieldLink RX11 17 RX11 (TX11 2).2.1 (TX11 2).2.2.1 ∈ TW := TW_of 1397 (by decide +kernel) (by decide +kernel)
theorem fl_X11_20 : Cond.fieldLink RX11 20 RX11 (TX11 4).2.1 (TX11 4).2.2.1 ∈ TW := TW_of 1399 (by decide +kernel) (by decide +kernel)
theorem fl_X11_23 : Cond.fieldLink RX11 23 RX11 (TX11 5).2.1 (TX11 5).2.2.1 ∈ TW := TW_of 1400 (by decide +kernel) (by decide +kernel)
theorem fl_X11_26 : Cond.fieldLink RX11 26 RX11 (TX11 6).2.1 (TX11 6).2.2.1 ∈ TW := TW_of 1401 (by decide +kernel) (by decide +kernel)
theorem fl_X11_29 : Cond.fieldLink RX11 29 RX11 (TX11 7).2.1 (TX11 7).2.2.1 ∈ TW := TW_of 1402 (by decide +kernel) (by decide +kernel)
theorem fl_X11_32 : Cond.fieldLink RX11 32 RX11 (TX11 8).2.1 (TX11 8).2.2.1 ∈ TW := TW_of 1403 (by decide +kernel) (by decide +kernel)
theorem fl_X11_35 : Cond.fieldLink RX11 35 RX11 (TX11 9).2.1 (TX11 9).2.2.1 ∈ TW := TW_of 1404 (by decide +kernel) (by decide +kernel)
theorem fl_X11_38 : Cond.fieldLink RX11 38 RX11 (TX11 10).2.1 (TX11 10).2.2.1 ∈ TW := TW_of 1405 (by decide +kernel) (by decide +kernel)
theorem fl_X11_41 : Cond.fieldLink RX11 41 RX11 (TX11 11).2.1 (TX11 11).2.2.1 ∈ TW := TW_of 1406 (by decide +kernel) (by decide +kernel)
theorem fl_X11_44 : Cond.fieldLink RX11 44 RX11 (TX11 12).2.1 (TX11 12).2.2.1 ∈ TW := TW_of 1407 (by decide +kernel) (by decide +kernel)
theorem fl_X11_47 : Cond.fieldLink RX11 47 RX11 (TX11 14).2.1 (TX11 14).2.2.1 ∈ TW := TW_of 1409 (by decide +kernel) (by decide +kernel)
theorem fl_X11_51 : Cond.fieldLink RX11 51 RX11 (TX11 15).2.1 (TX11 15).2.2.1 ∈ TW := TW_of 1410 (by decide +kernel) (by decide +kernel)
theorem fl_X11_54 : Cond.fieldLink RX11 54 RX11 (TX11 22).2.1 (TX11 22).2.2.1 ∈ TW := TW_of 1417 (by decide +kernel) (by decide +kernel)
theorem fl_X11_57 : Cond.fieldLink RX11 57 RX11 (TX11 24).2.1 (TX11 24).2.2.1 ∈ TW := TW_of 1419 (by decide +kernel) (by decide +kernel)
theorem fl_X11_60 : Cond.fieldLink RX11 60 RX11 (TX11 25).2.1 (TX11 25).2.2.1 ∈ TW := TW_of 1420 (by decide +kernel) (by decide +kernel)
theorem fl_X11_63 : Cond.fieldLink RX11 63 RX11 (TX11 34).2.1 (TX11 34).2.2.1 ∈ TW := TW_of 1429 (by decide +kernel) (by decide +kernel)
theorem fl_X11_66 : Cond.fieldLink RX11 66 RX11 (TX11 35).2.1 (TX11 35).2.2.1 ∈ TW := TW_of 1430 (by decide +kernel) (by decide +kernel)
theorem fl_X11_69 : Cond.fieldLink RX11 69 RX11 (TX11 37).2.1 (TX11 37).2.2.1 ∈ TW := TW_of 1432 (by decide +kernel) (by decide +kernel)
theorem fl_X11_72 : Cond.fieldLink RX11 72 RX11 (TX11 41).2.1 (TX11 41).2.2.1 ∈ TW := TW_of 1436 (by decide +kernel) (by decide +kernel)
theorem ix97 : ix (97 : Int32) = 97 := by decide +kernel
theorem ix118 : ix (118 : Int32) = 118 := by decide +kernel
theorem ix83 : ix (83 : Int32) = 83 := by decide +kernel
theorem ix111 : ix (111 : Int32) = 111 := by decide +kernel
def fr11 : List Value := [.int 0, .null, .null, .int 0, .null, .null, .null, .null, .null, .null, .null, .null, .null, .int 0, .null, .null, .int 0, .int 0, .int 0, .int 0, .int 0, .int 0, .int 0, .int 0, .null, .null, .int 0, .int 0, .int 0, .int 0, .int 0, .int 0, .int 0, .int 0, .null, .null, .int 0, .null, .int 0, .int 0, .int 0, .null, .int 0]
/-- all addresses: the class's objects, the model's -/
def adS (u : SX10) (w : Nat → Nat) : List Nat := [u.1 0, u.2.1 0, u.2.1 1, u.2.2.1.1 0, u.2.2.1.1 1, u.2.2.1.1 2, u.2.2.1.1 3, u.2.2.1.1 4, u.2.2.1.1 5, u.2.2.1.1 6, u.2.2.1.1 7, u.2.2.1.1 8, u.2.2.1.1 9, u.2.2.2.1.1 0, u.2.2.2.1.1 1, u.2.2.2.2.1.1 0, u.2.2.2.2.2.1 0, u.2.2.2.2.2.1 1, u.2.2.1.2.2 0, u.2.2.1.2.2 1, u.2.2.1.2.2 2, u.2.2.1.2.2 3, u.2.2.1.2.2 4, u.2.2.2.1.2 0 0, u.2.2.2.1.2 0 1, u.2.2.2.1.2 0 2, u.2.2.2.1.2 0 3, u.2.2.2.1.2 0 4, u.2.2.2.1.2 1 0, u.2.2.2.1.2 1 1, u.2.2.2.1.2 1 2, u.2.2.2.1.2 1 3, u.2.2.2.1.2 1 4, u.2.2.2.1.2 2 0, u.2.2.2.1.2 2 1, u.2.2.2.1.2 2 2, u.2.2.2.1.2 2 3, u.2.2.2.1.2 2 4, u.2.2.2.1.2 3 0, u.2.2.2.1.2 3 1, u.2.2.2.1.2 3 2, u.2.2.2.1.2 3 3, u.2.2.2.1.2 3 4, u.2.2.2.1.2 4 0, u.2.2.2.1.2 4 1, u.2.2.2.1.2 4 2, u.2.2.2.1.2 4 3, u.2.2.2.1.2 4 4, u.2.2.2.1.2 5 0, u.2.2.2.1.2 5 1, u.2.2.2.1.2 5 2, u.2.2.2.1.2 5 3, u.2.2.2.1.2 5 4, u.2.2.2.1.2 6 0, u.2.2.2.1.2 6 1, u.2.2.2.1.2 6 2, u.2.2.2.1.2 6 3, u.2.2.2.1.2 6 4, u.2.2.2.1.2 7 0, u.2.2.2.1.2 7 1, u.2.2.2.1.2 7 2, u.2.2.2.1.2 7 3, u.2.2.2.1.2 7 4, u.2.2.2.1.2 8 0, u.2.2.2.1.2 8 1, u.2.2.2.1.2 8 2, u.2.2.2.1.2 8 3, u.2.2.2.1.2 8 4, u.2.2.2.1.2 9 0, u.2.2.2.1.2 9 1, u.2.2.2.1.2 9 2, u.2.2.2.1.2 9 3, u.2.2.2.1.2 9 4, u.2.2.2.1.2 10 0, u.2.2.2.1.2 10 1, u.2.2.2.1.2 10 2, u.2.2.2.1.2 10 3, u.2.2.2.1.2 10 4, u.2.2.2.1.2 11 0, u.2.2.2.1.2 11 1, u.2.2.2.1.2 11 2, u.2.2.2.1.2 11 3, u.2.2.2.1.2 11 4, u.2.2.1.2.1 0, u.2.2.1.2.1 1, u.2.2.1.2.1 2, u.2.2.1.2.1 3, u.2.2.1.2.1 4, u.2.2.1.2.1 5, u.2.2.1.2.1 6, u.2.2.1.2.1 7, u.2.2.1.2.1 8, u.2.2.1.2.1 9, u.2.2.1.2.1 10, u.2.2.1.2.1 11, u.2.2.1.2.1 12, u.2.2.1.2.1 13, u.2.2.2.2.2.2.1 0, u.2.2.2.2.2.2.1 1, u.2.2.2.2.2.2.1 2, u.2.2.2.2.2.2.1 3, u.2.2.2.2.2.2.1 4, u.2.2.2.2.2.2.1 5, u.2.2.2.2.2.2.1 6, u.2.2.2.2.2.2.1 7, u.2.2.2.2.2.2.1 8, u.2.2.2.2.2.2.1 9, u.2.2.2.2.2.2.1 10, u.2.2.2.2.2.2.1 11, u.2.2.2.2.2.2.1 12, u.2.2.2.2.2.2.1 13, u.2.2.2.2.1.2 0, u.2.2.2.2.1.2 1, u.2.2.2.2.1.2 2, u.2.2.2.2.1.2 3, u.2.2.2.2.1.2 4, u.2.2.2.2.1.2 5, u.2.2.2.2.1.2 6, u.2.2.2.2.2.2.2 0, u.2.2.2.2.2.2.2 1, u.2.2.2.2.2.2.2 2, u.2.2.2.2.2.2.2 3, u.2.2.2.2.2.2.2 4, u.2.2.2.2.2.2.2 5, u.2.2.2.2.2.2.2 6, w 0, w 1, w 2, w 3, w 4, w 5, w 6, w 7, w 8, w 9, w 10, w 11, w 12, w 13, w 14, w 15, w 16, w 17, w 18, w 19]
def posS : List Nat := [1, 2, 3, 4, 24, 25, 26, 27, 28, 29, 30, 31, 32, 33, 34, 95, 103, 104, 19, 20, 21, 22, 23, 35, 36, 37, 38, 39, 40, 41, 42, 43, 44, 45, 46, 47, 48, 49, 50, 51, 52, 53, 54, 55, 56, 57, 58, 59, 60, 61, 62, 63, 64, 65, 66, 67, 68, 69, 70, 71, 72, 73, 74, 75, 76, 77, 78, 79, 80, 81, 82, 83, 84, 85, 86, 87, 88, 89, 90, 91, 92, 93, 94, 5, 6, 7, 8, 9, 10, 11, 12, 13, 14, 15, 16, 17, 18, 105, 106, 107, 108, 109, 110, 111, 112, 113, 114, 115, 116, 117, 118, 96, 97, 98, 99, 100, 101, 102, 119, 120, 121, 122, 123, 124, 125, 0, 126, 127, 128, 129, 130, 131, 132, 133, 134, 135, 136, 137, 138, 139, 140, 141, 142, 143, 144]
def arS (dA : Nat → ClassId) (w : Nat → Nat) : va_W := [(w 1, .inl (dA 1, 193, .inl (fun _ => 0))), (w 2, .inl (dA 1, 193, .inl (fun _ => 0))), (w 3, .inl (dA 1, 40, .inl (fun _ => 0))), (w 4, .inl (dA 1, 40, .inl (fun _ => 0))), (w 5, .inl (dA 1, 40, .inl (fun _ => 0))), (w 6, .inl (dA 1, 41, .inl (fun _ => 0))), (w 7, .inl (dA 1, 40, .inl (fun _ => 0))), (w 8, .inl (dA 1, 40, .inl (fun _ => 0))), (w 9, .inl (dA 1, 161, .inl (fun _ => 0))), (w 10, .inl (dA 1, 1932, .inl (fun _ => 0))), (w 11, .inl (dA 1, 161, .inl (fun _ => 0))), (w 12, .inl (dA 0, 900, .inl (fun _ => 0))), (w 13, .inl (dA 1, 5, .inl (fun _ => 0))), (w 14, .inl (dA 1, 700, .inl (fun _ => 0))), (w 15, .inl (dA 1, 700, .inl (fun _ => 0))), (w 16, .inl (dA 1, 40, .inl (fun _ => 0))), (w 17, .inl (dA 1, 40, .inl (fun _ => 0))), (w 18, .inl (dA 1, 40, .inl (fun _ => 0))), (w 19, .inl (dA 0, 900, .inl (fun _ => 0)))]
def celS (dA : Nat → ClassId) (w : Nat → Nat) : Nat × va_E := (w 0, .inr (9, [.int 0, .ref (w 1), .ref (w 2), .int 0, .ref (w 3), .ref (w 4), .ref (w 5), .ref (w 6), .ref (w 7), .ref (w 8), .ref (w 9), .ref (w 10), .ref (w 11), .int 0, .ref (w 12), .ref (w 13), .int 0, .int 0, .int 0, .int 0, .int 0, .int 0, .int (-1), .int 0, .ref (w 14), .ref (w 15), .int 0, .int 0, .int 0, .int 0, .int 0, .int 0, .int 0, .int 0, .ref (w 16), .ref (w 17), .int 0, .ref (w 18), .int 0, .int 0, .int 0, .ref (w 19), .int 0]))
def WS0 (dA : Nat → ClassId) (u : SX10) (w : Nat → Nat) : va_W := celS dA w :: (wX10 dA u ++ arS dA w)
def ZS (D : va_G) (dA : Nat → ClassId) (u : SX10) (w : Nat → Nat) (sz0 : Nat) (sa : Nat → Nat) : ZT := ((fun k => (adS u w).getD k 0), D, dA, sz0, sa)
theorem ball_s {Q : Nat → Prop} {n : Nat} (h : ∀ k, k < n → Q k) (h1 : Q n) : ∀ k, k < n + 1 → Q k := fun k hk => by
  by_cases e : k = n
  · subst e; exact h1
  · exact h k (by omega)
def WSx (dA : Nat → ClassId) (u : SX10) (w : Nat → Nat) : va_W := [(w 0, .inr (9, [.int 0, .ref (w 1), .ref (w 2), .int 0, .ref (w 3), .ref (w 4), .ref (w 5), .ref (w 6), .ref (w 7), .ref (w 8), .ref (w 9), .ref (w 10), .ref (w 11), .int 0, .ref (w 12), .ref (w 13), .int 0, .int 0, .int 0, .int 0, .int 0, .int 0, .int (-1), .int 0, .ref (w 14), .ref (w 15), .int 0, .int 0, .int 0, .int 0, .int 0, .int 0, .int 0, .int 0, .ref (w 16), .ref (w 17), .int 0, .ref (w 18), .int 0, .int 0, .int 0, .ref (w 19), .int 0])), (u.1 0, .inr (8, [.ref (u.2.1 0), .ref (u.2.2.1.1 0), .ref (u.2.2.2.1.1 0), .ref (u.2.2.2.2.1.1 0), .ref (u.2.2.2.2.2.1 0), .ref (u.2.2.2.2.2.2.1 0), .ref (u.2.2.2.2.2.2.2 0)])), (u.2.1 0, .inr (7, [.ref (u.2.1 1), .int 0, .int (-1), .int 0, .int 0, .int 0, .int 0])), (u.2.1 1, .inl (dA 0, 900, .inl (fun _ => 0))), (u.2.2.1.1 0, .inr (1, [.ref (u.2.2.1.2.1 0), .ref (u.2.2.1.2.2 0), .int 0, .ref (u.2.2.1.1 1), .ref (u.2.2.1.1 2), .ref (u.2.2.1.1 3), .ref (u.2.2.1.1 4), .ref (u.2.2.1.1 5), .int 0, .ref (u.2.2.1.1 6), .ref (u.2.2.1.1 7), .int 0, .ref (u.2.2.1.1 8), .int 0, .int 0, .ref (u.2.2.1.1 9)])), (u.2.2.1.2.1 0, .inr (4, [.int 1000, .int 12, .int 0, .ref (u.2.2.1.2.1 1), .int 0, .ref (u.2.2.1.2.1 2), .ref (u.2.2.1.2.1 3), .ref (u.2.2.1.2.1 4), .ref (u.2.2.1.2.1 5), .ref (u.2.2.1.2.1 6), .int 0, .ref (u.2.2.1.2.1 7), .ref (u.2.2.1.2.1 8), .int 0, .ref (u.2.2.1.2.1 9), .ref (u.2.2.1.2.1 10), .ref (u.2.2.1.2.1 11), .ref (u.2.2.1.2.1 12), .ref (u.2.2.1.2.1 13)])), (u.2.2.1.2.1 1, .inl (dA 1, 4, .inl (fun _ => 0))), (u.2.2.1.2.1 2, .inl (dA 1, 40, .inl (fun _ => 0))), (u.2.2.1.2.1 3, .inl (dA 1, 40, .inl (fun _ => 0))), (u.2.2.1.2.1 4, .inl (dA 1, 40, .inl (fun _ => 0))), (u.2.2.1.2.1 5, .inl (dA 1, 40, .inl (fun _ => 0))), (u.2.2.1.2.1 6, .inl (dA 1, 40, .inl (fun _ => 0))), (u.2.2.1.2.1 7, .inl (dA 1, 12, .inl (fun _ => 0))), (u.2.2.1.2.1 8, .inl (dA 1, 12, .inl (fun _ => 0))), (u.2.2.1.2.1 9, .inl (dA 1, 41, .inl (fun _ => 0))), (u.2.2.1.2.1 10, .inl (dA 1, 40, .inl (fun _ => 0))), (u.2.2.1.2.1 11, .inl (dA 1, 40, .inl (fun _ => 0))), (u.2.2.1.2.1 12, .inl (dA 1, 40, .inl (fun _ => 0))), (u.2.2.1.2.1 13, .inl (dA 2, 40, .inl (fun _ => 0))), (u.2.2.1.2.2 0, .inr (0, [.ref (u.2.2.1.2.2 1), .int 0, .ref (u.2.2.1.2.2 2), .ref (u.2.2.1.2.2 3), .ref (u.2.2.1.2.2 4)])), (u.2.2.1.2.2 1, .inl (dA 2, 40, .inl (fun _ => 0))), (u.2.2.1.2.2 2, .inl (dA 1, 40, .inl (fun _ => 0))), (u.2.2.1.2.2 3, .inl (dA 1, 40, .inl (fun _ => 0))), (u.2.2.1.2.2 4, .inl (dA 1, 40, .inl (fun _ => 0))), (u.2.2.1.1 1, .inl (dA 1, 40, .inl (fun _ => 0))), (u.2.2.1.1 2, .inl (dA 1, 40, .inl (fun _ => 0))), (u.2.2.1.1 3, .inl (dA 1, 40, .inl (fun _ => 0))), (u.2.2.1.1 4, .inl (dA 1, 41, .inl (fun _ => 0))), (u.2.2.1.1 5, .inl (dA 1, 40, .inl (fun _ => 0))), (u.2.2.1.1 6, .inl (dA 1, 40, .inl (fun _ => 0))), (u.2.2.1.1 7, .inl (dA 1, 40, .inl (fun _ => 0))), (u.2.2.1.1 8, .inl (dA 1, 41, .inl (fun _ => 0))), (u.2.2.1.1 9, .inl (dA 1, 40, .inl (fun _ => 0))), (u.2.2.2.1.1 0, .inr (3, [.ref (u.2.2.2.1.1 1), .int 0, .int 0])), (u.2.2.2.1.1 1, .inl (dA 3, 12, .inr (.inr (.inr (.inr (fun j => some ((adS u w).getD (23 + 5 * j) 0))))))), (u.2.2.2.1.2 0 0, .inr (0, [.ref (u.2.2.2.1.2 0 1), .int 0, .ref (u.2.2.2.1.2 0 2), .ref (u.2.2.2.1.2 0 3), .ref (u.2.2.2.1.2 0 4)])), (u.2.2.2.1.2 0 1, .inl (dA 2, 40, .inl (fun _ => 0))), (u.2.2.2.1.2 0 2, .inl (dA 1, 40, .inl (fun _ => 0))), (u.2.2.2.1.2 0 3, .inl (dA 1, 40, .inl (fun _ => 0))), (u.2.2.2.1.2 0 4, .inl (dA 1, 40, .inl (fun _ => 0))), (u.2.2.2.1.2 1 0, .inr (0, [.ref (u.2.2.2.1.2 1 1), .int 0, .ref (u.2.2.2.1.2 1 2), .ref (u.2.2.2.1.2 1 3), .ref (u.2.2.2.1.2 1 4)])), (u.2.2.2.1.2 1 1, .inl (dA 2, 40, .inl (fun _ => 0))), (u.2.2.2.1.2 1 2, .inl (dA 1, 40, .inl (fun _ => 0))), (u.2.2.2.1.2 1 3, .inl (dA 1, 40, .inl (fun _ => 0))), (u.2.2.2.1.2 1 4, .inl (dA 1, 40, .inl (fun _ => 0))), (u.2.2.2.1.2 2 0, .inr (0, [.ref (u.2.2.2.1.2 2 1), .int 0, .ref (u.2.2.2.1.2 2 2), .ref (u.2.2.2.1.2 2 3), .ref (u.2.2.2.1.2 2 4)])), (u.2.2.2.1.2 2 1, .inl (dA 2, 40, .inl (fun _ => 0))), (u.2.2.2.1.2 2 2, .inl (dA 1, 40, .inl (fun _ => 0))), (u.2.2.2.1.2 2 3, .inl (dA 1, 40, .inl (fun _ => 0))), (u.2.2.2.1.2 2 4, .inl (dA 1, 40, .inl (fun _ => 0))), (u.2.2.2.1.2 3 0, .inr (0, [.ref (u.2.2.2.1.2 3 1), .int 0, .ref (u.2.2.2.1.2 3 2), .ref (u.2.2.2.1.2 3 3), .ref (u.2.2.2.1.2 3 4)])), (u.2.2.2.1.2 3 1, .inl (dA 2, 40, .inl (fun _ => 0))), (u.2.2.2.1.2 3 2, .inl (dA 1, 40, .inl (fun _ => 0))), (u.2.2.2.1.2 3 3, .inl (dA 1, 40, .inl (fun _ => 0))), (u.2.2.2.1.2 3 4, .inl (dA 1, 40, .inl (fun _ => 0))), (u.2.2.2.1.2 4 0, .inr (0, [.ref (u.2.2.2.1.2 4 1), .int 0, .ref (u.2.2.2.1.2 4 2), .ref (u.2.2.2.1.2 4 3), .ref (u.2.2.2.1.2 4 4)])), (u.2.2.2.1.2 4 1, .inl (dA 2, 40, .inl (fun _ => 0))), (u.2.2.2.1.2 4 2, .inl (dA 1, 40, .inl (fun _ => 0))), (u.2.2.2.1.2 4 3, .inl (dA 1, 40, .inl (fun _ => 0))), (u.2.2.2.1.2 4 4, .inl (dA 1, 40, .inl (fun _ => 0))), (u.2.2.2.1.2 5 0, .inr (0, [.ref (u.2.2.2.1.2 5 1), .int 0, .ref (u.2.2.2.1.2 5 2), .ref (u.2.2.2.1.2 5 3), .ref (u.2.2.2.1.2 5 4)])), (u.2.2.2.1.2 5 1, .inl (dA 2, 40, .inl (fun _ => 0))), (u.2.2.2.1.2 5 2, .inl (dA 1, 40, .inl (fun _ => 0))), (u.2.2.2.1.2 5 3, .inl (dA 1, 40, .inl (fun _ => 0))), (u.2.2.2.1.2 5 4, .inl (dA 1, 40, .inl (fun _ => 0))), (u.2.2.2.1.2 6 0, .inr (0, [.ref (u.2.2.2.1.2 6 1), .int 0, .ref (u.2.2.2.1.2 6 2), .ref (u.2.2.2.1.2 6 3), .ref (u.2.2.2.1.2 6 4)])), (u.2.2.2.1.2 6 1, .inl (dA 2, 40, .inl (fun _ => 0))), (u.2.2.2.1.2 6 2, .inl (dA 1, 40, .inl (fun _ => 0))), (u.2.2.2.1.2 6 3, .inl (dA 1, 40, .inl (fun _ => 0))), (u.2.2.2.1.2 6 4, .inl (dA 1, 40, .inl (fun _ => 0))), (u.2.2.2.1.2 7 0, .inr (0, [.ref (u.2.2.2.1.2 7 1), .int 0, .ref (u.2.2.2.1.2 7 2), .ref (u.2.2.2.1.2 7 3), .ref (u.2.2.2.1.2 7 4)])), (u.2.2.2.1.2 7 1, .inl (dA 2, 40, .inl (fun _ => 0))), (u.2.2.2.1.2 7 2, .inl (dA 1, 40, .inl (fun _ => 0))), (u.2.2.2.1.2 7 3, .inl (dA 1, 40, .inl (fun _ => 0))), (u.2.2.2.1.2 7 4, .inl (dA 1, 40, .inl (fun _ => 0))), (u.2.2.2.1.2 8 0, .inr (0, [.ref (u.2.2.2.1.2 8 1), .int 0, .ref (u.2.2.2.1.2 8 2), .ref (u.2.2.2.1.2 8 3), .ref (u.2.2.2.1.2 8 4)])), (u.2.2.2.1.2 8 1, .inl (dA 2, 40, .inl (fun _ => 0))), (u.2.2.2.1.2 8 2, .inl (dA 1, 40, .inl (fun _ => 0))), (u.2.2.2.1.2 8 3, .inl (dA 1, 40, .inl (fun _ => 0))), (u.2.2.2.1.2 8 4, .inl (dA 1, 40, .inl (fun _ => 0))), (u.2.2.2.1.2 9 0, .inr (0, [.ref (u.2.2.2.1.2 9 1), .int 0, .ref (u.2.2.2.1.2 9 2), .ref (u.2.2.2.1.2 9 3), .ref (u.2.2.2.1.2 9 4)])), (u.2.2.2.1.2 9 1, .inl (dA 2, 40, .inl (fun _ => 0))), (u.2.2.2.1.2 9 2, .inl (dA 1, 40, .inl (fun _ => 0))), (u.2.2.2.1.2 9 3, .inl (dA 1, 40, .inl (fun _ => 0))), (u.2.2.2.1.2 9 4, .inl (dA 1, 40, .inl (fun _ => 0))), (u.2.2.2.1.2 10 0, .inr (0, [.ref (u.2.2.2.1.2 10 1), .int 0, .ref (u.2.2.2.1.2 10 2), .ref (u.2.2.2.1.2 10 3), .ref (u.2.2.2.1.2 10 4)])), (u.2.2.2.1.2 10 1, .inl (dA 2, 40, .inl (fun _ => 0))), (u.2.2.2.1.2 10 2, .inl (dA 1, 40, .inl (fun _ => 0))), (u.2.2.2.1.2 10 3, .inl (dA 1, 40, .inl (fun _ => 0))), (u.2.2.2.1.2 10 4, .inl (dA 1, 40, .inl (fun _ => 0))), (u.2.2.2.1.2 11 0, .inr (0, [.ref (u.2.2.2.1.2 11 1), .int 0, .ref (u.2.2.2.1.2 11 2), .ref (u.2.2.2.1.2 11 3), .ref (u.2.2.2.1.2 11 4)])), (u.2.2.2.1.2 11 1, .inl (dA 2, 40, .inl (fun _ => 0))), (u.2.2.2.1.2 11 2, .inl (dA 1, 40, .inl (fun _ => 0))), (u.2.2.2.1.2 11 3, .inl (dA 1, 40, .inl (fun _ => 0))), (u.2.2.2.1.2 11 4, .inl (dA 1, 40, .inl (fun _ => 0))), (u.2.2.2.2.1.1 0, .inr (5, [.ref (u.2.2.2.2.1.2 0), .int 0, .int 0, .int 0])), (u.2.2.2.2.1.2 0, .inr (6, [.int 0, .ref (u.2.2.2.2.1.2 1), .ref (u.2.2.2.2.1.2 2), .ref (u.2.2.2.2.1.2 3), .ref (u.2.2.2.2.1.2 4), .ref (u.2.2.2.2.1.2 5), .ref (u.2.2.2.2.1.2 6)])), (u.2.2.2.2.1.2 1, .inl (dA 1, 30, .inl (fun _ => 0))), (u.2.2.2.2.1.2 2, .inl (dA 1, 30, .inl (fun _ => 0))), (u.2.2.2.2.1.2 3, .inl (dA 1, 30, .inl (fun _ => 0))), (u.2.2.2.2.1.2 4, .inl (dA 1, 30, .inl (fun _ => 0))), (u.2.2.2.2.1.2 5, .inl (dA 1, 60, .inl (fun _ => 0))), (u.2.2.2.2.1.2 6, .inl (dA 1, 360, .inl (fun _ => 0))), (u.2.2.2.2.2.1 0, .inr (2, [.ref (u.2.2.2.2.2.1 1), .int 0])), (u.2.2.2.2.2.1 1, .inl (dA 0, 1000, .inl (fun _ => 0))), (u.2.2.2.2.2.2.1 0, .inr (4, [.int 1000, .int 12, .int 0, .ref (u.2.2.2.2.2.2.1 1), .int 0, .ref (u.2.2.2.2.2.2.1 2), .ref (u.2.2.2.2.2.2.1 3), .ref (u.2.2.2.2.2.2.1 4), .ref (u.2.2.2.2.2.2.1 5), .ref (u.2.2.2.2.2.2.1 6), .int 0, .ref (u.2.2.2.2.2.2.1 7), .ref (u.2.2.2.2.2.2.1 8), .int 0, .ref (u.2.2.2.2.2.2.1 9), .ref (u.2.2.2.2.2.2.1 10), .ref (u.2.2.2.2.2.2.1 11), .ref (u.2.2.2.2.2.2.1 12), .ref (u.2.2.2.2.2.2.1 13)])), (u.2.2.2.2.2.2.1 1, .inl (dA 1, 4, .inl (fun _ => 0))), (u.2.2.2.2.2.2.1 2, .inl (dA 1, 40, .inl (fun _ => 0))), (u.2.2.2.2.2.2.1 3, .inl (dA 1, 40, .inl (fun _ => 0))), (u.2.2.2.2.2.2.1 4, .inl (dA 1, 40, .inl (fun _ => 0))), (u.2.2.2.2.2.2.1 5, .inl (dA 1, 40, .inl (fun _ => 0))), (u.2.2.2.2.2.2.1 6, .inl (dA 1, 40, .inl (fun _ => 0))), (u.2.2.2.2.2.2.1 7, .inl (dA 1, 12, .inl (fun _ => 0))), (u.2.2.2.2.2.2.1 8, .inl (dA 1, 12, .inl (fun _ => 0))), (u.2.2.2.2.2.2.1 9, .inl (dA 1, 41, .inl (fun _ => 0))), (u.2.2.2.2.2.2.1 10, .inl (dA 1, 40, .inl (fun _ => 0))), (u.2.2.2.2.2.2.1 11, .inl (dA 1, 40, .inl (fun _ => 0))), (u.2.2.2.2.2.2.1 12, .inl (dA 1, 40, .inl (fun _ => 0))), (u.2.2.2.2.2.2.1 13, .inl (dA 2, 40, .inl (fun _ => 0))), (u.2.2.2.2.2.2.2 0, .inr (6, [.int 0, .ref (u.2.2.2.2.2.2.2 1), .ref (u.2.2.2.2.2.2.2 2), .ref (u.2.2.2.2.2.2.2 3), .ref (u.2.2.2.2.2.2.2 4), .ref (u.2.2.2.2.2.2.2 5), .ref (u.2.2.2.2.2.2.2 6)])), (u.2.2.2.2.2.2.2 1, .inl (dA 1, 30, .inl (fun _ => 0))), (u.2.2.2.2.2.2.2 2, .inl (dA 1, 30, .inl (fun _ => 0))), (u.2.2.2.2.2.2.2 3, .inl (dA 1, 30, .inl (fun _ => 0))), (u.2.2.2.2.2.2.2 4, .inl (dA 1, 30, .inl (fun _ => 0))), (u.2.2.2.2.2.2.2 5, .inl (dA 1, 60, .inl (fun _ => 0))), (u.2.2.2.2.2.2.2 6, .inl (dA 1, 360, .inl (fun _ => 0))), (w 1, .inl (dA 1, 193, .inl (fun _ => 0))), (w 2, .inl (dA 1, 193, .inl (fun _ => 0))), (w 3, .inl (dA 1, 40, .inl (fun _ => 0))), (w 4, .inl (dA 1, 40, .inl (fun _ => 0))), (w 5, .inl (dA 1, 40, .inl (fun _ => 0))), (w 6, .inl (dA 1, 41, .inl (fun _ => 0))), (w 7, .inl (dA 1, 40, .inl (fun _ => 0))), (w 8, .inl (dA 1, 40, .inl (fun _ => 0))), (w 9, .inl (dA 1, 161, .inl (fun _ => 0))), (w 10, .inl (dA 1, 1932, .inl (fun _ => 0))), (w 11, .inl (dA 1, 161, .inl (fun _ => 0))), (w 12, .inl (dA 0, 900, .inl (fun _ => 0))), (w 13, .inl (dA 1, 5, .inl (fun _ => 0))), (w 14, .inl (dA 1, 700, .inl (fun _ => 0))), (w 15, .inl (dA 1, 700, .inl (fun _ => 0))), (w 16, .inl (dA 1, 40, .inl (fun _ => 0))), (w 17, .inl (dA 1, 40, .inl (fun _ => 0))), (w 18, .inl (dA 1, 40, .inl (fun _ => 0))), (w 19, .inl (dA 0, 900, .inl (fun _ => 0)))]
def WS0x (dA : Nat → ClassId) (u : SX10) (w : Nat → Nat) : va_W := [(w 0, .inr (9, [.int 0, .ref (w 1), .ref (w 2), .int 0, .ref (w 3), .ref (w 4), .ref (w 5), .ref (w 6), .ref (w 7), .ref (w 8), .ref (w 9), .ref (w 10), .ref (w 11), .int 0, .ref (w 12), .ref (w 13), .int 0, .int 0, .int 0, .int 0, .int 0, .int 0, .int (-1), .int 0, .ref (w 14), .ref (w 15), .int 0, .int 0, .int 0, .int 0, .int 0, .int 0, .int 0, .int 0, .ref (w 16), .ref (w 17), .int 0, .ref (w 18), .int 0, .int 0, .int 0, .ref (w 19), .int 0])), (u.1 0, .inr (8, [.ref (u.2.1 0), .ref (u.2.2.1.1 0), .ref (u.2.2.2.1.1 0), .ref (u.2.2.2.2.1.1 0), .ref (u.2.2.2.2.2.1 0), .ref (u.2.2.2.2.2.2.1 0), .ref (u.2.2.2.2.2.2.2 0)])), (u.2.1 0, .inr (7, [.ref (u.2.1 1), .int 0, .int (-1), .int 0, .int 0, .int 0, .int 0])), (u.2.1 1, .inl (dA 0, 900, .inl (fun _ => 0))), (u.2.2.1.1 0, .inr (1, [.ref (u.2.2.1.2.1 0), .ref (u.2.2.1.2.2 0), .int 0, .ref (u.2.2.1.1 1), .ref (u.2.2.1.1 2), .ref (u.2.2.1.1 3), .ref (u.2.2.1.1 4), .ref (u.2.2.1.1 5), .int 0, .ref (u.2.2.1.1 6), .ref (u.2.2.1.1 7), .int 0, .ref (u.2.2.1.1 8), .int 0, .int 0, .ref (u.2.2.1.1 9)])), (u.2.2.1.2.1 0, .inr (4, [.int 1000, .int 12, .int 0, .ref (u.2.2.1.2.1 1), .int 0, .ref (u.2.2.1.2.1 2), .ref (u.2.2.1.2.1 3), .ref (u.2.2.1.2.1 4), .ref (u.2.2.1.2.1 5), .ref (u.2.2.1.2.1 6), .int 0, .ref (u.2.2.1.2.1 7), .ref (u.2.2.1.2.1 8), .int 0, .ref (u.2.2.1.2.1 9), .ref (u.2.2.1.2.1 10), .ref (u.2.2.1.2.1 11), .ref (u.2.2.1.2.1 12), .ref (u.2.2.1.2.1 13)])), (u.2.2.1.2.1 1, .inl (dA 1, 4, .inl (fun _ => 0))), (u.2.2.1.2.1 2, .inl (dA 1, 40, .inl (fun _ => 0))), (u.2.2.1.2.1 3, .inl (dA 1, 40, .inl (fun _ => 0))), (u.2.2.1.2.1 4, .inl (dA 1, 40, .inl (fun _ => 0))), (u.2.2.1.2.1 5, .inl (dA 1, 40, .inl (fun _ => 0))), (u.2.2.1.2.1 6, .inl (dA 1, 40, .inl (fun _ => 0))), (u.2.2.1.2.1 7, .inl (dA 1, 12, .inl (fun _ => 0))), (u.2.2.1.2.1 8, .inl (dA 1, 12, .inl (fun _ => 0))), (u.2.2.1.2.1 9, .inl (dA 1, 41, .inl (fun _ => 0))), (u.2.2.1.2.1 10, .inl (dA 1, 40, .inl (fun _ => 0))), (u.2.2.1.2.1 11, .inl (dA 1, 40, .inl (fun _ => 0))), (u.2.2.1.2.1 12, .inl (dA 1, 40, .inl (fun _ => 0))), (u.2.2.1.2.1 13, .inl (dA 2, 40, .inl (fun _ => 0))), (u.2.2.1.2.2 0, .inr (0, [.ref (u.2.2.1.2.2 1), .int 0, .ref (u.2.2.1.2.2 2), .ref (u.2.2.1.2.2 3), .ref (u.2.2.1.2.2 4)])), (u.2.2.1.2.2 1, .inl (dA 2, 40, .inl (fun _ => 0))), (u.2.2.1.2.2 2, .inl (dA 1, 40, .inl (fun _ => 0))), (u.2.2.1.2.2 3, .inl (dA 1, 40, .inl (fun _ => 0))), (u.2.2.1.2.2 4, .inl (dA 1, 40, .inl (fun _ => 0))), (u.2.2.1.1 1, .inl (dA 1, 40, .inl (fun _ => 0))), (u.2.2.1.1 2, .inl (dA 1, 40, .inl (fun _ => 0))), (u.2.2.1.1 3, .inl (dA 1, 40, .inl (fun _ => 0))), (u.2.2.1.1 4, .inl (dA 1, 41, .inl (fun _ => 0))), (u.2.2.1.1 5, .inl (dA 1, 40, .inl (fun _ => 0))), (u.2.2.1.1 6, .inl (dA 1, 40, .inl (fun _ => 0))), (u.2.2.1.1 7, .inl (dA 1, 40, .inl (fun _ => 0))), (u.2.2.1.1 8, .inl (dA 1, 41, .inl (fun _ => 0))), (u.2.2.1.1 9, .inl (dA 1, 40, .inl (fun _ => 0))), (u.2.2.2.1.1 0, .inr (3, [.ref (u.2.2.2.1.1 1), .int 0, .int 0])), (u.2.2.2.1.1 1, .inl (dA 3, 12, .inr (.inr (.inr (.inr (fun j => some (zX0 (u.2.2.2.1.2 j)))))))), (u.2.2.2.1.2 0 0, .inr (0, [.ref (u.2.2.2.1.2 0 1), .int 0, .ref (u.2.2.2.1.2 0 2), .ref (u.2.2.2.1.2 0 3), .ref (u.2.2.2.1.2 0 4)])), (u.2.2.2.1.2 0 1, .inl (dA 2, 40, .inl (fun _ => 0))), (u.2.2.2.1.2 0 2, .inl (dA 1, 40, .inl (fun _ => 0))), (u.2.2.2.1.2 0 3, .inl (dA 1, 40, .inl (fun _ => 0))), (u.2.2.2.1.2 0 4, .inl (dA 1, 40, .inl (fun _ => 0))), (u.2.2.2.1.2 1 0, .inr (0, [.ref (u.2.2.2.1.2 1 1), .int 0, .ref (u.2.2.2.1.2 1 2), .ref (u.2.2.2.1.2 1 3), .ref (u.2.2.2.1.2 1 4)])), (u.2.2.2.1.2 1 1, .inl (dA 2, 40, .inl (fun _ => 0))), (u.2.2.2.1.2 1 2, .inl (dA 1, 40, .inl (fun _ => 0))), (u.2.2.2.1.2 1 3, .inl (dA 1, 40, .inl (fun _ => 0))), (u.2.2.2.1.2 1 4, .inl (dA 1, 40, .inl (fun _ => 0))), (u.2.2.2.1.2 2 0, .inr (0, [.ref (u.2.2.2.1.2 2 1), .int 0, .ref (u.2.2.2.1.2 2 2), .ref (u.2.2.2.1.2 2 3), .ref (u.2.2.2.1.2 2 4)])), (u.2.2.2.1.2 2 1, .inl (dA 2, 40, .inl (fun _ => 0))), (u.2.2.2.1.2 2 2, .inl (dA 1, 40, .inl (fun _ => 0))), (u.2.2.2.1.2 2 3, .inl (dA 1, 40, .inl (fun _ => 0))), (u.2.2.2.1.2 2 4, .inl (dA 1, 40, .inl (fun _ => 0))), (u.2.2.2.1.2 3 0, .inr (0, [.ref (u.2.2.2.1.2 3 1), .int 0, .ref (u.2.2.2.1.2 3 2), .ref (u.2.2.2.1.2 3 3), .ref (u.2.2.2.1.2 3 4)])), (u.2.2.2.1.2 3 1, .inl (dA 2, 40, .inl (fun _ => 0))), (u.2.2.2.1.2 3 2, .inl (dA 1, 40, .inl (fun _ => 0))), (u.2.2.2.1.2 3 3, .inl (dA 1, 40, .inl (fun _ => 0))), (u.2.2.2.1.2 3 4, .inl (dA 1, 40, .inl (fun _ => 0))), (u.2.2.2.1.2 4 0, .inr (0, [.ref (u.2.2.2.1.2 4 1), .int 0, .ref (u.2.2.2.1.2 4 2), .ref (u.2.2.2.1.2 4 3), .ref (u.2.2.2.1.2 4 4)])), (u.2.2.2.1.2 4 1, .inl (dA 2, 40, .inl (fun _ => 0))), (u.2.2.2.1.2 4 2, .inl (dA 1, 40, .inl (fun _ => 0))), (u.2.2.2.1.2 4 3, .inl (dA 1, 40, .inl (fun _ => 0))), (u.2.2.2.1.2 4 4, .inl (dA 1, 40, .inl (fun _ => 0))), (u.2.2.2.1.2 5 0, .inr (0, [.ref (u.2.2.2.1.2 5 1), .int 0, .ref (u.2.2.2.1.2 5 2), .ref (u.2.2.2.1.2 5 3), .ref (u.2.2.2.1.2 5 4)])), (u.2.2.2.1.2 5 1, .inl (dA 2, 40, .inl (fun _ => 0))), (u.2.2.2.1.2 5 2, .inl (dA 1, 40, .inl (fun _ => 0))), (u.2.2.2.1.2 5 3, .inl (dA 1, 40, .inl (fun _ => 0))), (u.2.2.2.1.2 5 4, .inl (dA 1, 40, .inl (fun _ => 0))), (u.2.2.2.1.2 6 0, .inr (0, [.ref (u.2.2.2.1.2 6 1), .int 0, .ref (u.2.2.2.1.2 6 2), .ref (u.2.2.2.1.2 6 3), .ref (u.2.2.2.1.2 6 4)])), (u.2.2.2.1.2 6 1, .inl (dA 2, 40, .inl (fun _ => 0))), (u.2.2.2.1.2 6 2, .inl (dA 1, 40, .inl (fun _ => 0))), (u.2.2.2.1.2 6 3, .inl (dA 1, 40, .inl (fun _ => 0))), (u.2.2.2.1.2 6 4, .inl (dA 1, 40, .inl (fun _ => 0))), (u.2.2.2.1.2 7 0, .inr (0, [.ref (u.2.2.2.1.2 7 1), .int 0, .ref (u.2.2.2.1.2 7 2), .ref (u.2.2.2.1.2 7 3), .ref (u.2.2.2.1.2 7 4)])), (u.2.2.2.1.2 7 1, .inl (dA 2, 40, .inl (fun _ => 0))), (u.2.2.2.1.2 7 2, .inl (dA 1, 40, .inl (fun _ => 0))), (u.2.2.2.1.2 7 3, .inl (dA 1, 40, .inl (fun _ => 0))), (u.2.2.2.1.2 7 4, .inl (dA 1, 40, .inl (fun _ => 0))), (u.2.2.2.1.2 8 0, .inr (0, [.ref (u.2.2.2.1.2 8 1), .int 0, .ref (u.2.2.2.1.2 8 2), .ref (u.2.2.2.1.2 8 3), .ref (u.2.2.2.1.2 8 4)])), (u.2.2.2.1.2 8 1, .inl (dA 2, 40, .inl (fun _ => 0))), (u.2.2.2.1.2 8 2, .inl (dA 1, 40, .inl (fun _ => 0))), (u.2.2.2.1.2 8 3, .inl (dA 1, 40, .inl (fun _ => 0))), (u.2.2.2.1.2 8 4, .inl (dA 1, 40, .inl (fun _ => 0))), (u.2.2.2.1.2 9 0, .inr (0, [.ref (u.2.2.2.1.2 9 1), .int 0, .ref (u.2.2.2.1.2 9 2), .ref (u.2.2.2.1.2 9 3), .ref (u.2.2.2.1.2 9 4)])), (u.2.2.2.1.2 9 1, .inl (dA 2, 40, .inl (fun _ => 0))), (u.2.2.2.1.2 9 2, .inl (dA 1, 40, .inl (fun _ => 0))), (u.2.2.2.1.2 9 3, .inl (dA 1, 40, .inl (fun _ => 0))), (u.2.2.2.1.2 9 4, .inl (dA 1, 40, .inl (fun _ => 0))), (u.2.2.2.1.2 10 0, .inr (0, [.ref (u.2.2.2.1.2 10 1), .int 0, .ref (u.2.2.2.1.2 10 2), .ref (u.2.2.2.1.2 10 3), .ref (u.2.2.2.1.2 10 4)])), (u.2.2.2.1.2 10 1, .inl (dA 2, 40, .inl (fun _ => 0))), (u.2.2.2.1.2 10 2, .inl (dA 1, 40, .inl (fun _ => 0))), (u.2.2.2.1.2 10 3, .inl (dA 1, 40, .inl (fun _ => 0))), (u.2.2.2.1.2 10 4, .inl (dA 1, 40, .inl (fun _ => 0))), (u.2.2.2.1.2 11 0, .inr (0, [.ref (u.2.2.2.1.2 11 1), .int 0, .ref (u.2.2.2.1.2 11 2), .ref (u.2.2.2.1.2 11 3), .ref (u.2.2.2.1.2 11 4)])), (u.2.2.2.1.2 11 1, .inl (dA 2, 40, .inl (fun _ => 0))), (u.2.2.2.1.2 11 2, .inl (dA 1, 40, .inl (fun _ => 0))), (u.2.2.2.1.2 11 3, .inl (dA 1, 40, .inl (fun _ => 0))), (u.2.2.2.1.2 11 4, .inl (dA 1, 40, .inl (fun _ => 0))), (u.2.2.2.2.1.1 0, .inr (5, [.ref (u.2.2.2.2.1.2 0), .int 0, .int 0, .int 0])), (u.2.2.2.2.1.2 0, .inr (6, [.int 0, .ref (u.2.2.2.2.1.2 1), .ref (u.2.2.2.2.1.2 2), .ref (u.2.2.2.2.1.2 3), .ref (u.2.2.2.2.1.2 4), .ref (u.2.2.2.2.1.2 5), .ref (u.2.2.2.2.1.2 6)])), (u.2.2.2.2.1.2 1, .inl (dA 1, 30, .inl (fun _ => 0))), (u.2.2.2.2.1.2 2, .inl (dA 1, 30, .inl (fun _ => 0))), (u.2.2.2.2.1.2 3, .inl (dA 1, 30, .inl (fun _ => 0))), (u.2.2.2.2.1.2 4, .inl (dA 1, 30, .inl (fun _ => 0))), (u.2.2.2.2.1.2 5, .inl (dA 1, 60, .inl (fun _ => 0))), (u.2.2.2.2.1.2 6, .inl (dA 1, 360, .inl (fun _ => 0))), (u.2.2.2.2.2.1 0, .inr (2, [.ref (u.2.2.2.2.2.1 1), .int 0])), (u.2.2.2.2.2.1 1, .inl (dA 0, 1000, .inl (fun _ => 0))), (u.2.2.2.2.2.2.1 0, .inr (4, [.int 1000, .int 12, .int 0, .ref (u.2.2.2.2.2.2.1 1), .int 0, .ref (u.2.2.2.2.2.2.1 2), .ref (u.2.2.2.2.2.2.1 3), .ref (u.2.2.2.2.2.2.1 4), .ref (u.2.2.2.2.2.2.1 5), .ref (u.2.2.2.2.2.2.1 6), .int 0, .ref (u.2.2.2.2.2.2.1 7), .ref (u.2.2.2.2.2.2.1 8), .int 0, .ref (u.2.2.2.2.2.2.1 9), .ref (u.2.2.2.2.2.2.1 10), .ref (u.2.2.2.2.2.2.1 11), .ref (u.2.2.2.2.2.2.1 12), .ref (u.2.2.2.2.2.2.1 13)])), (u.2.2.2.2.2.2.1 1, .inl (dA 1, 4, .inl (fun _ => 0))), (u.2.2.2.2.2.2.1 2, .inl (dA 1, 40, .inl (fun _ => 0))), (u.2.2.2.2.2.2.1 3, .inl (dA 1, 40, .inl (fun _ => 0))), (u.2.2.2.2.2.2.1 4, .inl (dA 1, 40, .inl (fun _ => 0))), (u.2.2.2.2.2.2.1 5, .inl (dA 1, 40, .inl (fun _ => 0))), (u.2.2.2.2.2.2.1 6, .inl (dA 1, 40, .inl (fun _ => 0))), (u.2.2.2.2.2.2.1 7, .inl (dA 1, 12, .inl (fun _ => 0))), (u.2.2.2.2.2.2.1 8, .inl (dA 1, 12, .inl (fun _ => 0))), (u.2.2.2.2.2.2.1 9, .inl (dA 1, 41, .inl (fun _ => 0))), (u.2.2.2.2.2.2.1 10, .inl (dA 1, 40, .inl (fun _ => 0))), (u.2.2.2.2.2.2.1 11, .inl (dA 1, 40, .inl (fun _ => 0))), (u.2.2.2.2.2.2.1 12, .inl (dA 1, 40, .inl (fun _ => 0))), (u.2.2.2.2.2.2.1 13, .inl (dA 2, 40, .inl (fun _ => 0))), (u.2.2.2.2.2.2.2 0, .inr (6, [.int 0, .ref (u.2.2.2.2.2.2.2 1), .ref (u.2.2.2.2.2.2.2 2), .ref (u.2.2.2.2.2.2.2 3), .ref (u.2.2.2.2.2.2.2 4), .ref (u.2.2.2.2.2.2.2 5), .ref (u.2.2.2.2.2.2.2 6)])), (u.2.2.2.2.2.2.2 1, .inl (dA 1, 30, .inl (fun _ => 0))), (u.2.2.2.2.2.2.2 2, .inl (dA 1, 30, .inl (fun _ => 0))), (u.2.2.2.2.2.2.2 3, .inl (dA 1, 30, .inl (fun _ => 0))), (u.2.2.2.2.2.2.2 4, .inl (dA 1, 30, .inl (fun _ => 0))), (u.2.2.2.2.2.2.2 5, .inl (dA 1, 60, .inl (fun _ => 0))), (u.2.2.2.2.2.2.2 6, .inl (dA 1, 360, .inl (fun _ => 0))), (w 1, .inl (dA 1, 193, .inl (fun _ => 0))), (w 2, .inl (dA 1, 193, .inl (fun _ => 0))), (w 3, .inl (dA 1, 40, .inl (fun _ => 0))), (w 4, .inl (dA 1, 40, .inl (fun _ => 0))), (w 5, .inl (dA 1, 40, .inl (fun _ => 0))), (w 6, .inl (dA 1, 41, .inl (fun _ => 0))), (w 7, .inl (dA 1, 40, .inl (fun _ => 0))), (w 8, .inl (dA 1, 40, .inl (fun _ => 0))), (w 9, .inl (dA 1, 161, .inl (fun _ => 0))), (w 10, .inl (dA 1, 1932, .inl (fun _ => 0))), (w 11, .inl (dA 1, 161, .inl (fun _ => 0))), (w 12, .inl (dA 0, 900, .inl (fun _ => 0))), (w 13, .inl (dA 1, 5, .inl (fun _ => 0))), (w 14, .inl (dA 1, 700, .inl (fun _ => 0))), (w 15, .inl (dA 1, 700, .inl (fun _ => 0))), (w 16, .inl (dA 1, 40, .inl (fun _ => 0))), (w 17, .inl (dA 1, 40, .inl (fun _ => 0))), (w 18, .inl (dA 1, 40, .inl (fun _ => 0))), (w 19, .inl (dA 0, 900, .inl (fun _ => 0)))]
set_option maxHeartbeats 4000000 in
theorem WS0_eq (dA : Nat → ClassId) (u : SX10) (w : Nat → Nat) : WS0 dA u w = WS0x dA u w := by
  unfold WS0 celS arS wX10 wX9 wX1 wX3 wX5 wX2 wX4 wX6 wX0
  simp only [List.cons_append, List.nil_append, List.append_assoc]
  rfl
theorem WSx_eq (dA : Nat → ClassId) (u : SX10) (w : Nat → Nat) : (WS0x dA u w).set 34 (u.2.2.2.1.1 1, .inl (dA 3, 12, .inr (.inr (.inr (.inr (fun j => some ((adS u w).getD (23 + 5 * j) 0))))))) = WSx dA u w := rfl
theorem WS0x_34 (dA : Nat → ClassId) (u : SX10) (w : Nat → Nat) : (WS0x dA u w)[34]? = some (u.2.2.2.1.1 1, .inl (dA 3, 12, .inr (.inr (.inr (.inr (fun j => some (zX0 (u.2.2.2.1.2 j)))))))) := rfl
theorem zj_0 (u : SX10) (w : Nat → Nat) : zX0 (u.2.2.2.1.2 0) = (adS u w).getD 23 0 := rfl
theorem zj_1 (u : SX10) (w : Nat → Nat) : zX0 (u.2.2.2.1.2 1) = (adS u w).getD 28 0 := rfl
theorem zj_2 (u : SX10) (w : Nat → Nat) : zX0 (u.2.2.2.1.2 2) = (adS u w).getD 33 0 := rfl
theorem zj_3 (u : SX10) (w : Nat → Nat) : zX0 (u.2.2.2.1.2 3) = (adS u w).getD 38 0 := rfl
theorem zj_4 (u : SX10) (w : Nat → Nat) : zX0 (u.2.2.2.1.2 4) = (adS u w).getD 43 0 := rfl
theorem zj_5 (u : SX10) (w : Nat → Nat) : zX0 (u.2.2.2.1.2 5) = (adS u w).getD 48 0 := rfl
theorem zj_6 (u : SX10) (w : Nat → Nat) : zX0 (u.2.2.2.1.2 6) = (adS u w).getD 53 0 := rfl
theorem zj_7 (u : SX10) (w : Nat → Nat) : zX0 (u.2.2.2.1.2 7) = (adS u w).getD 58 0 := rfl
theorem zj_8 (u : SX10) (w : Nat → Nat) : zX0 (u.2.2.2.1.2 8) = (adS u w).getD 63 0 := rfl
theorem zj_9 (u : SX10) (w : Nat → Nat) : zX0 (u.2.2.2.1.2 9) = (adS u w).getD 68 0 := rfl
theorem zj_10 (u : SX10) (w : Nat → Nat) : zX0 (u.2.2.2.1.2 10) = (adS u w).getD 73 0 := rfl
theorem zj_11 (u : SX10) (w : Nat → Nat) : zX0 (u.2.2.2.1.2 11) = (adS u w).getD 78 0 := rfl
def okS (D : va_G) (dA : Nat → ClassId) (u : SX10) (w : Nat → Nat) (sz0 : Nat) (sa : Nat → Nat) (k : Nat) : Prop := (WSx dA u w)[posS.getD k 0]? = some ((ZS D dA u w sz0 sa).1 k, cel (ZS D dA u w sz0 sa) (mx h0C g0M k) k)
theorem mx_z {k : Nat} (h : (k == 0 || k == 1 || k == 3 || k == 15 || k == 83 || k == 97 || k == 125) = false) : mx h0C g0M k = fun _ => 0 := by
  simp only [Bool.or_eq_false_iff, beq_eq_false_iff_ne] at h
  obtain ⟨⟨⟨⟨⟨⟨h0, h1⟩, h3⟩, h15⟩, h83⟩, h97⟩, h125⟩ := h
  funext j
  unfold mx
  by_cases hk : k < 125
  · rw [if_pos hk]
    exact h0_z h0 h1 h3 h15 h83 h97
  · rw [if_neg hk]
    unfold g0M
    rw [if_neg h125]
section OK
variable {D : va_G} {dA : Nat → ClassId} {u : SX10} {w : Nat → Nat} {sz0 : Nat} {sa : Nat → Nat}
theorem ok_0 : okS D dA u w sz0 sa 0 := by
  unfold okS
  rw [cel_k (show knd 0 = _ from rfl)]
  rfl
theorem ok_1 : okS D dA u w sz0 sa 1 := by
  unfold okS
  rw [cel_k (show knd 1 = _ from rfl)]
  rfl
theorem ok_2 : okS D dA u w sz0 sa 2 := by
  unfold okS
  rw [cel_k (show knd 2 = _ from rfl), mx_z (by decide)]
  rfl
theorem ok_3 : okS D dA u w sz0 sa 3 := by
  unfold okS
  rw [cel_k (show knd 3 = _ from rfl)]
  rfl
theorem ok_4 : okS D dA u w sz0 sa 4 := by
  unfold okS
  rw [cel_k (show knd 4 = _ from rfl), mx_z (by decide)]
  rfl
theorem ok_5 : okS D dA u w sz0 sa 5 := by
  unfold okS
  rw [cel_k (show knd 5 = _ from rfl), mx_z (by decide)]
  rfl
theorem ok_6 : okS D dA u w sz0 sa 6 := by
  unfold okS
  rw [cel_k (show knd 6 = _ from rfl), mx_z (by decide)]
  rfl
theorem ok_7 : okS D dA u w sz0 sa 7 := by
  unfold okS
  rw [cel_k (show knd 7 = _ from rfl), mx_z (by decide)]
  rfl
theorem ok_8 : okS D dA u w sz0 sa 8 := by
  unfold okS
  rw [cel_k (show knd 8 = _ from rfl), mx_z (by decide)]
  rfl
theorem ok_9 : okS D dA u w sz0 sa 9 := by
  unfold okS
  rw [cel_k (show knd 9 = _ from rfl), mx_z (by decide)]
  rfl
theorem ok_10 : okS D dA u w sz0 sa 10 := by
  unfold okS
  rw [cel_k (show knd 10 = _ from rfl), mx_z (by decide)]
  rfl
theorem ok_11 : okS D dA u w sz0 sa 11 := by
  unfold okS
  rw [cel_k (show knd 11 = _ from rfl), mx_z (by decide)]
  rfl
theorem ok_12 : okS D dA u w sz0 sa 12 := by
  unfold okS
  rw [cel_k (show knd 12 = _ from rfl), mx_z (by decide)]
  rfl
theorem ok_13 : okS D dA u w sz0 sa 13 := by
  unfold okS
  rw [cel_k (show knd 13 = _ from rfl), mx_z (by decide)]
  rfl
theorem ok_14 : okS D dA u w sz0 sa 14 := by
  unfold okS
  rw [cel_k (show knd 14 = _ from rfl), mx_z (by decide)]
  rfl
theorem ok_15 : okS D dA u w sz0 sa 15 := by
  unfold okS
  rw [cel_k (show knd 15 = _ from rfl)]
  rfl
theorem ok_16 : okS D dA u w sz0 sa 16 := by
  unfold okS
  rw [cel_k (show knd 16 = _ from rfl), mx_z (by decide)]
  rfl
theorem ok_17 : okS D dA u w sz0 sa 17 := by
  unfold okS
  rw [cel_k (show knd 17 = _ from rfl), mx_z (by decide)]
  rfl
theorem ok_18 : okS D dA u w sz0 sa 18 := by
  unfold okS
  rw [cel_k (show knd 18 = _ from rfl), mx_z (by decide)]
  rfl
theorem ok_19 : okS D dA u w sz0 sa 19 := by
  unfold okS
  rw [cel_k (show knd 19 = _ from rfl), mx_z (by decide)]
  rfl
theorem ok_20 : okS D dA u w sz0 sa 20 := by
  unfold okS
  rw [cel_k (show knd 20 = _ from rfl), mx_z (by decide)]
  rfl
theorem ok_21 : okS D dA u w sz0 sa 21 := by
  unfold okS
  rw [cel_k (show knd 21 = _ from rfl), mx_z (by decide)]
  rfl
theorem ok_22 : okS D dA u w sz0 sa 22 := by
  unfold okS
  rw [cel_k (show knd 22 = _ from rfl), mx_z (by decide)]
  rfl
theorem ok_23 : okS D dA u w sz0 sa 23 := by
  unfold okS
  rw [cel_k (show knd 23 = _ from rfl), mx_z (by decide)]
  rfl
theorem ok_24 : okS D dA u w sz0 sa 24 := by
  unfold okS
  rw [cel_k (show knd 24 = _ from rfl), mx_z (by decide)]
  rfl
theorem ok_25 : okS D dA u w sz0 sa 25 := by
  unfold okS
  rw [cel_k (show knd 25 = _ from rfl), mx_z (by decide)]
  rfl
theorem ok_26 : okS D dA u w sz0 sa 26 := by
  unfold okS
  rw [cel_k (show knd 26 = _ from rfl), mx_z (by decide)]
  rfl
theorem ok_27 : okS D dA u w sz0 sa 27 := by
  unfold okS
  rw [cel_k (show knd 27 = _ from rfl), mx_z (by decide)]
  rfl
theorem ok_28 : okS D dA u w sz0 sa 28 := by
  unfold okS
  rw [cel_k (show knd 28 = _ from rfl), mx_z (by decide)]
  rfl
theorem ok_29 : okS D dA u w sz0 sa 29 := by
  unfold okS
  rw [cel_k (show knd 29 = _ from rfl), mx_z (by decide)]
  rfl
theorem ok_30 : okS D dA u w sz0 sa 30 := by
  unfold okS
  rw [cel_k (show knd 30 = _ from rfl), mx_z (by decide)]
  rfl
theorem ok_31 : okS D dA u w sz0 sa 31 := by
  unfold okS
  rw [cel_k (show knd 31 = _ from rfl), mx_z (by decide)]
  rfl
theorem ok_32 : okS D dA u w sz0 sa 32 := by
  unfold okS
  rw [cel_k (show knd 32 = _ from rfl), mx_z (by decide)]
  rfl
theorem ok_33 : okS D dA u w sz0 sa 33 := by
  unfold okS
  rw [cel_k (show knd 33 = _ from rfl), mx_z (by decide)]
  rfl
theorem ok_34 : okS D dA u w sz0 sa 34 := by
  unfold okS
  rw [cel_k (show knd 34 = _ from rfl), mx_z (by decide)]
  rfl
theorem ok_35 : okS D dA u w sz0 sa 35 := by
  unfold okS
  rw [cel_k (show knd 35 = _ from rfl), mx_z (by decide)]
  rfl
theorem ok_36 : okS D dA u w sz0 sa 36 := by
  unfold okS
  rw [cel_k (show knd 36 = _ from rfl), mx_z (by decide)]
  rfl
theorem ok_37 : okS D dA u w sz0 sa 37 := by
  unfold okS
  rw [cel_k (show knd 37 = _ from rfl), mx_z (by decide)]
  rfl
theorem ok_38 : okS D dA u w sz0 sa 38 := by
  unfold okS
  rw [cel_k (show knd 38 = _ from rfl), mx_z (by decide)]
  rfl
theorem ok_39 : okS D dA u w sz0 sa 39 := by
  unfold okS
  rw [cel_k (show knd 39 = _ from rfl), mx_z (by decide)]
  rfl
theorem ok_40 : okS D dA u w sz0 sa 40 := by
  unfold okS
  rw [cel_k (show knd 40 = _ from rfl), mx_z (by decide)]
  rfl
theorem ok_41 : okS D dA u w sz0 sa 41 := by
  unfold okS
  rw [cel_k (show knd 41 = _ from rfl), mx_z (by decide)]
  rfl
theorem ok_42 : okS D dA u w sz0 sa 42 := by
  unfold okS
  rw [cel_k (show knd 42 = _ from rfl), mx_z (by decide)]
  rfl
theorem ok_43 : okS D dA u w sz0 sa 43 := by
  unfold okS
  rw [cel_k (show knd 43 = _ from rfl), mx_z (by decide)]
  rfl
theorem ok_44 : okS D dA u w sz0 sa 44 := by
  unfold okS
  rw [cel_k (show knd 44 = _ from rfl), mx_z (by decide)]
  rfl
theorem ok_45 : okS D dA u w sz0 sa 45 := by
  unfold okS
  rw [cel_k (show knd 45 = _ from rfl), mx_z (by decide)]
  rfl
theorem ok_46 : okS D dA u w sz0 sa 46 := by
  unfold okS
  rw [cel_k (show knd 46 = _ from rfl), mx_z (by decide)]
  rfl
theorem ok_47 : okS D dA u w sz0 sa 47 := by
  unfold okS
  rw [cel_k (show knd 47 = _ from rfl), mx_z (by decide)]
  rfl
theorem ok_48 : okS D dA u w sz0 sa 48 := by
  unfold okS
  rw [cel_k (show knd 48 = _ from rfl), mx_z (by decide)]
  rfl
theorem ok_49 : okS D dA u w sz0 sa 49 := by
  unfold okS
  rw [cel_k (show knd 49 = _ from rfl), mx_z (by decide)]
  rfl
theorem ok_50 : okS D dA u w sz0 sa 50 := by
  unfold okS
  rw [cel_k (show knd 50 = _ from rfl), mx_z (by decide)]
  rfl
theorem ok_51 : okS D dA u w sz0 sa 51 := by
  unfold okS
  rw [cel_k (show knd 51 = _ from rfl), mx_z (by decide)]
  rfl
theorem ok_52 : okS D dA u w sz0 sa 52 := by
  unfold okS
  rw [cel_k (show knd 52 = _ from rfl), mx_z (by decide)]
  rfl
theorem ok_53 : okS D dA u w sz0 sa 53 := by
  unfold okS
  rw [cel_k (show knd 53 = _ from rfl), mx_z (by decide)]
  rfl
theorem ok_54 : okS D dA u w sz0 sa 54 := by
  unfold okS
  rw [cel_k (show knd 54 = _ from rfl), mx_z (by decide)]
  rfl
theorem ok_55 : okS D dA u w sz0 sa 55 := by
  unfold okS
  rw [cel_k (show knd 55 = _ from rfl), mx_z (by decide)]
  rfl
theorem ok_56 : okS D dA u w sz0 sa 56 := by
  unfold okS
  rw [cel_k (show knd 56 = _ from rfl), mx_z (by decide)]
  rfl
theorem ok_57 : okS D dA u w sz0 sa 57 := by
  unfold okS
  rw [cel_k (show knd 57 = _ from rfl), mx_z (by decide)]
  rfl
theorem ok_58 : okS D dA u w sz0 sa 58 := by
  unfold okS
  rw [cel_k (show knd 58 = _ from rfl), mx_z (by decide)]
  rfl
theorem ok_59 : okS D dA u w sz0 sa 59 := by
  unfold okS
  rw [cel_k (show knd 59 = _ from rfl), mx_z (by decide)]
  rfl
theorem ok_60 : okS D dA u w sz0 sa 60 := by
  unfold okS
  rw [cel_k (show knd 60 = _ from rfl), mx_z (by decide)]
  rfl
theorem ok_61 : okS D dA u w sz0 sa 61 := by
  unfold okS
  rw [cel_k (show knd 61 = _ from rfl), mx_z (by decide)]
  rfl
theorem ok_62 : okS D dA u w sz0 sa 62 := by
  unfold okS
  rw [cel_k (show knd 62 = _ from rfl), mx_z (by decide)]
  rfl
theorem ok_63 : okS D dA u w sz0 sa 63 := by
  unfold okS
  rw [cel_k (show knd 63 = _ from rfl), mx_z (by decide)]
  rfl
theorem ok_64 : okS D dA u w sz0 sa 64 := by
  unfold okS
  rw [cel_k (show knd 64 = _ from rfl), mx_z (by decide)]
  rfl
theorem ok_65 : okS D dA u w sz0 sa 65 := by
  unfold okS
  rw [cel_k (show knd 65 = _ from rfl), mx_z (by decide)]
  rfl
theorem ok_66 : okS D dA u w sz0 sa 66 := by
  unfold okS
  rw [cel_k (show knd 66 = _ from rfl), mx_z (by decide)]
  rfl
theorem ok_67 : okS D dA u w sz0 sa 67 := by
  unfold okS
  rw [cel_k (show knd 67 = _ from rfl), mx_z (by decide)]
  rfl
theorem ok_68 : okS D dA u w sz0 sa 68 := by
  unfold okS
  rw [cel_k (show knd 68 = _ from rfl), mx_z (by decide)]
  rfl
theorem ok_69 : okS D dA u w sz0 sa 69 := by
  unfold okS
  rw [cel_k (show knd 69 = _ from rfl), mx_z (by decide)]
  rfl
theorem ok_70 : okS D dA u w sz0 sa 70 := by
  unfold okS
  rw [cel_k (show knd 70 = _ from rfl), mx_z (by decide)]
  rfl
theorem ok_71 : okS D dA u w sz0 sa 71 := by
  unfold okS
  rw [cel_k (show knd 71 = _ from rfl), mx_z (by decide)]
  rfl
theorem ok_72 : okS D dA u w sz0 sa 72 := by
  unfold okS
  rw [cel_k (show knd 72 = _ from rfl), mx_z (by decide)]
  rfl
theorem ok_73 : okS D dA u w sz0 sa 73 := by
  unfold okS
  rw [cel_k (show knd 73 = _ from rfl), mx_z (by decide)]
  rfl
theorem ok_74 : okS D dA u w sz0 sa 74 := by
  unfold okS
  rw [cel_k (show knd 74 = _ from rfl), mx_z (by decide)]
  rfl
theorem ok_75 : okS D dA u w sz0 sa 75 := by
  unfold okS
  rw [cel_k (show knd 75 = _ from rfl), mx_z (by decide)]
  rfl
theorem ok_76 : okS D dA u w sz0 sa 76 := by
  unfold okS
  rw [cel_k (show knd 76 = _ from rfl), mx_z (by decide)]
  rfl
theorem ok_77 : okS D dA u w sz0 sa 77 := by
  unfold okS
  rw [cel_k (show knd 77 = _ from rfl), mx_z (by decide)]
  rfl
theorem ok_78 : okS D dA u w sz0 sa 78 := by
  unfold okS
  rw [cel_k (show knd 78 = _ from rfl), mx_z (by decide)]
  rfl
theorem ok_79 : okS D dA u w sz0 sa 79 := by
  unfold okS
  rw [cel_k (show knd 79 = _ from rfl), mx_z (by decide)]
  rfl
theorem ok_80 : okS D dA u w sz0 sa 80 := by
  unfold okS
  rw [cel_k (show knd 80 = _ from rfl), mx_z (by decide)]
  rfl
theorem ok_81 : okS D dA u w sz0 sa 81 := by
  unfold okS
  rw [cel_k (show knd 81 = _ from rfl), mx_z (by decide)]
  rfl
theorem ok_82 : okS D dA u w sz0 sa 82 := by
  unfold okS
  rw [cel_k (show knd 82 = _ from rfl), mx_z (by decide)]
  rfl
theorem ok_83 : okS D dA u w sz0 sa 83 := by
  unfold okS
  rw [cel_k (show knd 83 = _ from rfl)]
  rfl
theorem ok_84 : okS D dA u w sz0 sa 84 := by
  unfold okS
  rw [cel_k (show knd 84 = _ from rfl), mx_z (by decide)]
  rfl
theorem ok_85 : okS D dA u w sz0 sa 85 := by
  unfold okS
  rw [cel_k (show knd 85 = _ from rfl), mx_z (by decide)]
  rfl
theorem ok_86 : okS D dA u w sz0 sa 86 := by
  unfold okS
  rw [cel_k (show knd 86 = _ from rfl), mx_z (by decide)]
  rfl
theorem ok_87 : okS D dA u w sz0 sa 87 := by
  unfold okS
  rw [cel_k (show knd 87 = _ from rfl), mx_z (by decide)]
  rfl
theorem ok_88 : okS D dA u w sz0 sa 88 := by
  unfold okS
  rw [cel_k (show knd 88 = _ from rfl), mx_z (by decide)]
  rfl
theorem ok_89 : okS D dA u w sz0 sa 89 := by
  unfold okS
  rw [cel_k (show knd 89 = _ from rfl), mx_z (by decide)]
  rfl
theorem ok_90 : okS D dA u w sz0 sa 90 := by
  unfold okS
  rw [cel_k (show knd 90 = _ from rfl), mx_z (by decide)]
  rfl
theorem ok_91 : okS D dA u w sz0 sa 91 := by
  unfold okS
  rw [cel_k (show knd 91 = _ from rfl), mx_z (by decide)]
  rfl
theorem ok_92 : okS D dA u w sz0 sa 92 := by
  unfold okS
  rw [cel_k (show knd 92 = _ from rfl), mx_z (by decide)]
  rfl
theorem ok_93 : okS D dA u w sz0 sa 93 := by
  unfold okS
  rw [cel_k (show knd 93 = _ from rfl), mx_z (by decide)]
  rfl
theorem ok_94 : okS D dA u w sz0 sa 94 := by
  unfold okS
  rw [cel_k (show knd 94 = _ from rfl), mx_z (by decide)]
  rfl
theorem ok_95 : okS D dA u w sz0 sa 95 := by
  unfold okS
  rw [cel_k (show knd 95 = _ from rfl), mx_z (by decide)]
  rfl
theorem ok_96 : okS D dA u w sz0 sa 96 := by
  unfold okS
  rw [cel_k (show knd 96 = _ from rfl), mx_z (by decide)]
  rfl
theorem ok_97 : okS D dA u w sz0 sa 97 := by
  unfold okS
  rw [cel_k (show knd 97 = _ from rfl)]
  rfl
theorem ok_98 : okS D dA u w sz0 sa 98 := by
  unfold okS
  rw [cel_k (show knd 98 = _ from rfl), mx_z (by decide)]
  rfl
theorem ok_99 : okS D dA u w sz0 sa 99 := by
  unfold okS
  rw [cel_k (show knd 99 = _ from rfl), mx_z (by decide)]
  rfl
theorem ok_100 : okS D dA u w sz0 sa 100 := by
  unfold okS
  rw [cel_k (show knd 100 = _ from rfl), mx_z (by decide)]
  rfl
theorem ok_101 : okS D dA u w sz0 sa 101 := by
  unfold okS
  rw [cel_k (show knd 101 = _ from rfl), mx_z (by decide)]
  rfl
theorem ok_102 : okS D dA u w sz0 sa 102 := by
  unfold okS
  rw [cel_k (show knd 102 = _ from rfl), mx_z (by decide)]
  rfl
theorem ok_103 : okS D dA u w sz0 sa 103 := by
  unfold okS
  rw [cel_k (show knd 103 = _ from rfl), mx_z (by decide)]
  rfl
theorem ok_104 : okS D dA u w sz0 sa 104 := by
  unfold okS
  rw [cel_k (show knd 104 = _ from rfl), mx_z (by decide)]
  rfl
theorem ok_105 : okS D dA u w sz0 sa 105 := by
  unfold okS
  rw [cel_k (show knd 105 = _ from rfl), mx_z (by decide)]
  rfl
theorem ok_106 : okS D dA u w sz0 sa 106 := by
  unfold okS
  rw [cel_k (show knd 106 = _ from rfl), mx_z (by decide)]
  rfl
theorem ok_107 : okS D dA u w sz0 sa 107 := by
  unfold okS
  rw [cel_k (show knd 107 = _ from rfl), mx_z (by decide)]
  rfl
theorem ok_108 : okS D dA u w sz0 sa 108 := by
  unfold okS
  rw [cel_k (show knd 108 = _ from rfl), mx_z (by decide)]
  rfl
theorem ok_109 : okS D dA u w sz0 sa 109 := by
  unfold okS
  rw [cel_k (show knd 109 = _ from rfl), mx_z (by decide)]
  rfl
theorem ok_110 : okS D dA u w sz0 sa 110 := by
  unfold okS
  rw [cel_k (show knd 110 = _ from rfl), mx_z (by decide)]
  rfl
theorem ok_111 : okS D dA u w sz0 sa 111 := by
  unfold okS
  rw [cel_k (show knd 111 = _ from rfl), mx_z (by decide)]
  rfl
theorem ok_112 : okS D dA u w sz0 sa 112 := by
  unfold okS
  rw [cel_k (show knd 112 = _ from rfl), mx_z (by decide)]
  rfl
theorem ok_113 : okS D dA u w sz0 sa 113 := by
  unfold okS
  rw [cel_k (show knd 113 = _ from rfl), mx_z (by decide)]
  rfl
theorem ok_114 : okS D dA u w sz0 sa 114 := by
  unfold okS
  rw [cel_k (show knd 114 = _ from rfl), mx_z (by decide)]
  rfl
theorem ok_115 : okS D dA u w sz0 sa 115 := by
  unfold okS
  rw [cel_k (show knd 115 = _ from rfl), mx_z (by decide)]
  rfl
theorem ok_116 : okS D dA u w sz0 sa 116 := by
  unfold okS
  rw [cel_k (show knd 116 = _ from rfl), mx_z (by decide)]
  rfl
theorem ok_117 : okS D dA u w sz0 sa 117 := by
  unfold okS
  rw [cel_k (show knd 117 = _ from rfl), mx_z (by decide)]
  rfl
theorem ok_118 : okS D dA u w sz0 sa 118 := by
  unfold okS
  rw [cel_k (show knd 118 = _ from rfl), mx_z (by decide)]
  rfl
theorem ok_119 : okS D dA u w sz0 sa 119 := by
  unfold okS
  rw [cel_k (show knd 119 = _ from rfl), mx_z (by decide)]
  rfl
theorem ok_120 : okS D dA u w sz0 sa 120 := by
  unfold okS
  rw [cel_k (show knd 120 = _ from rfl), mx_z (by decide)]
  rfl
theorem ok_121 : okS D dA u w sz0 sa 121 := by
  unfold okS
  rw [cel_k (show knd 121 = _ from rfl), mx_z (by decide)]
  rfl
theorem ok_122 : okS D dA u w sz0 sa 122 := by
  unfold okS
  rw [cel_k (show knd 122 = _ from rfl), mx_z (by decide)]
  rfl
theorem ok_123 : okS D dA u w sz0 sa 123 := by
  unfold okS
  rw [cel_k (show knd 123 = _ from rfl), mx_z (by decide)]
  rfl
theorem ok_124 : okS D dA u w sz0 sa 124 := by
  unfold okS
  rw [cel_k (show knd 124 = _ from rfl), mx_z (by decide)]
  rfl
theorem ok_125 : okS D dA u w sz0 sa 125 := by
  unfold okS
  rw [cel_k (show knd 125 = _ from rfl)]
  rfl
theorem ok_126 : okS D dA u w sz0 sa 126 := by
  unfold okS
  rw [cel_k (show knd 126 = _ from rfl), mx_z (by decide)]
  rfl
theorem ok_127 : okS D dA u w sz0 sa 127 := by
  unfold okS
  rw [cel_k (show knd 127 = _ from rfl), mx_z (by decide)]
  rfl
theorem ok_128 : okS D dA u w sz0 sa 128 := by
  unfold okS
  rw [cel_k (show knd 128 = _ from rfl), mx_z (by decide)]
  rfl
theorem ok_129 : okS D dA u w sz0 sa 129 := by
  unfold okS
  rw [cel_k (show knd 129 = _ from rfl), mx_z (by decide)]
  rfl
theorem ok_130 : okS D dA u w sz0 sa 130 := by
  unfold okS
  rw [cel_k (show knd 130 = _ from rfl), mx_z (by decide)]
  rfl
theorem ok_131 : okS D dA u w sz0 sa 131 := by
  unfold okS
  rw [cel_k (show knd 131 = _ from rfl), mx_z (by decide)]
  rfl
theorem ok_132 : okS D dA u w sz0 sa 132 := by
  unfold okS
  rw [cel_k (show knd 132 = _ from rfl), mx_z (by decide)]
  rfl
theorem ok_133 : okS D dA u w sz0 sa 133 := by
  unfold okS
  rw [cel_k (show knd 133 = _ from rfl), mx_z (by decide)]
  rfl
theorem ok_134 : okS D dA u w sz0 sa 134 := by
  unfold okS
  rw [cel_k (show knd 134 = _ from rfl), mx_z (by decide)]
  rfl
theorem ok_135 : okS D dA u w sz0 sa 135 := by
  unfold okS
  rw [cel_k (show knd 135 = _ from rfl), mx_z (by decide)]
  rfl
theorem ok_136 : okS D dA u w sz0 sa 136 := by
  unfold okS
  rw [cel_k (show knd 136 = _ from rfl), mx_z (by decide)]
  rfl
theorem ok_137 : okS D dA u w sz0 sa 137 := by
  unfold okS
  rw [cel_k (show knd 137 = _ from rfl), mx_z (by decide)]
  rfl
theorem ok_138 : okS D dA u w sz0 sa 138 := by
  unfold okS
  rw [cel_k (show knd 138 = _ from rfl), mx_z (by decide)]
  rfl
theorem ok_139 : okS D dA u w sz0 sa 139 := by
  unfold okS
  rw [cel_k (show knd 139 = _ from rfl), mx_z (by decide)]
  rfl
theorem ok_140 : okS D dA u w sz0 sa 140 := by
  unfold okS
  rw [cel_k (show knd 140 = _ from rfl), mx_z (by decide)]
  rfl
theorem ok_141 : okS D dA u w sz0 sa 141 := by
  unfold okS
  rw [cel_k (show knd 141 = _ from rfl), mx_z (by decide)]
  rfl
theorem ok_142 : okS D dA u w sz0 sa 142 := by
  unfold okS
  rw [cel_k (show knd 142 = _ from rfl), mx_z (by decide)]
  rfl
theorem ok_143 : okS D dA u w sz0 sa 143 := by
  unfold okS
  rw [cel_k (show knd 143 = _ from rfl), mx_z (by decide)]
  rfl
theorem ok_144 : okS D dA u w sz0 sa 144 := by
  unfold okS
  rw [cel_k (show knd 144 = _ from rfl), mx_z (by decide)]
  rfl
theorem ok_c0 : ∀ k, k < 0 → okS D dA u w sz0 sa k := fun k hk => absurd hk (Nat.not_lt_zero k)
theorem ok_c25 : ∀ k, k < 25 → okS D dA u w sz0 sa k := (ball_s (ball_s (ball_s (ball_s (ball_s (ball_s (ball_s (ball_s (ball_s (ball_s (ball_s (ball_s (ball_s (ball_s (ball_s (ball_s (ball_s (ball_s (ball_s (ball_s (ball_s (ball_s (ball_s (ball_s (ball_s ok_c0 ok_0) ok_1) ok_2) ok_3) ok_4) ok_5) ok_6) ok_7) ok_8) ok_9) ok_10) ok_11) ok_12) ok_13) ok_14) ok_15) ok_16) ok_17) ok_18) ok_19) ok_20) ok_21) ok_22) ok_23) ok_24)
theorem ok_c50 : ∀ k, k < 50 → okS D dA u w sz0 sa k := (ball_s (ball_s (ball_s (ball_s (ball_s (ball_s (ball_s (ball_s (ball_s (ball_s (ball_s (ball_s (ball_s (ball_s (ball_s (ball_s (ball_s (ball_s (ball_s (ball_s (ball_s (ball_s (ball_s (ball_s (ball_s ok_c25 ok_25) ok_26) ok_27) ok_28) ok_29) ok_30) ok_31) ok_32) ok_33) ok_34) ok_35) ok_36) ok_37) ok_38) ok_39) ok_40) ok_41) ok_42) ok_43) ok_44) ok_45) ok_46) ok_47) ok_48) ok_49)
theorem ok_c75 : ∀ k, k < 75 → okS D dA u w sz0 sa k := (ball_s (ball_s (ball_s (ball_s (ball_s (ball_s (ball_s (ball_s (ball_s (ball_s (ball_s (ball_s (ball_s (ball_s (ball_s (ball_s (ball_s (ball_s (ball_s (ball_s (ball_s (ball_s (ball_s (ball_s (ball_s ok_c50 ok_50) ok_51) ok_52) ok_53) ok_54) ok_55) ok_56) ok_57) ok_58) ok_59) ok_60) ok_61) ok_62) ok_63) ok_64) ok_65) ok_66) ok_67) ok_68) ok_69) ok_70) ok_71) ok_72) ok_73) ok_74)
theorem ok_c100 : ∀ k, k < 100 → okS D dA u w sz0 sa k := (ball_s (ball_s (ball_s (ball_s (ball_s (ball_s (ball_s (ball_s (ball_s (ball_s (ball_s (ball_s (ball_s (ball_s (ball_s (ball_s (ball_s (ball_s (ball_s (ball_s (ball_s (ball_s (ball_s (ball_s (ball_s ok_c75 ok_75) ok_76) ok_77) ok_78) ok_79) ok_80) ok_81) ok_82) ok_83) ok_84) ok_85) ok_86) ok_87) ok_88) ok_89) ok_90) ok_91) ok_92) ok_93) ok_94) ok_95) ok_96) ok_97) ok_98) ok_99)
theorem ok_c125 : ∀ k, k < 125 → okS D dA u w sz0 sa k := (ball_s (ball_s (ball_s (ball_s (ball_s (ball_s (ball_s (ball_s (ball_s (ball_s (ball_s (ball_s (ball_s (ball_s (ball_s (ball_s (ball_s (ball_s (ball_s (ball_s (ball_s (ball_s (ball_s (ball_s (ball_s ok_c100 ok_100) ok_101) ok_102) ok_103) ok_104) ok_105) ok_106) ok_107) ok_108) ok_109) ok_110) ok_111) ok_112) ok_113) ok_114) ok_115) ok_116) ok_117) ok_118) ok_119) ok_120) ok_121) ok_122) ok_123) ok_124)
theorem ok_c145 : ∀ k, k < 145 → okS D dA u w sz0 sa k := (ball_s (ball_s (ball_s (ball_s (ball_s (ball_s (ball_s (ball_s (ball_s (ball_s (ball_s (ball_s (ball_s (ball_s (ball_s (ball_s (ball_s (ball_s (ball_s (ball_s ok_c125 ok_125) ok_126) ok_127) ok_128) ok_129) ok_130) ok_131) ok_132) ok_133) ok_134) ok_135) ok_136) ok_137) ok_138) ok_139) ok_140) ok_141) ok_142) ok_143) ok_144)
end OK
theorem posS_inj : ∀ i, i < 145 → ∀ j, j < 145 → posS.getD i 0 = posS.getD j 0 → i = j := by decide +kernel
