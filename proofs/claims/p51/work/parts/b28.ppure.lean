/-! the pool's methods as functions of the pool (printed) -/
theorem stp_t {α β : Type} {v : α} {k : α → Option β} {o : β} (h : stp v k = some o) : ∃ z, z = v ∧ k z = some o := ⟨v, rfl, h⟩
def i2c (x : Int32) : Int32 := (x.toUInt32 % 65536).toInt32
/-- what asks gives for an exception -/
def xcode (t : Nat) (v : Int32) : Int32 := match t with
  | 0 => v
  | 1 => (-2000000050)
  | 2 => (-2000000053)
  | _ => (-2000000054)
def ask0 (h : Hp) (a b c : Int32) : Option (Nat × (Int32 × Hp)) := bnd (f_X10_load h) (fun o => ck (decide (o.1 ≤ 3)) (some (o.1, (xcode o.1 o.2.1, o.2.2))))
def ask1 (h : Hp) (a b c : Int32) : Option (Nat × (Int32 × Hp)) := bnd (f_X10_wordField h a b) (fun o => ck (decide (o.1 ≤ 3)) (some (o.1, (xcode o.1 o.2, h))))
theorem ask1_h {h : Hp} {a b c : Int32} {u : Nat × (Int32 × Hp)} (hu : ask1 h a b c = some u) : u.2.2 = h := by
  unfold ask1 at hu
  obtain ⟨o, -, ho⟩ := bnd_t hu
  obtain ⟨-, ho⟩ := ck_t ho
  cases ho
  rfl
def ask2 (h : Hp) (a b c : Int32) : Option (Nat × (Int32 × Hp)) := bnd (f_X10_blockField h a b) (fun o => ck (decide (o.1 ≤ 3)) (some (o.1, (xcode o.1 o.2, h))))
theorem ask2_h {h : Hp} {a b c : Int32} {u : Nat × (Int32 × Hp)} (hu : ask2 h a b c = some u) : u.2.2 = h := by
  unfold ask2 at hu
  obtain ⟨o, -, ho⟩ := bnd_t hu
  obtain ⟨-, ho⟩ := ck_t ho
  cases ho
  rfl
def ask3 (h : Hp) (a b c : Int32) : Option (Nat × (Int32 × Hp)) := bnd (f_X10_blockOf h a) (fun o => ck (decide (o.1 ≤ 3)) (some (o.1, (xcode o.1 o.2, h))))
theorem ask3_h {h : Hp} {a b c : Int32} {u : Nat × (Int32 × Hp)} (hu : ask3 h a b c = some u) : u.2.2 = h := by
  unfold ask3 at hu
  obtain ⟨o, -, ho⟩ := bnd_t hu
  obtain ⟨-, ho⟩ := ck_t ho
  cases ho
  rfl
def ask4 (h : Hp) (a b c : Int32) : Option (Nat × (Int32 × Hp)) := bnd (f_X10_shotField h a b) (fun o => ck (decide (o.1 ≤ 3)) (some (o.1, (xcode o.1 o.2, h))))
theorem ask4_h {h : Hp} {a b c : Int32} {u : Nat × (Int32 × Hp)} (hu : ask4 h a b c = some u) : u.2.2 = h := by
  unfold ask4 at hu
  obtain ⟨o, -, ho⟩ := bnd_t hu
  obtain ⟨-, ho⟩ := ck_t ho
  cases ho
  rfl
def ask7 (h : Hp) (a b c : Int32) : Option (Nat × (Int32 × Hp)) := bnd (f_X10_placeOf h a) (fun o => ck (decide (o.1 ≤ 3)) (some (o.1, (xcode o.1 o.2, h))))
theorem ask7_h {h : Hp} {a b c : Int32} {u : Nat × (Int32 × Hp)} (hu : ask7 h a b c = some u) : u.2.2 = h := by
  unfold ask7 at hu
  obtain ⟨o, -, ho⟩ := bnd_t hu
  obtain ⟨-, ho⟩ := ck_t ho
  cases ho
  rfl
def ask12 (h : Hp) (a b c : Int32) : Option (Nat × (Int32 × Hp)) := bnd (f_X10_cut h a b) (fun o => ck (decide (o.1 ≤ 3)) (some (o.1, (xcode o.1 o.2.1, o.2.2))))
def ask13 (h : Hp) (a b c : Int32) : Option (Nat × (Int32 × Hp)) := bnd (f_X10_cutWord h a) (fun o => ck (decide (o.1 ≤ 3)) (some (o.1, (xcode o.1 o.2.1, o.2.2))))
def ask14 (h : Hp) (a b c : Int32) : Option (Nat × (Int32 × Hp)) := bnd (f_X10_restore h a b) (fun o => ck (decide (o.1 ≤ 3)) (some (o.1, (xcode o.1 o.2.1, o.2.2))))
def ask15 (h : Hp) (a b c : Int32) : Option (Nat × (Int32 × Hp)) := bnd (f_X10_move h a b c) (fun o => ck (decide (o.1 ≤ 3)) (some (o.1, (xcode o.1 o.2.1, o.2.2))))
def ask16 (h : Hp) (a b c : Int32) : Option (Nat × (Int32 × Hp)) := bnd (f_X10_setHandles h a b c) (fun o => ck (decide (o.1 ≤ 3)) (some (o.1, (xcode o.1 o.2.1, o.2.2))))
def fp_X12_next (g : PL) (p0 : Nat) (p1 : Int32) : Option (Int32 × PL) :=
  ck (gk g p0 1) (
  ck (gk g p0 1) (stp (gu g p0 0 ((g.2.2 p0 0 * (1103515245 : Int32)) + (12345 : Int32))) (fun g1 =>
  ck (gk g1 p0 1) (
  ck (decide (¬ p1 = 0)) (some ((irem ((iushr (g1.2.2 p0 0) (16 : Int32)) &&& (32767 : Int32)) p1), g1))))))
def Jp_J8_newLength_cabcc_21 (g : PL) (p0 : Int32) (p1 : Int32) (p2 : Int32) : Option (Int32) :=
  none
def fp_J8_newLength_cabcc (g : PL) (p0 : Int32) (p1 : Int32) (p2 : Int32) : Option (Int32) :=
  stp ((p0 + (imax p1 p2))) (fun v1 =>
  if (0 : Int32) < v1 then (
  if (2147483639 : Int32) < v1 then (
  Jp_J8_newLength_cabcc_21 g p0 p1 p2)
  else (
  some v1))
  else (
  Jp_J8_newLength_cabcc_21 g p0 p1 p2))
def fp_J5_newCapacity_0f7a4 (g : PL) (p0 : Nat) (p1 : Int32) : Option (Int32) :=
  ckn (gk g p0 2) (g.2.2 p0 0) (fun q1 =>
  ck (gk g q1 6) (
  stp ((nI (gl g q1))) (fun v2 =>
  ck (gk g p0 2) (
  stp ((p1 <<< (g.2.2 p0 1 &&& 31))) (fun v3 =>
  stp ((v3 - v2)) (fun v4 =>
  ck (gk g p0 2) (
  bnd (fp_J8_newLength_cabcc g v2 v4 (v2 + ((2 : Int32) <<< (g.2.2 p0 1 &&& 31)))) (fun u5 =>
  if u5 = (2147483647 : Int32) then (
  none)
  else (
  ck (gk g p0 2) (
  some (u5 >>> (g.2.2 p0 1 &&& 31))))))))))))
def fp_J7_copyOf_9075b (g : PL) (p0 : Nat) (p1 : Int32) : Option (Nat × PL) :=
  ck (gk g p0 6) (
  if p1 = (nI (gl g p0)) then (
  ck (gk g p0 6 && ngw g (gl g p0)) (stp (gnew g 6 (gl g p0) (g.2.2 p0)) (fun g4 =>
  ck (gk g4 g.1 6) (
  some (g.1, g4)))))
  else (
  ck (rkb g p0) (ck (decide (0 ≤ p1) && ngw g (ix p1)) (stp (gnew g 6 (ix p1) (fun _ => 0)) (fun g1 =>
  ck (gk g1 p0 6) (
  ck ((gk g1 p0 6 && gk g1 g.1 6) && cpok (0 : Int32) (0 : Int32) (imin (nI (gl g1 p0)) p1) (gl g1 p0) (gl g1 g.1)) (stp (gcp g1 (g1.2.2 p0) g.1 (0 : Int32) (0 : Int32) (imin (nI (gl g1 p0)) p1)) (fun g3 =>
  some (g.1, g3)))))))))
def fp_J5_ensureCapacityInternal_d00df (g : PL) (p0 : Nat) (p1 : Int32) : Option (PL) :=
  ckn (gk g p0 2) (g.2.2 p0 0) (fun q1 =>
  ck (gk g q1 6) (
  ck (gk g p0 2) (
  stp (((nI (gl g q1)) >>> (g.2.2 p0 1 &&& 31))) (fun v2 =>
  if (p1 - v2) ≤ 0 then (
  some g)
  else (
  ckn (gk g p0 2) (g.2.2 p0 0) (fun q3 =>
  ck (gk g p0 2) (bnd (fp_J5_newCapacity_0f7a4 g p0 p1) (fun u4 =>
  ck (gk g p0 2) (
  ck (rkb g p0) (bnd (fp_J7_copyOf_9075b g q3 (u4 <<< (g.2.2 p0 1 &&& 31))) (fun u5 =>
  ck (gk u5.2 p0 2 && (rkb u5.2 u5.1 && decide (u5.1 < 2147483648))) (stp (gu u5.2 p0 0 (nI u5.1)) (fun g7 =>
  some g7)))))))))))))
def fp_J5_inflateIfNeededFor_a7421 (g : PL) (p0 : Nat) (p1 : Nat) : Option (Unit) :=
  if (1 : Int32) = 0 then (
  some ())
  else (
  ck (gk g p0 2) (
  ck (sOK g p1) (
  if g.2.2 p0 1 = (0 : Int32) then (
  some ())
  else (
  none))))
def fp_J5_putStringAt_47b60 (g : PL) (p0 : Nat) (p1 : Int32) (p2 : Nat) : Option (PL) :=
  ck (gk g p0 2) (bnd (fp_J5_inflateIfNeededFor_a7421 g p0 p2) (fun u1 =>
  ckn (gk g p0 2) (g.2.2 p0 0) (fun q2 =>
  ck (gk g p0 2) (
  ck (decide (g.2.2 p0 1 = 0) && sOK g p2) (ck (gk g q2 6 && cpok 0 p1 (nI (sLen g p2)) (sLen g p2) (gl g q2)) (stp (gcp g (sB g p2) q2 0 p1 (nI (sLen g p2))) (fun g3 =>
  some g3)))))))
def fp_J5_append_cf1ce (g : PL) (p0 : Nat) (p1 : Nat) : Option (Nat × PL) :=
  ck (sOK g p1 && decide (sLen g p1 < 2147483648)) (
  stp ((nI (sLen g p1))) (fun v1 =>
  ck (gk g p0 2) (
  ck (rkb g p0) (ck (rkb g p1) (ck (gk g p0 2) (bnd (fp_J5_ensureCapacityInternal_d00df g p0 (g.2.2 p0 3 + v1)) (fun u2 =>
  ck (gk u2 p0 2) (
  ck (gk u2 p0 2) (bnd (fp_J5_putStringAt_47b60 u2 p0 (u2.2.2 p0 3) p1) (fun u4 =>
  ck (decide (u4.1 = u2.1)) (ck (gk u4 p0 2) (
  ck (gk u4 p0 2) (stp (gu u4 p0 3 (u4.2.2 p0 3 + v1)) (fun g5 =>
  some (p0, g5)))))))))))))))
def fp_J4_append_15ec4 (g : PL) (p0 : Nat) (p1 : Nat) : Option (Nat × PL) :=
  ck (rkb g p0) (ck (gk g p0 2) (bnd (fp_J5_append_cf1ce g p0 p1) (fun u1 =>
  some (p0, u1.2))))
def fp_J5_isLatin1_aae02 (g : PL) (p0 : Nat) : Option (Int32) :=
  if (1 : Int32) = 0 then (
  some (0 : Int32))
  else (
  ck (gk g p0 2) (
  if g.2.2 p0 1 = 0 then (
  some (1 : Int32))
  else (
  some (0 : Int32))))
def Jp_J6_getChars_ba4f3_104 (p1 : Int32) (p2 : Nat) (g : PL) (x5 : Int32) (x6 : Int32) : Option (Int32 × PL) :=
  if x6 = 0 then (
  some (x5, g))
  else (
  stp (x5 + (-1)) (fun v1 =>
  ck (gk g p2 6 && inb v1 (gl g p2)) (stp (gu g p2 (ix v1) (i2b (45 : Int32))) (fun g2 =>
  some (v1, g2)))))
def Jp_J6_getChars_ba4f3_72 (p1 : Int32) (p2 : Nat) (g : PL) (x0 : Int32) (x5 : Int32) (x6 : Int32) : Option (Int32 × PL) :=
  stp (x5 + (-1)) (fun v3 =>
  ck (inb (-x0) 100) (
  ck (gk g p2 6 && inb v3 (gl g p2)) (stp (gu g p2 (ix v3) (i2b (dgO (ix (-x0))))) (fun g5 =>
  if x0 < (-9 : Int32) then (
  stp (v3 + (-1)) (fun v6 =>
  ck (inb (-x0) 100) (
  ck (gk g5 p2 6 && inb v6 (gl g5 p2)) (stp (gu g5 p2 (ix v6) (i2b (dgT (ix (-x0))))) (fun g8 =>
  Jp_J6_getChars_ba4f3_104 p1 p2 g8 v6 x6)))))
  else (
  Jp_J6_getChars_ba4f3_104 p1 p2 g5 v3 x6)))))
def Fp_J6_getChars_ba4f3_22 (p1 : Int32) (p2 : Nat) (x6 : Int32) (r22 : Int32 × Int32 × PL → Option (Int32 × PL)) : Int32 × Int32 × PL → Option (Int32 × PL) := fun ⟨x0, x5, g⟩ =>
  if (-100 : Int32) < x0 then (
  Jp_J6_getChars_ba4f3_72 p1 p2 g x0 x5 x6)
  else (
  stp ((x0 / (100 : Int32))) (fun v9 =>
  stp (((v9 * (100 : Int32)) - x0)) (fun v10 =>
  stp (x5 + (-1)) (fun v11 =>
  ck (inb v10 100) (
  ck (gk g p2 6 && inb v11 (gl g p2)) (stp (gu g p2 (ix v11) (i2b (dgO (ix v10)))) (fun g13 =>
  stp (v11 + (-1)) (fun v14 =>
  ck (inb v10 100) (
  ck (gk g13 p2 6 && inb v14 (gl g13 p2)) (stp (gu g13 p2 (ix v14) (i2b (dgT (ix v10)))) (fun g16 =>
  r22 (v9, v14, g16))))))))))))
def Jp_J6_getChars_ba4f3_12 (p1 : Int32) (p2 : Nat) (g : PL) (x0 : Int32) (x5 : Int32) (s0 : Int32) : Option (Int32 × PL) :=
  if s0 = 0 then (
  stp ((-x0)) (fun v17 =>
  Lp (Fp_J6_getChars_ba4f3_22 p1 p2 s0) FU (v17, x5, g)))
  else (
  Lp (Fp_J6_getChars_ba4f3_22 p1 p2 s0) FU (x0, x5, g))
def fp_J6_getChars_ba4f3 (g : PL) (p0 : Int32) (p1 : Int32) (p2 : Nat) : Option (Int32 × PL) :=
  if 0 ≤ p0 then (
  Jp_J6_getChars_ba4f3_12 p1 p2 g p0 p1 (0 : Int32))
  else (
  Jp_J6_getChars_ba4f3_12 p1 p2 g p0 p1 (1 : Int32))
def Fp_J6_stringSize_0f7a4_16 (g : PL) (x0 : Int32) (x1 : Int32) (r16 : Int32 × Int32 → Option (Int32)) : Int32 × Int32 → Option (Int32) := fun ⟨x2, x3⟩ =>
  if x3 < (10 : Int32) then (
  if x2 < x0 then (
  some (x3 + x1))
  else (
  stp (((10 : Int32) * x2)) (fun v1 =>
  stp (x3 + 1) (fun v2 =>
  r16 (v1, v2)))))
  else (
  some ((10 : Int32) + x1))
def Jp_J6_stringSize_0f7a4_11 (g : PL) (x0 : Int32) (x1 : Int32) : Option (Int32) :=
  Lp (Fp_J6_stringSize_0f7a4_16 g x0 x1) FU ((-10 : Int32), (1 : Int32))
def fp_J6_stringSize_0f7a4 (g : PL) (p0 : Int32) : Option (Int32) :=
  if p0 < 0 then (
  Jp_J6_stringSize_0f7a4_11 g p0 (1 : Int32))
  else (
  stp ((-p0)) (fun v3 =>
  Jp_J6_stringSize_0f7a4_11 g v3 (0 : Int32)))
def fp_J5_append_c97b9 (g : PL) (p0 : Nat) (p1 : Int32) : Option (Nat × PL) :=
  ck (gk g p0 2) (
  stp (g.2.2 p0 3) (fun v1 =>
  bnd (fp_J6_stringSize_0f7a4 g p1) (fun u2 =>
  stp ((v1 + u2)) (fun v3 =>
  ck (rkb g p0) (ck (gk g p0 2) (bnd (fp_J5_ensureCapacityInternal_d00df g p0 v3) (fun u4 =>
  ck (gk u4 p0 2) (bnd (fp_J5_isLatin1_aae02 u4 p0) (fun u6 =>
  if u6 = 0 then (
  ckn (gk u4 p0 2) (u4.2.2 p0 0) (fun q7 =>
  none))
  else (
  ckn (gk u4 p0 2) (u4.2.2 p0 0) (fun q8 =>
  bnd (fp_J6_getChars_ba4f3 u4 p1 v3 q8) (fun u9 =>
  ck (decide (u9.2.1 = u4.1)) (ck (gk u9.2 p0 2) (stp (gu u9.2 p0 3 v3) (fun g10 =>
  some (p0, g10))))))))))))))))
def fp_J4_append_bf812 (g : PL) (p0 : Nat) (p1 : Int32) : Option (Nat × PL) :=
  ck (rkb g p0) (ck (gk g p0 2) (bnd (fp_J5_append_c97b9 g p0 p1) (fun u1 =>
  some (p0, u1.2))))
def fp_J1_canEncode_fc78d (g : PL) (p0 : Int32) : Option (Int32) :=
  if (255 : Int32) < p0 then (
  some (0 : Int32))
  else (
  some (1 : Int32))
def Jp_J5_append_3fe6f_45 (p0 : Nat) (p1 : Int32) (g : PL) : Option (Nat × PL) :=
  ck (gk g p0 2) (bnd (fp_J5_isLatin1_aae02 g p0) (fun u1 =>
  if u1 = 0 then (
  ckn (gk g p0 2) (g.2.2 p0 0) (fun q2 =>
  ck (gk g p0 2) (
  ck (gk g p0 2) (stp (gu g p0 3 (g.2.2 p0 3 + (1 : Int32))) (fun g3 =>
  none)))))
  else (
  none)))
def fp_J5_append_3fe6f (g : PL) (p0 : Nat) (p1 : Int32) : Option (Nat × PL) :=
  ck (gk g p0 2) (
  ck (rkb g p0) (ck (gk g p0 2) (bnd (fp_J5_ensureCapacityInternal_d00df g p0 (g.2.2 p0 3 + (1 : Int32))) (fun u4 =>
  ck (gk u4 p0 2) (bnd (fp_J5_isLatin1_aae02 u4 p0) (fun u6 =>
  if u6 = 0 then (
  Jp_J5_append_3fe6f_45 p0 p1 u4)
  else (
  bnd (fp_J1_canEncode_fc78d u4 p1) (fun u7 =>
  if u7 = 0 then (
  Jp_J5_append_3fe6f_45 p0 p1 u4)
  else (
  ckn (gk u4 p0 2) (u4.2.2 p0 0) (fun q8 =>
  ck (gk u4 p0 2) (
  ck (gk u4 p0 2) (stp (gu u4 p0 3 (u4.2.2 p0 3 + (1 : Int32))) (fun g9 =>
  ck (gk g9 q8 6 && inb (u4.2.2 p0 3) (gl g9 q8)) (stp (gu g9 q8 (ix (u4.2.2 p0 3)) (i2b (i2b p1))) (fun g10 =>
  some (p0, g10))))))))))))))))
def fp_J4_append_cf468 (g : PL) (p0 : Nat) (p1 : Int32) : Option (Nat × PL) :=
  ck (rkb g p0) (ck (gk g p0 2) (bnd (fp_J5_append_3fe6f g p0 p1) (fun u1 =>
  some (p0, u1.2))))
def fp_J5_init_d00df (g : PL) (p0 : Nat) (p1 : Int32) : Option (PL) :=
  if (1 : Int32) = 0 then (
  none)
  else (
  ck (rkb g p0) (ck (decide (0 ≤ p1) && ngw g (ix p1)) (stp (gnew g 6 (ix p1) (fun _ => 0)) (fun g1 =>
  ck (gk g1 p0 2 && (rkb g1 g.1 && decide (g.1 < 2147483648))) (stp (gu g1 p0 0 (nI g.1)) (fun g3 =>
  ck (gk g3 p0 2) (stp (gu g3 p0 1 (0 : Int32)) (fun g4 =>
  some g4))))))))
def fp_J4_init_da8c8 (g : PL) (p0 : Nat) : Option (PL) :=
  bnd (fp_J5_init_d00df g p0 (16 : Int32)) (fun u1 =>
  some u1)
def fp_J5_length_8abf5 (g : PL) (p0 : Nat) : Option (Int32) :=
  ck (gk g p0 2) (
  some (g.2.2 p0 3))
def fp_J4_length_8abf5 (g : PL) (p0 : Nat) : Option (Int32) :=
  ck (gk g p0 2) (bnd (fp_J5_length_8abf5 g p0) (fun u1 =>
  some u1))
def fp_J5_getValue_6d5f1 (g : PL) (p0 : Nat) : Option (Nat) :=
  ckn (gk g p0 2) (g.2.2 p0 0) (fun q1 =>
  some q1)
def fp_J7_checkLength_df160 (g : PL) (p0 : Int32) (p1 : Int32) : Option (Unit) :=
  if p1 < p0 then (
  none)
  else (
  some ())
def fp_J7_copyOfRangeByte_39247 (g : PL) (p0 : Nat) (p1 : Int32) (p2 : Int32) : Option (Nat × PL) :=
  bnd (fp_J7_checkLength_df160 g p1 p2) (fun u1 =>
  stp ((p2 - p1)) (fun v2 =>
  ck (rkb g p0) (ck (decide (0 ≤ v2) && ngw g (ix v2)) (stp (gnew g 6 (ix v2) (fun _ => 0)) (fun g3 =>
  ck (gk g3 p0 6) (
  ck ((gk g3 p0 6 && gk g3 g.1 6) && cpok p1 (0 : Int32) (imin ((nI (gl g3 p0)) - p1) v2) (gl g3 p0) (gl g3 g.1)) (stp (gcp g3 (g3.2.2 p0) g.1 p1 (0 : Int32) (imin ((nI (gl g3 p0)) - p1) v2)) (fun g5 =>
  some (g.1, g5)))))))))
def Jp_J7_copyOfRange_39247_10 (p0 : Nat) (p1 : Int32) (p2 : Int32) (g : PL) : Option (Nat × PL) :=
  bnd (fp_J7_copyOfRangeByte_39247 g p0 p1 p2) (fun u1 =>
  some (u1.1, u1.2))
def fp_J7_copyOfRange_39247 (g : PL) (p0 : Nat) (p1 : Int32) (p2 : Int32) : Option (Nat × PL) :=
  if p1 = 0 then (
  ck (gk g p0 6) (
  if p2 = (nI (gl g p0)) then (
  ck (gk g p0 6 && ngw g (gl g p0)) (stp (gnew g 6 (gl g p0) (g.2.2 p0)) (fun g3 =>
  ck (gk g3 g.1 6) (
  some (g.1, g3)))))
  else (
  Jp_J7_copyOfRange_39247_10 p0 p1 p2 g)))
  else (
  Jp_J7_copyOfRange_39247_10 p0 p1 p2 g)
def Jp_J0_init_db425_79 (p0 : Nat) (p1 : Nat) (g : PL) (x3 : Nat) (x4 : Int32) : Option (PL) :=
  none
def fp_J0_init_db425 (g : PL) (p0 : Nat) (p1 : Nat) : Option (PL) :=
  ck (gk g p1 2) (bnd (fp_J5_getValue_6d5f1 g p1) (fun u2 =>
  ck (gk g p1 2) (bnd (fp_J4_length_8abf5 g p1) (fun u3 =>
  ck (gk g p1 2) (bnd (fp_J5_isLatin1_aae02 g p1) (fun u4 =>
  if u4 = 0 then (
  if (1 : Int32) = 0 then (
  Jp_J0_init_db425_79 p0 p1 g u2 u3)
  else (
  ck (gk g p1 2) (
  if g.2.2 p1 2 = 0 then (
  Jp_J0_init_db425_79 p0 p1 g u2 u3)
  else (
  none))))
  else (
  ck (gk g p0 3) (stp (gu g p0 1 (0 : Int32)) (fun g5 =>
  ck (rkb g5 p0) (bnd (fp_J7_copyOfRange_39247 g5 u2 (0 : Int32) u3) (fun u6 =>
  ck (gk u6.2 p0 3 && (rkb u6.2 u6.1 && decide (u6.1 < 2147483648))) (stp (gu u6.2 p0 0 (nI u6.1)) (fun g8 =>
  some g8)))))))))))))
def fp_J0_init_81219 (g : PL) (p0 : Nat) (p1 : Nat) : Option (PL) :=
  bnd (fp_J0_init_db425 g p0 p1) (fun u1 =>
  some u1)
def fp_J4_toString_0e30d (g : PL) (p0 : Nat) : Option (Nat × PL) :=
  ck (rkb g p0) (ck (ngw g 0) (stp (gnew g 3 0 (dfl 3)) (fun g1 =>
  ck (rkb g1 g.1) (bnd (fp_J0_init_81219 g1 g.1 p0) (fun u3 =>
  some (g.1, u3))))))
def Fp_X11_layBlocks_303 (p0 : Nat) (r303 : Int32 × PL → Option (PL)) : Int32 × PL → Option (PL) := fun ⟨x1, g⟩ =>
  ck (gk g p0 0) (
  if x1 < g.2.2 p0 7 then (
  ckn (gk g p0 0) (g.2.2 p0 15) (fun q1 =>
  ck (gk g q1 4 && inb x1 (gl g q1)) (stp (gu g q1 (ix x1) x1) (fun g2 =>
  stp (x1 + 1) (fun v3 =>
  r303 (v3, g2))))))
  else (
  some g))
def Jp_X11_layBlocks_291 (p0 : Nat) (g : PL) : Option (PL) :=
  ck (gk g p0 0) (
  ck (rkb g p0) (ck (decide (0 ≤ g.2.2 p0 7) && ngw g (ix (g.2.2 p0 7))) (stp (gnew g 4 (ix (g.2.2 p0 7)) (fun _ => 0)) (fun g4 =>
  ck (gk g4 p0 0 && (rkb g4 g.1 && decide (g.1 < 2147483648))) (stp (gu g4 p0 15 (nI g.1)) (fun g6 =>
  Lp (Fp_X11_layBlocks_303 p0) FU ((0 : Int32), g6)))))))
def Jp_X11_layBlocks_285 (p0 : Nat) (g : PL) (r163 : Int32 × PL → Option (PL)) (x1 : Int32) : Option (PL) :=
  stp (x1 + 1) (fun v7 =>
  r163 (v7, g))
def Jp_X11_layBlocks_279 (p0 : Nat) (g : PL) (r163 : Int32 × PL → Option (PL)) (r200 : Int32 × Int32 × PL → Option (PL)) (x1 : Int32) (x2 : Int32) (x3 : Int32) : Option (PL) :=
  stp (x3 + 1) (fun v8 =>
  r200 (x2, v8, g))
def Fp_X11_layBlocks_200 (p0 : Nat) (r163 : Int32 × PL → Option (PL)) (x1 : Int32) (r200 : Int32 × Int32 × PL → Option (PL)) : Int32 × Int32 × PL → Option (PL) := fun ⟨x2, x3, g⟩ =>
  ck (gk g p0 0) (
  if x3 < g.2.2 p0 6 then (
  ckn (gk g p0 0) (g.2.2 p0 10) (fun q9 =>
  ck (gk g q9 4 && inb x1 (gl g q9)) (
  ckn (gk g p0 0) (g.2.2 p0 4) (fun q10 =>
  ckn (gk g q10 7 && inb x3 (gl g q10)) (g.2.2 q10 (ix x3)) (fun q11 =>
  ck (gk g q11 4 && inb (0 : Int32) (gl g q11)) (
  stp ((imax (g.2.2 q9 (ix x1)) (g.2.2 q11 (ix (0 : Int32))))) (fun v12 =>
  ckn (gk g p0 0) (g.2.2 p0 9) (fun q13 =>
  ck (gk g q13 4 && inb (x1 + (1 : Int32)) (gl g q13)) (
  ckn (gk g p0 0) (g.2.2 p0 4) (fun q14 =>
  ckn (gk g q14 7 && inb x3 (gl g q14)) (g.2.2 q14 (ix x3)) (fun q15 =>
  ck (gk g q15 4 && inb (1 : Int32) (gl g q15)) (
  stp ((imin (g.2.2 q13 (ix (x1 + (1 : Int32)))) (g.2.2 q15 (ix (1 : Int32))))) (fun v16 =>
  if x2 < (v16 - v12) then (
  stp ((v16 - v12)) (fun v17 =>
  ckn (gk g p0 0) (g.2.2 p0 11) (fun q18 =>
  ck (gk g q18 4 && inb x1 (gl g q18)) (stp (gu g q18 (ix x1) ((v12 + v16) / (2 : Int32))) (fun g19 =>
  Jp_X11_layBlocks_279 p0 g19 r163 r200 x1 v17 x3)))))
  else (
  Jp_X11_layBlocks_279 p0 g r163 r200 x1 x2 x3))))))))))))))
  else (
  Jp_X11_layBlocks_285 p0 g r163 x1))
def Fp_X11_layBlocks_163 (p0 : Nat) (r163 : Int32 × PL → Option (PL)) : Int32 × PL → Option (PL) := fun ⟨x1, g⟩ =>
  ck (gk g p0 0) (
  if (x1 + (1 : Int32)) < g.2.2 p0 7 then (
  ckn (gk g p0 0) (g.2.2 p0 11) (fun q20 =>
  ckn (gk g p0 0) (g.2.2 p0 10) (fun q21 =>
  ck (gk g q21 4 && inb x1 (gl g q21)) (
  ckn (gk g p0 0) (g.2.2 p0 9) (fun q22 =>
  ck (gk g q22 4 && inb (x1 + (1 : Int32)) (gl g q22)) (
  ck (gk g q20 4 && inb x1 (gl g q20)) (stp (gu g q20 (ix x1) ((g.2.2 q21 (ix x1) + g.2.2 q22 (ix (x1 + (1 : Int32)))) / (2 : Int32))) (fun g23 =>
  Lp (Fp_X11_layBlocks_200 p0 r163 x1) FU ((0 : Int32), (0 : Int32), g23)))))))))
  else (
  Jp_X11_layBlocks_291 p0 g))
def Jp_X11_layBlocks_148 (p0 : Nat) (g : PL) : Option (PL) :=
  ckn (gk g p0 0) (g.2.2 p0 8) (fun q24 =>
  ck (gk g p0 0) (
  ck (gk g p0 0) (
  ck (gk g q24 4 && inb (g.2.2 p0 7) (gl g q24)) (stp (gu g q24 (ix (g.2.2 p0 7)) (g.2.2 p0 5)) (fun g25 =>
  Lp (Fp_X11_layBlocks_163 p0) FU ((0 : Int32), g25))))))
def Jp_X11_layBlocks_95 (p0 : Nat) (g : PL) (r2 : Int32 × PL → Option (PL)) (x1 : Int32) : Option (PL) :=
  ckn (gk g p0 0) (g.2.2 p0 3) (fun q26 =>
  ckn (gk g q26 7 && inb x1 (gl g q26)) (g.2.2 q26 (ix x1)) (fun q27 =>
  ck (gk g p0 0) (
  ck (gk g q27 4 && inb (4 : Int32) (gl g q27)) (stp (gu g q27 (ix (4 : Int32)) (g.2.2 p0 7 - (1 : Int32))) (fun g28 =>
  ckn (gk g28 p0 0) (g28.2.2 p0 10) (fun q29 =>
  ck (gk g28 p0 0) (
  ckn (gk g28 p0 0) (g28.2.2 p0 10) (fun q30 =>
  ck (gk g28 p0 0) (
  ck (gk g28 q30 4 && inb (g28.2.2 p0 7 - (1 : Int32)) (gl g28 q30)) (
  ckn (gk g28 p0 0) (g28.2.2 p0 3) (fun q31 =>
  ckn (gk g28 q31 7 && inb x1 (gl g28 q31)) (g28.2.2 q31 (ix x1)) (fun q32 =>
  ck (gk g28 q32 4 && inb (3 : Int32) (gl g28 q32)) (
  ck (gk g28 q29 4 && inb (g28.2.2 p0 7 - (1 : Int32)) (gl g28 q29)) (stp (gu g28 q29 (ix (g28.2.2 p0 7 - (1 : Int32))) (imax (g28.2.2 q30 (ix (g28.2.2 p0 7 - (1 : Int32)))) (g28.2.2 q32 (ix (3 : Int32))))) (fun g33 =>
  stp (x1 + 1) (fun v34 =>
  r2 (v34, g33)))))))))))))))))
def Jp_X11_layBlocks_54 (p0 : Nat) (g : PL) (r2 : Int32 × PL → Option (PL)) (x1 : Int32) (x2 : Int32) : Option (PL) :=
  if x2 = 0 then (
  ckn (gk g p0 0) (g.2.2 p0 8) (fun q35 =>
  ck (gk g p0 0) (
  ck (gk g q35 4 && inb (g.2.2 p0 7) (gl g q35)) (stp (gu g q35 (ix (g.2.2 p0 7)) x1) (fun g36 =>
  ckn (gk g36 p0 0) (g36.2.2 p0 9) (fun q37 =>
  ck (gk g36 p0 0) (
  ckn (gk g36 p0 0) (g36.2.2 p0 3) (fun q38 =>
  ckn (gk g36 q38 7 && inb x1 (gl g36 q38)) (g36.2.2 q38 (ix x1)) (fun q39 =>
  ck (gk g36 q39 4 && inb (2 : Int32) (gl g36 q39)) (
  ck (gk g36 q37 4 && inb (g36.2.2 p0 7) (gl g36 q37)) (stp (gu g36 q37 (ix (g36.2.2 p0 7)) (g36.2.2 q39 (ix (2 : Int32)))) (fun g40 =>
  ck (gk g40 p0 0) (
  ck (gk g40 p0 0) (stp (gu g40 p0 7 (g40.2.2 p0 7 + (1 : Int32))) (fun g41 =>
  Jp_X11_layBlocks_95 p0 g41 r2 x1)))))))))))))))
  else (
  Jp_X11_layBlocks_95 p0 g r2 x1)
def Jp_X11_layBlocks_47 (p0 : Nat) (g : PL) (r2 : Int32 × PL → Option (PL)) (r14 : Int32 × Int32 → Option (PL)) (x1 : Int32) (x3 : Int32) (s0 : Int32) : Option (PL) :=
  stp (x3 + 1) (fun v42 =>
  r14 (s0, v42))
def Jp_X11_layBlocks_42 (p0 : Nat) (g : PL) (r2 : Int32 × PL → Option (PL)) (r14 : Int32 × Int32 → Option (PL)) (x1 : Int32) (x3 : Int32) : Option (PL) :=
  Jp_X11_layBlocks_47 p0 g r2 r14 x1 x3 (1 : Int32)
def Fp_X11_layBlocks_14 (p0 : Nat) (g : PL) (r2 : Int32 × PL → Option (PL)) (x1 : Int32) (r14 : Int32 × Int32 → Option (PL)) : Int32 × Int32 → Option (PL) := fun ⟨x2, x3⟩ =>
  if x3 < x1 then (
  if x2 = 0 then (
  ckn (gk g p0 0) (g.2.2 p0 3) (fun q43 =>
  ckn (gk g q43 7 && inb x3 (gl g q43)) (g.2.2 q43 (ix x3)) (fun q44 =>
  ck (gk g q44 4 && inb (3 : Int32) (gl g q44)) (
  ckn (gk g p0 0) (g.2.2 p0 3) (fun q45 =>
  ckn (gk g q45 7 && inb x1 (gl g q45)) (g.2.2 q45 (ix x1)) (fun q46 =>
  ck (gk g q46 4 && inb (2 : Int32) (gl g q46)) (
  if g.2.2 q46 (ix (2 : Int32)) < g.2.2 q44 (ix (3 : Int32)) then (
  Jp_X11_layBlocks_42 p0 g r2 r14 x1 x3)
  else (
  Jp_X11_layBlocks_47 p0 g r2 r14 x1 x3 (0 : Int32)))))))))
  else (
  Jp_X11_layBlocks_42 p0 g r2 r14 x1 x3))
  else (
  Jp_X11_layBlocks_54 p0 g r2 x1 x2)
def Fp_X11_layBlocks_2 (p0 : Nat) (r2 : Int32 × PL → Option (PL)) : Int32 × PL → Option (PL) := fun ⟨x1, g⟩ =>
  ck (gk g p0 0) (
  if x1 < g.2.2 p0 5 then (
  Lp (Fp_X11_layBlocks_14 p0 g r2 x1) FU ((0 : Int32), (0 : Int32)))
  else (
  Jp_X11_layBlocks_148 p0 g))
def fp_X11_layBlocks (g : PL) (p0 : Nat) : Option (PL) :=
  Lp (Fp_X11_layBlocks_2 p0) FU ((0 : Int32), g)
def Jp_X11_putWord_77 (p0 : Nat) (p1 : Nat) (g : PL) (x2 : Int32) : Option (PL) :=
  ckn (gk g p0 0) (g.2.2 p0 3) (fun q1 =>
  ck ((gk g q1 7 && inb x2 (gl g q1)) && gk g p1 4) (stp (gu g q1 (ix x2) (nI p1)) (fun g2 =>
  ck (gk g2 p0 0) (
  ck (gk g2 p0 0) (stp (gu g2 p0 5 (g2.2.2 p0 5 + (1 : Int32))) (fun g3 =>
  some g3))))))
def Jp_X11_putWord_57 (p0 : Nat) (p1 : Nat) (g : PL) (r5 : Int32 × PL → Option (PL)) (x2 : Int32) : Option (PL) :=
  ckn (gk g p0 0) (g.2.2 p0 3) (fun q4 =>
  ckn (gk g p0 0) (g.2.2 p0 3) (fun q5 =>
  ckn (gk g q5 7 && inb (x2 - (1 : Int32)) (gl g q5)) (g.2.2 q5 (ix (x2 - (1 : Int32)))) (fun q6 =>
  ck ((gk g q4 7 && inb x2 (gl g q4)) && gk g q6 4) (stp (gu g q4 (ix x2) (nI q6)) (fun g7 =>
  stp (x2 + (-1)) (fun v8 =>
  r5 (v8, g7)))))))
def Fp_X11_putWord_5 (p0 : Nat) (p1 : Nat) (r5 : Int32 × PL → Option (PL)) : Int32 × PL → Option (PL) := fun ⟨x2, g⟩ =>
  if x2 ≤ 0 then (
  Jp_X11_putWord_77 p0 p1 g x2)
  else (
  ckn (gk g p0 0) (g.2.2 p0 3) (fun q9 =>
  ckn (gk g q9 7 && inb (x2 - (1 : Int32)) (gl g q9)) (g.2.2 q9 (ix (x2 - (1 : Int32)))) (fun q10 =>
  ck (gk g q10 4 && inb (2 : Int32) (gl g q10)) (
  ck (gk g p1 4 && inb (2 : Int32) (gl g p1)) (
  if g.2.2 p1 (ix (2 : Int32)) < g.2.2 q10 (ix (2 : Int32)) then (
  Jp_X11_putWord_57 p0 p1 g r5 x2)
  else (
  ckn (gk g p0 0) (g.2.2 p0 3) (fun q11 =>
  ckn (gk g q11 7 && inb (x2 - (1 : Int32)) (gl g q11)) (g.2.2 q11 (ix (x2 - (1 : Int32)))) (fun q12 =>
  ck (gk g q12 4 && inb (2 : Int32) (gl g q12)) (
  ck (gk g p1 4 && inb (2 : Int32) (gl g p1)) (
  if g.2.2 q12 (ix (2 : Int32)) = g.2.2 p1 (ix (2 : Int32)) then (
  ckn (gk g p0 0) (g.2.2 p0 3) (fun q13 =>
  ckn (gk g q13 7 && inb (x2 - (1 : Int32)) (gl g q13)) (g.2.2 q13 (ix (x2 - (1 : Int32)))) (fun q14 =>
  ck (gk g q14 4 && inb (0 : Int32) (gl g q14)) (
  ck (gk g p1 4 && inb (0 : Int32) (gl g p1)) (
  if g.2.2 p1 (ix (0 : Int32)) < g.2.2 q14 (ix (0 : Int32)) then (
  Jp_X11_putWord_57 p0 p1 g r5 x2)
  else (
  Jp_X11_putWord_77 p0 p1 g x2))))))
  else (
  Jp_X11_putWord_77 p0 p1 g x2)))))))))))
def fp_X11_putWord (g : PL) (p0 : Nat) (p1 : Nat) : Option (PL) :=
  ck (gk g p0 0) (
  stp (g.2.2 p0 5) (fun v15 =>
  Lp (Fp_X11_putWord_5 p0 p1) FU (v15, g)))
def Jp_X11_wordOf_41 (g : PL) (p0 : Nat) (p1 : Int32) (p2 : Int32) (r2 : Int32 → Option (Nat)) (x3 : Int32) : Option (Nat) :=
  stp (x3 + 1) (fun v1 =>
  r2 v1)
def Fp_X11_wordOf_2 (g : PL) (p0 : Nat) (p1 : Int32) (p2 : Int32) (r2 : Int32 → Option (Nat)) : Int32 → Option (Nat) := fun x3 =>
  ck (gk g p0 0) (
  if x3 < g.2.2 p0 5 then (
  ckn (gk g p0 0) (g.2.2 p0 3) (fun q4 =>
  ckn (gk g q4 7 && inb x3 (gl g q4)) (g.2.2 q4 (ix x3)) (fun q5 =>
  ck (gk g q5 4 && inb (0 : Int32) (gl g q5)) (
  if g.2.2 q5 (ix (0 : Int32)) = p1 then (
  ckn (gk g p0 0) (g.2.2 p0 3) (fun q6 =>
  ckn (gk g q6 7 && inb x3 (gl g q6)) (g.2.2 q6 (ix x3)) (fun q7 =>
  ck (gk g q7 4 && inb (2 : Int32) (gl g q7)) (
  if g.2.2 q7 (ix (2 : Int32)) = p2 then (
  ckn (gk g p0 0) (g.2.2 p0 3) (fun q8 =>
  ckn (gk g q8 7 && inb x3 (gl g q8)) (g.2.2 q8 (ix x3)) (fun q9 =>
  some q9)))
  else (
  Jp_X11_wordOf_41 g p0 p1 p2 r2 x3)))))
  else (
  Jp_X11_wordOf_41 g p0 p1 p2 r2 x3)))))
  else (
  ckn (gk g p0 0) (g.2.2 p0 3) (fun q2 =>
  ckn (gk g q2 7 && inb (0 : Int32) (gl g q2)) (g.2.2 q2 (ix (0 : Int32))) (fun q3 =>
  some q3))))
def fp_X11_wordOf (g : PL) (p0 : Nat) (p1 : Int32) (p2 : Int32) : Option (Nat) :=
  Lp (Fp_X11_wordOf_2 g p0 p1 p2) FU (0 : Int32)
def Jp_X11_init_549 (p0 : Nat) (p1 : Nat) (g : PL) : Option (PL) :=
  ck (rkb g p0) (ck (ngw g 0) (stp (gnew g 2 0 (dfl 2)) (fun g1 =>
  ck (rkb g1 p0) (ck (rkb g1 g.1) (bnd (fp_J4_init_da8c8 g1 g.1) (fun u3 =>
  ckn (gk u3 p0 0) (u3.2.2 p0 16) (fun q5 =>
  ck (rkb u3 p0) (ck (gk u3 g.1 2) (bnd (fp_J4_append_15ec4 u3 g.1 q5) (fun u6 =>
  ck (rkb u6.2 p0) (ck (gk u6.2 u6.1 2) (bnd (fp_J4_append_15ec4 u6.2 u6.1 1000008) (fun u8 =>
  ck (gk u8.2 p0 0) (
  ck (rkb u8.2 p0) (ck (gk u8.2 u8.1 2) (bnd (fp_J4_append_bf812 u8.2 u8.1 (u8.2.2.2 p0 0)) (fun u10 =>
  ck (rkb u10.2 p0) (ck (gk u10.2 u10.1 2) (bnd (fp_J4_append_15ec4 u10.2 u10.1 1000009) (fun u12 =>
  ck (gk u12.2 p0 0) (
  ck (rkb u12.2 p0) (ck (gk u12.2 u12.1 2) (bnd (fp_J4_append_bf812 u12.2 u12.1 (u12.2.2.2 p0 1)) (fun u14 =>
  ck (rkb u14.2 p0) (ck (gk u14.2 u14.1 2) (bnd (fp_J4_append_15ec4 u14.2 u14.1 1000002) (fun u16 =>
  ck (rkb u16.2 p0) (ck (gk u16.2 u16.1 2) (bnd (fp_J4_toString_0e30d u16.2 u16.1) (fun u18 =>
  ck (gk u18.2 p0 0 && (rkb u18.2 u18.1 && decide (u18.1 < 2147483648))) (stp (gu u18.2 p0 16 (nI u18.1)) (fun g20 =>
  ck (gk g20 p0 0) (bnd (fp_X11_layBlocks g20 p0) (fun u21 =>
  some u21))))))))))))))))))))))))))))))))))
def Fp_X11_init_432 (p0 : Nat) (p1 : Nat) (x4 : Int32) (r432 : Int32 × PL × Nat → Option (PL)) : Int32 × PL × Nat → Option (PL) := fun ⟨x5, g, k⟩ =>
  if x5 ≤ 0 then (
  Jp_X11_init_549 p0 p1 g)
  else (
  ck (gk g p1 1) (bnd (fp_X12_next g p1 (x4 + (1 : Int32))) (fun u23 =>
  ck (decide (u23.2.1 = g.1)) (ckn (gk u23.2 p0 0) (u23.2.2.2 p0 4) (fun q24 =>
  ck (gk u23.2 p0 0) (
  ck (rkb u23.2 p0) (ck (rkb u23.2 p1) (ck (rkb u23.2 q24) (ck (decide (k + 1 ≤ 361)) (ck (decide (0 ≤ (2 : Int32)) && ngw u23.2 (ix (2 : Int32))) (stp (gnew u23.2 4 (ix (2 : Int32)) (fun _ => 0)) (fun g25 =>
  ck (gk g25 u23.2.1 4 && inb (0 : Int32) (gl g25 u23.2.1)) (stp (gu g25 u23.2.1 (ix (0 : Int32)) u23.1) (fun g27 =>
  ck (gk g27 p1 1) (bnd (fp_X12_next g27 p1 (6 : Int32)) (fun u28 =>
  ck (decide (u28.2.1 = g27.1)) (ck (gk u28.2 u23.2.1 4 && inb (1 : Int32) (gl u28.2 u23.2.1)) (stp (gu u28.2 u23.2.1 (ix (1 : Int32)) ((u23.1 + (1 : Int32)) + u28.1)) (fun g29 =>
  ck ((gk g29 q24 7 && inb (u23.2.2.2 p0 6) (gl g29 q24)) && gk g29 u23.2.1 4) (stp (gu g29 q24 (ix (u23.2.2.2 p0 6)) (nI u23.2.1)) (fun g30 =>
  ck (rkb g30 p0) (ck (rkb g30 p1) (ck (decide (k + 2 ≤ 361)) (ck (ngw g30 0) (stp (gnew g30 2 0 (dfl 2)) (fun g31 =>
  ck (rkb g31 p0) (ck (rkb g31 p1) (ck (rkb g31 g30.1) (ck (decide (k + 3 ≤ 361)) (bnd (fp_J4_init_da8c8 g31 g30.1) (fun u33 =>
  ckn (gk u33 p0 0) (u33.2.2 p0 16) (fun q35 =>
  ck (rkb u33 p0) (ck (rkb u33 p1) (ck (decide (k + 4 ≤ 361)) (ck (gk u33 g30.1 2) (bnd (fp_J4_append_15ec4 u33 g30.1 q35) (fun u36 =>
  ck (rkb u36.2 p0) (ck (rkb u36.2 p1) (ck (decide (k + 5 ≤ 361)) (ck (gk u36.2 u36.1 2) (bnd (fp_J4_append_15ec4 u36.2 u36.1 1000007) (fun u38 =>
  ck (rkb u38.2 p0) (ck (rkb u38.2 p1) (ck (decide (k + 6 ≤ 361)) (ck (gk u38.2 u38.1 2) (bnd (fp_J4_append_bf812 u38.2 u38.1 u23.1) (fun u40 =>
  ck (rkb u40.2 p0) (ck (rkb u40.2 p1) (ck (decide (k + 7 ≤ 361)) (ck (gk u40.2 u40.1 2) (bnd (fp_J4_append_15ec4 u40.2 u40.1 1000006) (fun u42 =>
  ckn (gk u42.2 p0 0) (u42.2.2.2 p0 4) (fun q44 =>
  ck (gk u42.2 p0 0) (
  ckn (gk u42.2 q44 7 && inb (u42.2.2.2 p0 6) (gl u42.2 q44)) (u42.2.2.2 q44 (ix (u42.2.2.2 p0 6))) (fun q45 =>
  ck (gk u42.2 q45 4 && inb (1 : Int32) (gl u42.2 q45)) (
  ck (rkb u42.2 p0) (ck (rkb u42.2 p1) (ck (decide (k + 8 ≤ 361)) (ck (gk u42.2 u42.1 2) (bnd (fp_J4_append_bf812 u42.2 u42.1 (u42.2.2.2 q45 (ix (1 : Int32)))) (fun u46 =>
  ck (rkb u46.2 p0) (ck (rkb u46.2 p1) (ck (decide (k + 9 ≤ 361)) (ck (gk u46.2 u46.1 2) (bnd (fp_J4_append_15ec4 u46.2 u46.1 1000002) (fun u48 =>
  ck (rkb u48.2 p0) (ck (rkb u48.2 p1) (ck (decide (k + 11 ≤ 361)) (ck (gk u48.2 u48.1 2) (bnd (fp_J4_toString_0e30d u48.2 u48.1) (fun u50 =>
  ck (gk u50.2 p0 0 && (rkb u50.2 u50.1 && decide (u50.1 < 2147483648))) (stp (gu u50.2 p0 16 (nI u50.1)) (fun g52 =>
  ck (gk g52 p0 0) (
  ck (gk g52 p0 0) (stp (gu g52 p0 6 (g52.2.2 p0 6 + (1 : Int32))) (fun g53 =>
  stp (x5 + (-1)) (fun v54 =>
  ck (decide (k + 11 ≤ 361)) (r432 (v54, g53, (k + 11))))))))))))))))))))))))))))))))))))))))))))))))))))))))))))))))))))))))))))))))
def Jp_X11_init_412 (p0 : Nat) (p1 : Nat) (g : PL) (x4 : Int32) : Option (PL) :=
  ck (gk g p1 1) (bnd (fp_X12_next g p1 (9 : Int32)) (fun u55 =>
  ck (decide (u55.2.1 = g.1)) (ck (gk u55.2 p0 0) (stp (gu u55.2 p0 0 (x4 + u55.1)) (fun g56 =>
  ck (gk g56 p1 1) (bnd (fp_X12_next g56 p1 (4 : Int32)) (fun u57 =>
  ck (decide (u57.2.1 = g56.1)) (Lp (Fp_X11_init_432 p0 p1 x4) FU (u57.1, u57.2, 301)))))))))
def Fp_X11_init_381 (p0 : Nat) (p1 : Nat) (g : PL) (r381 : Int32 × Int32 → Option (PL)) : Int32 × Int32 → Option (PL) := fun ⟨x4, x5⟩ =>
  ck (gk g p0 0) (
  if x5 < g.2.2 p0 5 then (
  ckn (gk g p0 0) (g.2.2 p0 3) (fun q58 =>
  ckn (gk g q58 7 && inb x5 (gl g q58)) (g.2.2 q58 (ix x5)) (fun q59 =>
  ck (gk g q59 4 && inb (3 : Int32) (gl g q59)) (
  stp ((imax x4 (g.2.2 q59 (ix (3 : Int32))))) (fun v60 =>
  stp (x5 + 1) (fun v61 =>
  r381 (v60, v61)))))))
  else (
  Jp_X11_init_412 p0 p1 g x4))
def Jp_X11_init_375 (p0 : Nat) (p1 : Nat) (g : PL) : Option (PL) :=
  Lp (Fp_X11_init_381 p0 p1 g) FU ((0 : Int32), (0 : Int32))
def Fp_X11_init_183 (p0 : Nat) (p1 : Nat) (x2 : Nat) (r183 : Int32 × Int32 × PL × Nat → Option (PL)) : Int32 × Int32 × PL × Nat → Option (PL) := fun ⟨x3, x4, g, k⟩ =>
  if x4 ≤ 0 then (
  Jp_X11_init_375 p0 p1 g)
  else (
  ck (gk g p0 0) (
  ck (gk g p1 1) (bnd (fp_X12_next g p1 (g.2.2 p0 2)) (fun u62 =>
  ck (decide (u62.2.1 = g.1)) (ck (gk u62.2 x2 4 && inb u62.1 (gl u62.2 x2)) (
  ck (gk u62.2 p1 1) (bnd (fp_X12_next u62.2 p1 (12 : Int32)) (fun u63 =>
  ck (decide (u63.2.1 = u62.2.1)) (stp ((imax (u62.2.2.2 x2 (ix u62.1)) (x3 + u63.1))) (fun v64 =>
  ck (gk u63.2 p1 1) (bnd (fp_X12_next u63.2 p1 (9 : Int32)) (fun u65 =>
  ck (decide (u65.2.1 = u63.2.1)) (stp (((v64 + (1 : Int32)) + u65.1)) (fun v66 =>
  ck (rkb u65.2 p0) (ck (rkb u65.2 p1) (ck (rkb u65.2 x2) (ck (decide (k + 1 ≤ 301)) (ck (decide (0 ≤ (5 : Int32)) && ngw u65.2 (ix (5 : Int32))) (stp (gnew u65.2 4 (ix (5 : Int32)) (fun _ => 0)) (fun g67 =>
  ck (gk g67 u65.2.1 4 && inb (0 : Int32) (gl g67 u65.2.1)) (stp (gu g67 u65.2.1 (ix (0 : Int32)) u62.1) (fun g69 =>
  ck (gk g69 p1 1) (bnd (fp_X12_next g69 p1 (3 : Int32)) (fun u70 =>
  ck (decide (u70.2.1 = g69.1)) (ck (gk u70.2 u65.2.1 4 && inb (1 : Int32) (gl u70.2 u65.2.1)) (stp (gu u70.2 u65.2.1 (ix (1 : Int32)) u70.1) (fun g71 =>
  ck (gk g71 u65.2.1 4 && inb (2 : Int32) (gl g71 u65.2.1)) (stp (gu g71 u65.2.1 (ix (2 : Int32)) v64) (fun g72 =>
  ck (gk g72 u65.2.1 4 && inb (3 : Int32) (gl g72 u65.2.1)) (stp (gu g72 u65.2.1 (ix (3 : Int32)) v66) (fun g73 =>
  ck (gk g73 u65.2.1 4 && inb (4 : Int32) (gl g73 u65.2.1)) (stp (gu g73 u65.2.1 (ix (4 : Int32)) (0 : Int32)) (fun g74 =>
  ck (gk g74 p0 0) (bnd (fp_X11_putWord g74 p0 u65.2.1) (fun u75 =>
  ck (decide (u75.1 = g74.1)) (ck (gk u75 p1 1) (bnd (fp_X12_next u75 p1 (2 : Int32)) (fun u76 =>
  ck (decide (u76.2.1 = u75.1)) (ck (gk u76.2 x2 4 && inb u62.1 (gl u76.2 x2)) (stp (gu u76.2 x2 (ix u62.1) (v66 + u76.1)) (fun g77 =>
  ck (gk g77 p1 1) (bnd (fp_X12_next g77 p1 (4 : Int32)) (fun u78 =>
  ck (decide (u78.2.1 = g77.1)) (stp ((imax x3 (v64 - u78.1))) (fun v79 =>
  ck (rkb u78.2 p0) (ck (rkb u78.2 p1) (ck (rkb u78.2 x2) (ck (decide (k + 2 ≤ 301)) (ck (ngw u78.2 0) (stp (gnew u78.2 2 0 (dfl 2)) (fun g80 =>
  ck (rkb g80 p0) (ck (rkb g80 p1) (ck (rkb g80 x2) (ck (rkb g80 u78.2.1) (ck (decide (k + 3 ≤ 301)) (bnd (fp_J4_init_da8c8 g80 u78.2.1) (fun u82 =>
  ckn (gk u82 p0 0) (u82.2.2 p0 16) (fun q84 =>
  ck (rkb u82 p0) (ck (rkb u82 p1) (ck (rkb u82 x2) (ck (decide (k + 4 ≤ 301)) (ck (gk u82 u78.2.1 2) (bnd (fp_J4_append_15ec4 u82 u78.2.1 q84) (fun u85 =>
  ck (rkb u85.2 p0) (ck (rkb u85.2 p1) (ck (rkb u85.2 x2) (ck (decide (k + 5 ≤ 301)) (ck (gk u85.2 u85.1 2) (bnd (fp_J4_append_15ec4 u85.2 u85.1 1000004) (fun u87 =>
  ck (rkb u87.2 p0) (ck (rkb u87.2 p1) (ck (rkb u87.2 x2) (ck (decide (k + 6 ≤ 301)) (ck (gk u87.2 u87.1 2) (bnd (fp_J4_append_cf468 u87.2 u87.1 (i2c ((97 : Int32) + u62.1))) (fun u89 =>
  ck (rkb u89.2 p0) (ck (rkb u89.2 p1) (ck (rkb u89.2 x2) (ck (decide (k + 7 ≤ 301)) (ck (gk u89.2 u89.1 2) (bnd (fp_J4_append_15ec4 u89.2 u89.1 1000005) (fun u91 =>
  ck (gk u91.2 p0 0) (bnd (fp_X11_wordOf u91.2 p0 u62.1 v64) (fun u93 =>
  ck (gk u91.2 u93 4 && inb (1 : Int32) (gl u91.2 u93)) (
  ck (rkb u91.2 p0) (ck (rkb u91.2 p1) (ck (rkb u91.2 x2) (ck (decide (k + 8 ≤ 301)) (ck (gk u91.2 u91.1 2) (bnd (fp_J4_append_cf468 u91.2 u91.1 (i2c ((97 : Int32) + u91.2.2.2 u93 (ix (1 : Int32))))) (fun u94 =>
  ck (rkb u94.2 p0) (ck (rkb u94.2 p1) (ck (rkb u94.2 x2) (ck (decide (k + 9 ≤ 301)) (ck (gk u94.2 u94.1 2) (bnd (fp_J4_append_15ec4 u94.2 u94.1 1000006) (fun u96 =>
  ck (rkb u96.2 p0) (ck (rkb u96.2 p1) (ck (rkb u96.2 x2) (ck (decide (k + 10 ≤ 301)) (ck (gk u96.2 u96.1 2) (bnd (fp_J4_append_bf812 u96.2 u96.1 v64) (fun u98 =>
  ck (rkb u98.2 p0) (ck (rkb u98.2 p1) (ck (rkb u98.2 x2) (ck (decide (k + 11 ≤ 301)) (ck (gk u98.2 u98.1 2) (bnd (fp_J4_append_15ec4 u98.2 u98.1 1000006) (fun u100 =>
  ck (rkb u100.2 p0) (ck (rkb u100.2 p1) (ck (rkb u100.2 x2) (ck (decide (k + 12 ≤ 301)) (ck (gk u100.2 u100.1 2) (bnd (fp_J4_append_bf812 u100.2 u100.1 v66) (fun u102 =>
  ck (rkb u102.2 p0) (ck (rkb u102.2 p1) (ck (rkb u102.2 x2) (ck (decide (k + 13 ≤ 301)) (ck (gk u102.2 u102.1 2) (bnd (fp_J4_append_15ec4 u102.2 u102.1 1000002) (fun u104 =>
  ck (rkb u104.2 p0) (ck (rkb u104.2 p1) (ck (rkb u104.2 x2) (ck (decide (k + 15 ≤ 301)) (ck (gk u104.2 u104.1 2) (bnd (fp_J4_toString_0e30d u104.2 u104.1) (fun u106 =>
  ck (gk u106.2 p0 0 && (rkb u106.2 u106.1 && decide (u106.1 < 2147483648))) (stp (gu u106.2 p0 16 (nI u106.1)) (fun g108 =>
  stp (x4 + (-1)) (fun v109 =>
  ck (decide (k + 15 ≤ 301)) (r183 (v79, v109, g108, (k + 15)))))))))))))))))))))))))))))))))))))))))))))))))))))))))))))))))))))))))))))))))))))))))))))))))))))))))))))))))))))))))))))))))))))
def Jp_X11_init_167 (p0 : Nat) (p1 : Nat) (g : PL) : Option (PL) :=
  ck (rkb g p0) (ck (rkb g p1) (ck (decide (0 ≤ (4 : Int32)) && ngw g (ix (4 : Int32))) (stp (gnew g 4 (ix (4 : Int32)) (fun _ => 0)) (fun g110 =>
  ck (gk g110 p1 1) (bnd (fp_X12_next g110 p1 (8 : Int32)) (fun u112 =>
  ck (decide (u112.2.1 = g110.1)) (stp (((3 : Int32) + u112.1)) (fun v113 =>
  Lp (Fp_X11_init_183 p0 p1 g.1) FU ((0 : Int32), v113, u112.2, 51)))))))))
def Fp_X11_init_114 (p0 : Nat) (p1 : Nat) (r114 : Int32 × PL × Nat → Option (PL)) : Int32 × PL × Nat → Option (PL) := fun ⟨x2, g, k⟩ =>
  ck (gk g p0 0) (
  if x2 < g.2.2 p0 2 then (
  ck (rkb g p0) (ck (rkb g p1) (ck (decide (k + 1 ≤ 50)) (ck (ngw g 0) (stp (gnew g 2 0 (dfl 2)) (fun g114 =>
  ck (rkb g114 p0) (ck (rkb g114 p1) (ck (rkb g114 g.1) (ck (decide (k + 2 ≤ 50)) (bnd (fp_J4_init_da8c8 g114 g.1) (fun u116 =>
  ckn (gk u116 p0 0) (u116.2.2 p0 16) (fun q118 =>
  ck (rkb u116 p0) (ck (rkb u116 p1) (ck (decide (k + 3 ≤ 50)) (ck (gk u116 g.1 2) (bnd (fp_J4_append_15ec4 u116 g.1 q118) (fun u119 =>
  ck (rkb u119.2 p0) (ck (rkb u119.2 p1) (ck (decide (k + 4 ≤ 50)) (ck (gk u119.2 u119.1 2) (bnd (fp_J4_append_15ec4 u119.2 u119.1 1000001) (fun u121 =>
  ck (rkb u121.2 p0) (ck (rkb u121.2 p1) (ck (decide (k + 5 ≤ 50)) (ck (gk u121.2 u121.1 2) (bnd (fp_J4_append_cf468 u121.2 u121.1 (i2c ((97 : Int32) + x2))) (fun u123 =>
  ck (rkb u123.2 p0) (ck (rkb u123.2 p1) (ck (decide (k + 6 ≤ 50)) (ck (gk u123.2 u123.1 2) (bnd (fp_J4_append_15ec4 u123.2 u123.1 1000002) (fun u125 =>
  ck (rkb u125.2 p0) (ck (rkb u125.2 p1) (ck (decide (k + 8 ≤ 50)) (ck (gk u125.2 u125.1 2) (bnd (fp_J4_toString_0e30d u125.2 u125.1) (fun u127 =>
  ck (gk u127.2 p0 0 && (rkb u127.2 u127.1 && decide (u127.1 < 2147483648))) (stp (gu u127.2 p0 16 (nI u127.1)) (fun g129 =>
  stp (x2 + 1) (fun v130 =>
  ck (decide (k + 8 ≤ 50)) (r114 (v130, g129, (k + 8)))))))))))))))))))))))))))))))))))))))))))
  else (
  Jp_X11_init_167 p0 p1 g))
def fp_X11_init (g : PL) (p0 : Nat) (p1 : Nat) : Option (PL) :=
  ck (rkb g p0) (ck (rkb g p1) (ck (decide (0 ≤ (40 : Int32)) && ngw g (ix (40 : Int32))) (stp (gnew g 7 (ix (40 : Int32)) (fun _ => -1)) (fun g131 =>
  ck (gk g131 p0 0 && (rkb g131 g.1 && decide (g.1 < 2147483648))) (stp (gu g131 p0 3 (nI g.1)) (fun g133 =>
  ck (rkb g133 p0) (ck (rkb g133 p1) (ck (decide (0 ≤ (12 : Int32)) && ngw g133 (ix (12 : Int32))) (stp (gnew g133 7 (ix (12 : Int32)) (fun _ => -1)) (fun g134 =>
  ck (gk g134 p0 0 && (rkb g134 g133.1 && decide (g133.1 < 2147483648))) (stp (gu g134 p0 4 (nI g133.1)) (fun g136 =>
  ck (rkb g136 p0) (ck (rkb g136 p1) (ck (decide (0 ≤ (41 : Int32)) && ngw g136 (ix (41 : Int32))) (stp (gnew g136 4 (ix (41 : Int32)) (fun _ => 0)) (fun g137 =>
  ck (gk g137 p0 0 && (rkb g137 g136.1 && decide (g136.1 < 2147483648))) (stp (gu g137 p0 8 (nI g136.1)) (fun g139 =>
  ck (rkb g139 p0) (ck (rkb g139 p1) (ck (decide (0 ≤ (41 : Int32)) && ngw g139 (ix (41 : Int32))) (stp (gnew g139 4 (ix (41 : Int32)) (fun _ => 0)) (fun g140 =>
  ck (gk g140 p0 0 && (rkb g140 g139.1 && decide (g139.1 < 2147483648))) (stp (gu g140 p0 9 (nI g139.1)) (fun g142 =>
  ck (rkb g142 p0) (ck (rkb g142 p1) (ck (decide (0 ≤ (41 : Int32)) && ngw g142 (ix (41 : Int32))) (stp (gnew g142 4 (ix (41 : Int32)) (fun _ => 0)) (fun g143 =>
  ck (gk g143 p0 0 && (rkb g143 g142.1 && decide (g142.1 < 2147483648))) (stp (gu g143 p0 10 (nI g142.1)) (fun g145 =>
  ck (rkb g145 p0) (ck (rkb g145 p1) (ck (decide (0 ≤ (41 : Int32)) && ngw g145 (ix (41 : Int32))) (stp (gnew g145 4 (ix (41 : Int32)) (fun _ => 0)) (fun g146 =>
  ck (gk g146 p0 0 && (rkb g146 g145.1 && decide (g145.1 < 2147483648))) (stp (gu g146 p0 11 (nI g145.1)) (fun g148 =>
  ck (rkb g148 p0) (ck (rkb g148 p1) (ck (decide (0 ≤ (41 : Int32)) && ngw g148 (ix (41 : Int32))) (stp (gnew g148 4 (ix (41 : Int32)) (fun _ => 0)) (fun g149 =>
  ck (gk g149 p0 0 && (rkb g149 g148.1 && decide (g148.1 < 2147483648))) (stp (gu g149 p0 12 (nI g148.1)) (fun g151 =>
  ck (rkb g151 p0) (ck (rkb g151 p1) (ck (decide (0 ≤ (41 : Int32)) && ngw g151 (ix (41 : Int32))) (stp (gnew g151 4 (ix (41 : Int32)) (fun _ => 0)) (fun g152 =>
  ck (gk g152 p0 0 && (rkb g152 g151.1 && decide (g151.1 < 2147483648))) (stp (gu g152 p0 13 (nI g151.1)) (fun g154 =>
  ck (rkb g154 p0) (ck (rkb g154 p1) (ck (decide (0 ≤ (40 : Int32)) && ngw g154 (ix (40 : Int32))) (stp (gnew g154 5 (ix (40 : Int32)) (fun _ => 0)) (fun g155 =>
  ck (gk g155 p0 0 && (rkb g155 g154.1 && decide (g154.1 < 2147483648))) (stp (gu g155 p0 14 (nI g154.1)) (fun g157 =>
  ck (rkb g157 p0) (ck (rkb g157 p1) (ck (decide (0 ≤ (0 : Int32)) && ngw g157 (ix (0 : Int32))) (stp (gnew g157 4 (ix (0 : Int32)) (fun _ => 0)) (fun g158 =>
  ck (gk g158 p0 0 && (rkb g158 g157.1 && decide (g157.1 < 2147483648))) (stp (gu g158 p0 15 (nI g157.1)) (fun g160 =>
  ck (gk g160 p0 0 && (rkb g160 1000000 && decide (1000000 < 2147483648))) (stp (gu g160 p0 16 (nI 1000000)) (fun g161 =>
  ck (gk g161 p1 1) (bnd (fp_X12_next g161 p1 (20 : Int32)) (fun u162 =>
  ck (decide (u162.2.1 = g161.1)) (ck (gk u162.2 p0 0) (stp (gu u162.2 p0 1 u162.1) (fun g163 =>
  ck (gk g163 p1 1) (bnd (fp_X12_next g163 p1 (3 : Int32)) (fun u164 =>
  ck (decide (u164.2.1 = g163.1)) (ck (gk u164.2 p0 0) (stp (gu u164.2 p0 2 ((1 : Int32) + u164.1)) (fun g165 =>
  Lp (Fp_X11_init_114 p0 p1) FU ((0 : Int32), g165, 10)))))))))))))))))))))))))))))))))))))))))))))))))))))))))))))))))))))))))
def fp_X11_from (g : PL) (p0 : Nat) (p1 : Int32) : Option (Int32) :=
  if p1 = 0 then (
  ckn (gk g p0 0) (g.2.2 p0 12) (fun q4 =>
  ck (gk g q4 4 && inb p1 (gl g q4)) (
  some (imax (0 : Int32) (-(g.2.2 q4 (ix p1)))))))
  else (
  ckn (gk g p0 0) (g.2.2 p0 10) (fun q1 =>
  ck (gk g q1 4 && inb (p1 - (1 : Int32)) (gl g q1)) (
  ckn (gk g p0 0) (g.2.2 p0 11) (fun q2 =>
  ck (gk g q2 4 && inb (p1 - (1 : Int32)) (gl g q2)) (
  ckn (gk g p0 0) (g.2.2 p0 12) (fun q3 =>
  ck (gk g q3 4 && inb p1 (gl g q3)) (
  some (imax (g.2.2 q1 (ix (p1 - (1 : Int32)))) (g.2.2 q2 (ix (p1 - (1 : Int32))) - g.2.2 q3 (ix p1))))))))))
def fp_X11_to (g : PL) (p0 : Nat) (p1 : Int32) : Option (Int32) :=
  ck (gk g p0 0) (
  if p1 = (g.2.2 p0 7 - (1 : Int32)) then (
  ck (gk g p0 0) (
  some (g.2.2 p0 0)))
  else (
  ckn (gk g p0 0) (g.2.2 p0 9) (fun q1 =>
  ck (gk g q1 4 && inb (p1 + (1 : Int32)) (gl g q1)) (
  ckn (gk g p0 0) (g.2.2 p0 11) (fun q2 =>
  ck (gk g q2 4 && inb p1 (gl g q2)) (
  ckn (gk g p0 0) (g.2.2 p0 13) (fun q3 =>
  ck (gk g q3 4 && inb p1 (gl g q3)) (
  some (imin (g.2.2 q1 (ix (p1 + (1 : Int32)))) (g.2.2 q2 (ix p1) + g.2.2 q3 (ix p1)))))))))))
def Fp_X11_filmLength_13 (g : PL) (p0 : Nat) (x2 : Nat) (x3 : Int32) (r13 : Int32 × Int32 → Option (Int32)) : Int32 × Int32 → Option (Int32) := fun ⟨x1, x4⟩ =>
  if x4 < x3 then (
  ck (gk g x2 4 && inb x4 (gl g x2)) (
  stp (g.2.2 x2 (ix x4)) (fun v1 =>
  ck (gk g p0 0) (bnd (fp_X11_to g p0 v1) (fun u2 =>
  ck (gk g p0 0) (bnd (fp_X11_from g p0 v1) (fun u3 =>
  stp ((x1 + (u2 - u3))) (fun v4 =>
  stp (x4 + 1) (fun v5 =>
  r13 (v4, v5))))))))))
  else (
  some x1)
def fp_X11_filmLength (g : PL) (p0 : Nat) : Option (Int32) :=
  ckn (gk g p0 0) (g.2.2 p0 15) (fun q6 =>
  ck (gk g q6 4) (
  stp ((nI (gl g q6))) (fun v7 =>
  Lp (Fp_X11_filmLength_13 g p0 q6 v7) FU ((0 : Int32), (0 : Int32)))))
def Fp_X11_shotOf_2 (g : PL) (p0 : Nat) (p1 : Int32) (r2 : Int32 → Option (Int32)) : Int32 → Option (Int32) := fun x2 =>
  ckn (gk g p0 0) (g.2.2 p0 15) (fun q1 =>
  ck (gk g q1 4) (
  if x2 < (nI (gl g q1)) then (
  ckn (gk g p0 0) (g.2.2 p0 15) (fun q2 =>
  ck (gk g q2 4 && inb x2 (gl g q2)) (
  if g.2.2 q2 (ix x2) = p1 then (
  some x2)
  else (
  stp (x2 + 1) (fun v3 =>
  r2 v3)))))
  else (
  some (-1 : Int32))))
def fp_X11_shotOf (g : PL) (p0 : Nat) (p1 : Int32) : Option (Int32) :=
  Lp (Fp_X11_shotOf_2 g p0 p1) FU (0 : Int32)
def fp_X11_state (g : PL) (p0 : Nat) (p1 : Int32) : Option (Int32) :=
  ckn (gk g p0 0) (g.2.2 p0 14) (fun q1 =>
  ck (gk g q1 5 && inb p1 (gl g q1)) (
  if g.2.2 q1 (ix p1) = 0 then (
  some (0 : Int32))
  else (
  ckn (gk g p0 0) (g.2.2 p0 3) (fun q2 =>
  ckn (gk g q2 7 && inb p1 (gl g q2)) (g.2.2 q2 (ix p1)) (fun q3 =>
  ck (gk g q3 4 && inb (4 : Int32) (gl g q3)) (
  ck (gk g p0 0) (bnd (fp_X11_shotOf g p0 (g.2.2 q3 (ix (4 : Int32)))) (fun u4 =>
  if 0 ≤ u4 then (
  some (1 : Int32))
  else (
  some (2 : Int32))))))))))
def Jp_X11_transcript_87 (p0 : Nat) (g : PL) (x1 : Nat) (x2 : Int32) : Option (Nat × PL) :=
  ck (rkb g x1) (ck (decide (0 ≤ x2) && ngw g (ix x2)) (stp (gnew g 4 (ix x2) (fun _ => 0)) (fun g1 =>
  ck ((gk g1 x1 4 && gk g1 g.1 4) && cpok (0 : Int32) (0 : Int32) x2 (gl g1 x1) (gl g1 g.1)) (stp (gcp g1 (g1.2.2 x1) g.1 (0 : Int32) (0 : Int32) x2) (fun g3 =>
  some (g.1, g3))))))
def Jp_X11_transcript_81 (p0 : Nat) (g : PL) (r21 : Int32 × Int32 × PL → Option (Nat × PL)) (x1 : Nat) (x2 : Int32) (x3 : Nat) (x4 : Int32) (x5 : Int32) : Option (Nat × PL) :=
  stp (x5 + 1) (fun v4 =>
  r21 (x2, v4, g))
def Jp_X11_transcript_75 (p0 : Nat) (g : PL) (r21 : Int32 × Int32 × PL → Option (Nat × PL)) (r43 : Int32 × Int32 × PL → Option (Nat × PL)) (x1 : Nat) (x2 : Int32) (x3 : Nat) (x4 : Int32) (x5 : Int32) (x6 : Int32) (x7 : Int32) : Option (Nat × PL) :=
  stp (x7 + 1) (fun v5 =>
  r43 (x2, v5, g))
def Fp_X11_transcript_43 (p0 : Nat) (r21 : Int32 × Int32 × PL → Option (Nat × PL)) (x1 : Nat) (x3 : Nat) (x4 : Int32) (x5 : Int32) (x6 : Int32) (r43 : Int32 × Int32 × PL → Option (Nat × PL)) : Int32 × Int32 × PL → Option (Nat × PL) := fun ⟨x2, x7, g⟩ =>
  ckn (gk g p0 0) (g.2.2 p0 8) (fun q6 =>
  ck (gk g q6 4 && inb (x6 + (1 : Int32)) (gl g q6)) (
  if x7 < g.2.2 q6 (ix (x6 + (1 : Int32))) then (
  ckn (gk g p0 0) (g.2.2 p0 14) (fun q7 =>
  ck (gk g q7 5 && inb x7 (gl g q7)) (
  if g.2.2 q7 (ix x7) = 0 then (
  stp (x2 + 1) (fun v8 =>
  ck (gk g x1 4 && inb x2 (gl g x1)) (stp (gu g x1 (ix x2) x7) (fun g9 =>
  Jp_X11_transcript_75 p0 g9 r21 r43 x1 v8 x3 x4 x5 x6 x7))))
  else (
  Jp_X11_transcript_75 p0 g r21 r43 x1 x2 x3 x4 x5 x6 x7))))
  else (
  Jp_X11_transcript_81 p0 g r21 x1 x2 x3 x4 x5)))
def Fp_X11_transcript_21 (p0 : Nat) (x1 : Nat) (x3 : Nat) (x4 : Int32) (r21 : Int32 × Int32 × PL → Option (Nat × PL)) : Int32 × Int32 × PL → Option (Nat × PL) := fun ⟨x2, x5, g⟩ =>
  if x5 < x4 then (
  ck (gk g x3 4 && inb x5 (gl g x3)) (
  stp (g.2.2 x3 (ix x5)) (fun v10 =>
  ckn (gk g p0 0) (g.2.2 p0 8) (fun q11 =>
  ck (gk g q11 4 && inb v10 (gl g q11)) (
  stp (g.2.2 q11 (ix v10)) (fun v12 =>
  Lp (Fp_X11_transcript_43 p0 r21 x1 x3 x4 x5 v10) FU (x2, v12, g)))))))
  else (
  Jp_X11_transcript_87 p0 g x1 x2)
def fp_X11_transcript (g : PL) (p0 : Nat) : Option (Nat × PL) :=
  ck (gk g p0 0) (
  ck (rkb g p0) (ck (decide (0 ≤ g.2.2 p0 5) && ngw g (ix (g.2.2 p0 5))) (stp (gnew g 4 (ix (g.2.2 p0 5)) (fun _ => 0)) (fun g13 =>
  ckn (gk g13 p0 0) (g13.2.2 p0 15) (fun q15 =>
  ck (gk g13 q15 4) (
  stp ((nI (gl g13 q15))) (fun v16 =>
  Lp (Fp_X11_transcript_21 p0 g.1 q15 v16) FU ((0 : Int32), (0 : Int32), g13))))))))
def Jp_X11_cutOne_115 (p0 : Nat) (p1 : Int32) (g : PL) (x4 : Nat) : Option (PL) :=
  ck (gk g p0 0 && (rkb g x4 && decide (x4 < 2147483648))) (stp (gu g p0 15 (nI x4)) (fun g1 =>
  some g1))
def Jp_X11_cutOne_107 (p0 : Nat) (p1 : Int32) (g : PL) (r76 : Int32 × PL → Option (PL)) (x3 : Int32) (x4 : Nat) (x5 : Int32) (s0 : Nat) (s1 : Int32) (s2 : Nat) (s3 : Int32) : Option (PL) :=
  ck (gk g s2 4 && inb s3 (gl g s2)) (
  ck (gk g s0 4 && inb s1 (gl g s0)) (stp (gu g s0 (ix s1) (g.2.2 s2 (ix s3))) (fun g2 =>
  stp (x5 + 1) (fun v3 =>
  r76 (v3, g2)))))
def Fp_X11_cutOne_76 (p0 : Nat) (p1 : Int32) (x3 : Int32) (x4 : Nat) (r76 : Int32 × PL → Option (PL)) : Int32 × PL → Option (PL) := fun ⟨x5, g⟩ =>
  ck (gk g x4 4) (
  if x5 < (nI (gl g x4)) then (
  ckn (gk g p0 0) (g.2.2 p0 15) (fun q4 =>
  if x5 < x3 then (
  Jp_X11_cutOne_107 p0 p1 g r76 x3 x4 x5 x4 x5 q4 x5)
  else (
  Jp_X11_cutOne_107 p0 p1 g r76 x3 x4 x5 x4 x5 q4 (x5 + (1 : Int32)))))
  else (
  Jp_X11_cutOne_115 p0 p1 g x4))
def Jp_X11_cutOne_51 (p0 : Nat) (p1 : Int32) (g : PL) (x2 : Int32) : Option (PL) :=
  ck (gk g p0 0) (bnd (fp_X11_shotOf g p0 x2) (fun u5 =>
  if 0 ≤ u5 then (
  ckn (gk g p0 0) (g.2.2 p0 15) (fun q6 =>
  ck (gk g q6 4) (
  ck (rkb g p0) (ck (decide (0 ≤ ((nI (gl g q6)) - (1 : Int32))) && ngw g (ix ((nI (gl g q6)) - (1 : Int32)))) (stp (gnew g 4 (ix ((nI (gl g q6)) - (1 : Int32))) (fun _ => 0)) (fun g7 =>
  Lp (Fp_X11_cutOne_76 p0 p1 u5 g.1) FU ((0 : Int32), g7)))))))
  else (
  some g)))
def Fp_X11_cutOne_23 (p0 : Nat) (p1 : Int32) (g : PL) (x2 : Int32) (r23 : Int32 → Option (PL)) : Int32 → Option (PL) := fun x3 =>
  ckn (gk g p0 0) (g.2.2 p0 8) (fun q9 =>
  ck (gk g q9 4 && inb (x2 + (1 : Int32)) (gl g q9)) (
  if x3 < g.2.2 q9 (ix (x2 + (1 : Int32))) then (
  ckn (gk g p0 0) (g.2.2 p0 14) (fun q10 =>
  ck (gk g q10 5 && inb x3 (gl g q10)) (
  if g.2.2 q10 (ix x3) = 0 then (
  some g)
  else (
  stp (x3 + 1) (fun v11 =>
  r23 v11)))))
  else (
  Jp_X11_cutOne_51 p0 p1 g x2)))
def fp_X11_cutOne (g : PL) (p0 : Nat) (p1 : Int32) : Option (PL) :=
  ckn (gk g p0 0) (g.2.2 p0 14) (fun q12 =>
  ck (gk g q12 5 && inb p1 (gl g q12)) (stp (gu g q12 (ix p1) (1 : Int32)) (fun g13 =>
  ckn (gk g13 p0 0) (g13.2.2 p0 3) (fun q14 =>
  ckn (gk g13 q14 7 && inb p1 (gl g13 q14)) (g13.2.2 q14 (ix p1)) (fun q15 =>
  ck (gk g13 q15 4 && inb (4 : Int32) (gl g13 q15)) (
  stp (g13.2.2 q15 (ix (4 : Int32))) (fun v16 =>
  ckn (gk g13 p0 0) (g13.2.2 p0 8) (fun q17 =>
  ck (gk g13 q17 4 && inb v16 (gl g13 q17)) (
  stp (g13.2.2 q17 (ix v16)) (fun v18 =>
  Lp (Fp_X11_cutOne_23 p0 p1 g13 v16) FU v18))))))))))
def Jp_X11_putShot_65 (p0 : Nat) (p1 : Int32) (p2 : Int32) (g : PL) (x3 : Nat) : Option (PL) :=
  ck (gk g p0 0 && (rkb g x3 && decide (x3 < 2147483648))) (stp (gu g p0 15 (nI x3)) (fun g1 =>
  some g1))
def Jp_X11_putShot_58 (p0 : Nat) (p1 : Int32) (p2 : Int32) (g : PL) (r13 : Int32 × PL → Option (PL)) (x3 : Nat) (x4 : Int32) (s0 : Nat) (s1 : Int32) (s2 : Int32) : Option (PL) :=
  ck (gk g s0 4 && inb s1 (gl g s0)) (stp (gu g s0 (ix s1) s2) (fun g2 =>
  stp (x4 + 1) (fun v3 =>
  r13 (v3, g2))))
def Fp_X11_putShot_13 (p0 : Nat) (p1 : Int32) (p2 : Int32) (x3 : Nat) (r13 : Int32 × PL → Option (PL)) : Int32 × PL → Option (PL) := fun ⟨x4, g⟩ =>
  ck (gk g x3 4) (
  if x4 < (nI (gl g x3)) then (
  if x4 < p1 then (
  ckn (gk g p0 0) (g.2.2 p0 15) (fun q5 =>
  ck (gk g q5 4 && inb x4 (gl g q5)) (
  Jp_X11_putShot_58 p0 p1 p2 g r13 x3 x4 x3 x4 (g.2.2 q5 (ix x4)))))
  else (
  if x4 = p1 then (
  Jp_X11_putShot_58 p0 p1 p2 g r13 x3 x4 x3 x4 p2)
  else (
  ckn (gk g p0 0) (g.2.2 p0 15) (fun q4 =>
  ck (gk g q4 4 && inb (x4 - (1 : Int32)) (gl g q4)) (
  Jp_X11_putShot_58 p0 p1 p2 g r13 x3 x4 x3 x4 (g.2.2 q4 (ix (x4 - (1 : Int32)))))))))
  else (
  Jp_X11_putShot_65 p0 p1 p2 g x3))
def fp_X11_putShot (g : PL) (p0 : Nat) (p1 : Int32) (p2 : Int32) : Option (PL) :=
  ckn (gk g p0 0) (g.2.2 p0 15) (fun q6 =>
  ck (gk g q6 4) (
  ck (rkb g p0) (ck (decide (0 ≤ ((nI (gl g q6)) + (1 : Int32))) && ngw g (ix ((nI (gl g q6)) + (1 : Int32)))) (stp (gnew g 4 (ix ((nI (gl g q6)) + (1 : Int32))) (fun _ => 0)) (fun g7 =>
  Lp (Fp_X11_putShot_13 p0 p1 p2 g.1) FU ((0 : Int32), g7))))))
def Jp_X11_restoreOne_90 (p0 : Nat) (p1 : Int32) (g : PL) (x2 : Int32) (s0 : Nat) (s1 : Int32) : Option (PL) :=
  ck (rkb g p0) (ck (gk g s0 0) (bnd (fp_X11_putShot g s0 s1 x2) (fun u1 =>
  ckn (gk u1 p0 0) (u1.2.2 p0 12) (fun q3 =>
  ck (gk u1 q3 4 && inb x2 (gl u1 q3)) (stp (gu u1 q3 (ix x2) (0 : Int32)) (fun g4 =>
  ckn (gk g4 p0 0) (g4.2.2 p0 13) (fun q5 =>
  ck (gk g4 q5 4 && inb x2 (gl g4 q5)) (stp (gu g4 q5 (ix x2) (0 : Int32)) (fun g6 =>
  some g6)))))))))
def Jp_X11_restoreOne_74 (p0 : Nat) (p1 : Int32) (g : PL) (x2 : Int32) (x3 : Int32) : Option (PL) :=
  if 0 ≤ x3 then (
  ck (gk g p0 0) (bnd (fp_X11_shotOf g p0 x3) (fun u7 =>
  Jp_X11_restoreOne_90 p0 p1 g x2 p0 (u7 + (1 : Int32)))))
  else (
  Jp_X11_restoreOne_90 p0 p1 g x2 p0 (0 : Int32))
def Jp_X11_restoreOne_68 (p0 : Nat) (p1 : Int32) (g : PL) (r41 : Int32 × Int32 → Option (PL)) (x2 : Int32) (x3 : Int32) (x4 : Nat) (x5 : Int32) (x6 : Int32) : Option (PL) :=
  stp (x6 + 1) (fun v8 =>
  r41 (x3, v8))
def Fp_X11_restoreOne_41 (p0 : Nat) (p1 : Int32) (g : PL) (x2 : Int32) (x4 : Nat) (x5 : Int32) (r41 : Int32 × Int32 → Option (PL)) : Int32 × Int32 → Option (PL) := fun ⟨x3, x6⟩ =>
  if x6 < x5 then (
  ck (gk g x4 4 && inb x6 (gl g x4)) (
  stp (g.2.2 x4 (ix x6)) (fun v9 =>
  if v9 < x2 then (
  stp ((imax x3 v9)) (fun v10 =>
  Jp_X11_restoreOne_68 p0 p1 g r41 x2 v10 x4 x5 x6))
  else (
  Jp_X11_restoreOne_68 p0 p1 g r41 x2 x3 x4 x5 x6))))
  else (
  Jp_X11_restoreOne_74 p0 p1 g x2 x3)
def fp_X11_restoreOne (g : PL) (p0 : Nat) (p1 : Int32) : Option (PL) :=
  ckn (gk g p0 0) (g.2.2 p0 14) (fun q11 =>
  ck (gk g q11 5 && inb p1 (gl g q11)) (stp (gu g q11 (ix p1) (0 : Int32)) (fun g12 =>
  ckn (gk g12 p0 0) (g12.2.2 p0 3) (fun q13 =>
  ckn (gk g12 q13 7 && inb p1 (gl g12 q13)) (g12.2.2 q13 (ix p1)) (fun q14 =>
  ck (gk g12 q14 4 && inb (4 : Int32) (gl g12 q14)) (
  stp (g12.2.2 q14 (ix (4 : Int32))) (fun v15 =>
  ck (gk g12 p0 0) (bnd (fp_X11_shotOf g12 p0 v15) (fun u16 =>
  if u16 < 0 then (
  ckn (gk g12 p0 0) (g12.2.2 p0 15) (fun q17 =>
  ck (gk g12 q17 4) (
  stp ((nI (gl g12 q17))) (fun v18 =>
  Lp (Fp_X11_restoreOne_41 p0 p1 g12 v15 q17 v18) FU ((-1 : Int32), (0 : Int32))))))
  else (
  some g12))))))))))
def Jp_X11_move_153 (p0 : Nat) (p1 : Int32) (p2 : Int32) (p3 : Int32) (g : PL) (x4 : Int32) (x5 : Nat) (x7 : Int32) : Option (Int32 × PL) :=
  ckn (gk g p0 0) (g.2.2 p0 12) (fun q1 =>
  ck (gk g x5 4 && inb (0 : Int32) (gl g x5)) (
  ck (gk g p0 0) (
  ck (gk g q1 4 && inb (g.2.2 x5 (ix (0 : Int32))) (gl g q1)) (stp (gu g q1 (ix (g.2.2 x5 (ix (0 : Int32)))) (g.2.2 p0 1)) (fun g2 =>
  ckn (gk g2 p0 0) (g2.2.2 p0 13) (fun q3 =>
  ck (gk g2 x5 4 && inb (x4 - (1 : Int32)) (gl g2 x5)) (
  ck (gk g2 p0 0) (
  ck (gk g2 q3 4 && inb (g2.2.2 x5 (ix (x4 - (1 : Int32)))) (gl g2 q3)) (stp (gu g2 q3 (ix (g2.2.2 x5 (ix (x4 - (1 : Int32))))) (g2.2.2 p0 1)) (fun g4 =>
  some (x7, g4)))))))))))
def Fp_X11_move_126 (p0 : Nat) (p1 : Int32) (p2 : Int32) (p3 : Int32) (x4 : Int32) (x5 : Nat) (x7 : Int32) (r126 : Int32 × PL × Nat → Option (Int32 × PL)) : Int32 × PL × Nat → Option (Int32 × PL) := fun ⟨x8, g, k⟩ =>
  if x8 < x4 then (
  ck (gk g x5 4 && inb x8 (gl g x5)) (
  ck (rkb g p0) (ck (rkb g x5) (ck (decide (k + 1 ≤ 7)) (ck (gk g p0 0) (bnd (fp_X11_putShot g p0 (x7 + x8) (g.2.2 x5 (ix x8))) (fun u5 =>
  stp (x8 + 1) (fun v7 =>
  ck (decide (k + 1 ≤ 7)) (r126 (v7, u5, (k + 1)))))))))))
  else (
  Jp_X11_move_153 p0 p1 p2 p3 g x4 x5 x7)
def Jp_X11_move_115 (p0 : Nat) (p1 : Int32) (p2 : Int32) (p3 : Int32) (g : PL) (x4 : Int32) (x5 : Nat) (x6 : Nat) (s0 : Int32) : Option (Int32 × PL) :=
  ck (gk g p0 0 && (rkb g x6 && decide (x6 < 2147483648))) (stp (gu g p0 15 (nI x6)) (fun g8 =>
  Lp (Fp_X11_move_126 p0 p1 p2 p3 x4 x5 s0) FU ((0 : Int32), g8, 2)))
def Jp_X11_move_98 (p0 : Nat) (p1 : Int32) (p2 : Int32) (p3 : Int32) (g : PL) (x4 : Int32) (x5 : Nat) (x6 : Nat) : Option (Int32 × PL) :=
  if p3 < p1 then (
  Jp_X11_move_115 p0 p1 p2 p3 g x4 x5 x6 (p3 + (1 : Int32)))
  else (
  Jp_X11_move_115 p0 p1 p2 p3 g x4 x5 x6 ((p3 + (1 : Int32)) - x4))
def Jp_X11_move_90 (p0 : Nat) (p1 : Int32) (p2 : Int32) (p3 : Int32) (g : PL) (r58 : Int32 × PL → Option (Int32 × PL)) (x4 : Int32) (x5 : Nat) (x6 : Nat) (x7 : Int32) (s0 : Nat) (s1 : Int32) (s2 : Nat) (s3 : Int32) : Option (Int32 × PL) :=
  ck (gk g s2 4 && inb s3 (gl g s2)) (
  ck (gk g s0 4 && inb s1 (gl g s0)) (stp (gu g s0 (ix s1) (g.2.2 s2 (ix s3))) (fun g9 =>
  stp (x7 + 1) (fun v10 =>
  r58 (v10, g9)))))
def Fp_X11_move_58 (p0 : Nat) (p1 : Int32) (p2 : Int32) (p3 : Int32) (x4 : Int32) (x5 : Nat) (x6 : Nat) (r58 : Int32 × PL → Option (Int32 × PL)) : Int32 × PL → Option (Int32 × PL) := fun ⟨x7, g⟩ =>
  ck (gk g x6 4) (
  if x7 < (nI (gl g x6)) then (
  ckn (gk g p0 0) (g.2.2 p0 15) (fun q11 =>
  if x7 < p1 then (
  Jp_X11_move_90 p0 p1 p2 p3 g r58 x4 x5 x6 x7 x6 x7 q11 x7)
  else (
  Jp_X11_move_90 p0 p1 p2 p3 g r58 x4 x5 x6 x7 x6 x7 q11 (x7 + x4))))
  else (
  Jp_X11_move_98 p0 p1 p2 p3 g x4 x5 x6))
def Jp_X11_move_43 (p0 : Nat) (p1 : Int32) (p2 : Int32) (p3 : Int32) (g : PL) (x4 : Int32) (x5 : Nat) : Option (Int32 × PL) :=
  ckn (gk g p0 0) (g.2.2 p0 15) (fun q12 =>
  ck (gk g q12 4) (
  ck (rkb g p0) (ck (rkb g x5) (ck (decide (0 ≤ ((nI (gl g q12)) - x4)) && ngw g (ix ((nI (gl g q12)) - x4))) (stp (gnew g 4 (ix ((nI (gl g q12)) - x4)) (fun _ => 0)) (fun g13 =>
  Lp (Fp_X11_move_58 p0 p1 p2 p3 x4 x5 g.1) FU ((0 : Int32), g13)))))))
def Fp_X11_move_16 (p0 : Nat) (p1 : Int32) (p2 : Int32) (p3 : Int32) (x4 : Int32) (x5 : Nat) (r16 : Int32 × PL → Option (Int32 × PL)) : Int32 × PL → Option (Int32 × PL) := fun ⟨x6, g⟩ =>
  if x6 < x4 then (
  ckn (gk g p0 0) (g.2.2 p0 15) (fun q15 =>
  ck (gk g q15 4 && inb (p1 + x6) (gl g q15)) (
  ck (gk g x5 4 && inb x6 (gl g x5)) (stp (gu g x5 (ix x6) (g.2.2 q15 (ix (p1 + x6)))) (fun g16 =>
  stp (x6 + 1) (fun v17 =>
  r16 (v17, g16)))))))
  else (
  Jp_X11_move_43 p0 p1 p2 p3 g x4 x5)
def fp_X11_move (g : PL) (p0 : Nat) (p1 : Int32) (p2 : Int32) (p3 : Int32) : Option (Int32 × PL) :=
  stp (((p2 - p1) + (1 : Int32))) (fun v18 =>
  ck (rkb g p0) (ck (decide (0 ≤ v18) && ngw g (ix v18)) (stp (gnew g 4 (ix v18) (fun _ => 0)) (fun g19 =>
  Lp (Fp_X11_move_16 p0 p1 p2 p3 v18 g.1) FU ((0 : Int32), g19)))))
def Jp_L_four_32 (g : PL) (p0 : Nat) (p1 : Int32) (r4 : Int32 × Int32 → Option (Int32)) (x3 : Int32) (s0 : Int32) (s1 : Int32) : Option (Int32) :=
  stp ((s0 ||| s1)) (fun v1 =>
  stp (x3 + 1) (fun v2 =>
  r4 (v1, v2)))
def Fp_L_four_4 (g : PL) (p0 : Nat) (p1 : Int32) (r4 : Int32 × Int32 → Option (Int32)) : Int32 × Int32 → Option (Int32) := fun ⟨x2, x3⟩ =>
  if x3 < (p1 + (4 : Int32)) then (
  ck (sOK g p0 && decide (sLen g p0 < 2147483648)) (
  if x3 < (nI (sLen g p0)) then (
  ck (((sOK g p0 && decide (¬ 1000000 ≤ p0)) && inb x3 (sLen g p0)) && decide (sLen g p0 < 2147483648)) (
  Jp_L_four_32 g p0 p1 r4 x3 (x2 <<< ((8 : Int32) &&& 31)) (sB g p0 (ix x3) &&& 255)))
  else (
  Jp_L_four_32 g p0 p1 r4 x3 (x2 <<< ((8 : Int32) &&& 31)) (0 : Int32))))
  else (
  some x2)
def fp_L_four (g : PL) (p0 : Nat) (p1 : Int32) : Option (Int32) :=
  Lp (Fp_L_four_4 g p0 p1) FU ((0 : Int32), p1)
def Jp_L_text_65 (g : PL) (p1 : Nat) (h : Hp) : Option (Int32 × Hp) :=
  ck (sOK g p1 && decide (sLen g p1 < 2147483648)) (
  bnd (f_X10_truncate h (nI (sLen g p1))) (fun u1 =>
  ck (zb u1.1) (some (u1.1, u1.2))))
def Fp_L_text_2 (g : PL) (p1 : Nat) (r2 : Int32 × Hp → Option (Int32 × Hp)) : Int32 × Hp → Option (Int32 × Hp) := fun ⟨x2, h⟩ =>
  ck (sOK g p1 && decide (sLen g p1 < 2147483648)) (
  if x2 < (nI (sLen g p1)) then (
  bnd (fp_L_four g p1 x2) (fun u2 =>
  bnd (fp_L_four g p1 (x2 + (4 : Int32))) (fun u3 =>
  bnd (fp_L_four g p1 (x2 + (8 : Int32))) (fun u4 =>
  bnd (fp_L_four g p1 (x2 + (12 : Int32))) (fun u5 =>
  bnd (fp_L_four g p1 (x2 + (16 : Int32))) (fun u6 =>
  bnd (f_X10_append h u2 u3 u4 u5 u6) (fun u7 =>
  if u7.1 = (x2 + (20 : Int32)) then (
  stp (x2 + 20) (fun v8 =>
  r2 (v8, u7.2)))
  else (
  some ((0 : Int32), u7.2)))))))))
  else (
  Jp_L_text_65 g p1 h))
def fp_L_text (h : Hp) (g : PL) (p1 : Nat) : Option (Int32 × Hp) :=
  Lp (Fp_L_text_2 g p1) FU ((0 : Int32), h)
def Jp_L_isAs_282 (h : Hp) (g : PL) (p1 : Nat) : Option (Int32) :=
  ckn (gk g p1 0) (g.2.2 p1 15) (fun q1 =>
  ck (gk g q1 4) (
  bnd (ask3 h (nI (gl g q1)) (0 : Int32) (0 : Int32)) (fun u2 => 
  if u2.2.1 = (-2000000050 : Int32) then (
  some (1 : Int32))
  else (
  some (0 : Int32)))))
def Jp_L_isAs_271 (h : Hp) (g : PL) (p1 : Nat) (r143 : Int32 → Option (Int32)) (x3 : Int32) (s0 : Int32) (s1 : Int32) : Option (Int32) :=
  if s0 = s1 then (
  stp (x3 + 1) (fun v3 =>
  r143 v3))
  else (
  some (0 : Int32))
def Fp_L_isAs_143 (h : Hp) (g : PL) (p1 : Nat) (r143 : Int32 → Option (Int32)) : Int32 → Option (Int32) := fun x3 =>
  ck (gk g p1 0) (
  if x3 < g.2.2 p1 7 then (
  bnd (ask2 h x3 (0 : Int32) (0 : Int32)) (fun u4 => ck (decide (u4.1 = 0)) (
  ckn (gk g p1 0) (g.2.2 p1 9) (fun q5 =>
  ck (gk g q5 4 && inb x3 (gl g q5)) (
  if u4.2.1 = g.2.2 q5 (ix x3) then (
  bnd (ask2 h x3 (1 : Int32) (0 : Int32)) (fun u6 => ck (decide (u6.1 = 0)) (
  ckn (gk g p1 0) (g.2.2 p1 10) (fun q7 =>
  ck (gk g q7 4 && inb x3 (gl g q7)) (
  if u6.2.1 = g.2.2 q7 (ix x3) then (
  bnd (ask2 h x3 (6 : Int32) (0 : Int32)) (fun u8 => ck (decide (u8.1 = 0)) (
  ckn (gk g p1 0) (g.2.2 p1 12) (fun q9 =>
  ck (gk g q9 4 && inb x3 (gl g q9)) (
  if u8.2.1 = g.2.2 q9 (ix x3) then (
  bnd (ask2 h x3 (7 : Int32) (0 : Int32)) (fun u10 => ck (decide (u10.1 = 0)) (
  ckn (gk g p1 0) (g.2.2 p1 13) (fun q11 =>
  ck (gk g q11 4 && inb x3 (gl g q11)) (
  if u10.2.1 = g.2.2 q11 (ix x3) then (
  bnd (ask2 h x3 (8 : Int32) (0 : Int32)) (fun u12 => ck (decide (u12.1 = 0)) (
  ck (gk g p1 0) (bnd (fp_X11_shotOf g p1 x3) (fun u13 =>
  if u12.2.1 = u13 then (
  bnd (ask2 h x3 (5 : Int32) (0 : Int32)) (fun u14 => ck (decide (u14.1 = 0)) (
  ck (gk g p1 0) (
  if x3 = (g.2.2 p1 7 - (1 : Int32)) then (
  ck (gk g p1 0) (
  Jp_L_isAs_271 h g p1 r143 x3 u14.2.1 (g.2.2 p1 0)))
  else (
  ckn (gk g p1 0) (g.2.2 p1 11) (fun q15 =>
  ck (gk g q15 4 && inb x3 (gl g q15)) (
  Jp_L_isAs_271 h g p1 r143 x3 u14.2.1 (g.2.2 q15 (ix x3)))))))))
  else (
  some (0 : Int32)))))))
  else (
  some (0 : Int32)))))))
  else (
  some (0 : Int32)))))))
  else (
  some (0 : Int32)))))))
  else (
  some (0 : Int32)))))))
  else (
  Jp_L_isAs_282 h g p1))
def Jp_L_isAs_141 (h : Hp) (g : PL) (p1 : Nat) : Option (Int32) :=
  Lp (Fp_L_isAs_143 h g p1) FU (0 : Int32)
def Fp_L_isAs_41 (h : Hp) (g : PL) (p1 : Nat) (r41 : Int32 × Int32 → Option (Int32)) : Int32 × Int32 → Option (Int32) := fun ⟨x2, x3⟩ =>
  ckn (gk g p1 0) (g.2.2 p1 15) (fun q16 =>
  ck (gk g q16 4) (
  if x3 < (nI (gl g q16)) then (
  ckn (gk g p1 0) (g.2.2 p1 15) (fun q17 =>
  ck (gk g q17 4 && inb x3 (gl g q17)) (
  stp (g.2.2 q17 (ix x3)) (fun v18 =>
  bnd (ask3 h x3 (0 : Int32) (0 : Int32)) (fun u19 => ck (decide (u19.1 = 0)) (
  if u19.2.1 = v18 then (
  bnd (ask4 h x3 (0 : Int32) (0 : Int32)) (fun u20 => ck (decide (u20.1 = 0)) (
  ck (gk g p1 0) (bnd (fp_X11_from g p1 v18) (fun u21 =>
  if u20.2.1 = u21 then (
  bnd (ask4 h x3 (1 : Int32) (0 : Int32)) (fun u22 => ck (decide (u22.1 = 0)) (
  ck (gk g p1 0) (bnd (fp_X11_to g p1 v18) (fun u23 =>
  if u22.2.1 = u23 then (
  bnd (ask4 h x3 (2 : Int32) (0 : Int32)) (fun u24 => ck (decide (u24.1 = 0)) (
  if u24.2.1 = x2 then (
  ck (gk g p1 0) (bnd (fp_X11_to g p1 v18) (fun u25 =>
  ck (gk g p1 0) (bnd (fp_X11_from g p1 v18) (fun u26 =>
  stp ((x2 + (u25 - u26))) (fun v27 =>
  stp (x3 + 1) (fun v28 =>
  r41 (v27, v28))))))))
  else (
  some (0 : Int32)))))
  else (
  some (0 : Int32)))))))
  else (
  some (0 : Int32)))))))
  else (
  some (0 : Int32))))))))
  else (
  Jp_L_isAs_141 h g p1)))
def fp_L_isAs (h : Hp) (g : PL) (p1 : Nat) : Option (Int32) :=
  bnd (f_X10_shots h) (fun u29 =>
  ckn (gk g p1 0) (g.2.2 p1 15) (fun q30 =>
  ck (gk g q30 4) (
  if u29 = (nI (gl g q30)) then (
  bnd (f_X10_filmLength h) (fun u31 =>
  ck (gk g p1 0) (bnd (fp_X11_filmLength g p1) (fun u32 =>
  if u31 = u32 then (
  bnd (f_X10_count h (3 : Int32)) (fun u33 =>
  ck (gk g p1 0) (
  if u33 = g.2.2 p1 7 then (
  Lp (Fp_L_isAs_41 h g p1) FU ((0 : Int32), (0 : Int32)))
  else (
  some (0 : Int32)))))
  else (
  some (0 : Int32))))))
  else (
  some (0 : Int32)))))
def Jp_L_areWords_165 (h : Hp) (p1 : Nat) (g : PL) : Option (Int32 × PL) :=
  ck (gk g p1 0) (
  bnd (ask1 h (g.2.2 p1 5) (0 : Int32) (0 : Int32)) (fun u1 => 
  if u1.2.1 = (-2000000050 : Int32) then (
  some ((1 : Int32), g))
  else (
  some ((0 : Int32), g))))
def Fp_L_areWords_125 (h : Hp) (p1 : Nat) (g : PL) (x2 : Nat) (r125 : Int32 → Option (Int32 × PL)) : Int32 → Option (Int32 × PL) := fun x3 =>
  ck (gk g x2 4) (
  if x3 < (nI (gl g x2)) then (
  bnd (f_X10_transcriptWord h x3) (fun u2 =>
  ck (gk g x2 4 && inb x3 (gl g x2)) (
  if u2 = g.2.2 x2 (ix x3) then (
  ck (gk g x2 4 && inb x3 (gl g x2)) (
  bnd (ask7 h (g.2.2 x2 (ix x3)) (0 : Int32) (0 : Int32)) (fun u3 => ck (decide (u3.1 = 0)) (
  if u3.2.1 = x3 then (
  stp (x3 + 1) (fun v4 =>
  r125 v4))
  else (
  some ((0 : Int32), g))))))
  else (
  some ((0 : Int32), g)))))
  else (
  Jp_L_areWords_165 h p1 g))
def Jp_L_areWords_97 (h : Hp) (p1 : Nat) (g : PL) : Option (Int32 × PL) :=
  ck (rkb g p1) (ck (gk g p1 0) (bnd (fp_X11_transcript g p1) (fun u5 =>
  bnd (f_X10_transcriptSize h) (fun u7 =>
  ck (gk u5.2 u5.1 4) (
  if u7 = (nI (gl u5.2 u5.1)) then (
  ck (gk u5.2 u5.1 4) (
  bnd (f_X10_transcriptWord h (nI (gl u5.2 u5.1))) (fun u8 =>
  if u8 = (-1 : Int32) then (
  Lp (Fp_L_areWords_125 h p1 u5.2 u5.1) FU (0 : Int32))
  else (
  some ((0 : Int32), u5.2)))))
  else (
  some ((0 : Int32), u5.2)))))))
def Fp_L_areWords_2 (h : Hp) (p1 : Nat) (g : PL) (r2 : Int32 → Option (Int32 × PL)) : Int32 → Option (Int32 × PL) := fun x2 =>
  ck (gk g p1 0) (
  if x2 < g.2.2 p1 5 then (
  ckn (gk g p1 0) (g.2.2 p1 3) (fun q9 =>
  ckn (gk g q9 7 && inb x2 (gl g q9)) (g.2.2 q9 (ix x2)) (fun q10 =>
  bnd (ask1 h x2 (0 : Int32) (0 : Int32)) (fun u11 => ck (decide (u11.1 = 0)) (
  ck (gk g q10 4 && inb (0 : Int32) (gl g q10)) (
  if u11.2.1 = g.2.2 q10 (ix (0 : Int32)) then (
  bnd (ask1 h x2 (1 : Int32) (0 : Int32)) (fun u12 => ck (decide (u12.1 = 0)) (
  ck (gk g q10 4 && inb (2 : Int32) (gl g q10)) (
  if u12.2.1 = g.2.2 q10 (ix (2 : Int32)) then (
  bnd (ask1 h x2 (2 : Int32) (0 : Int32)) (fun u13 => ck (decide (u13.1 = 0)) (
  ck (gk g q10 4 && inb (3 : Int32) (gl g q10)) (
  if u13.2.1 = g.2.2 q10 (ix (3 : Int32)) then (
  bnd (ask1 h x2 (3 : Int32) (0 : Int32)) (fun u14 => ck (decide (u14.1 = 0)) (
  ck (gk g q10 4 && inb (4 : Int32) (gl g q10)) (
  if u14.2.1 = g.2.2 q10 (ix (4 : Int32)) then (
  bnd (ask1 h x2 (4 : Int32) (0 : Int32)) (fun u15 => ck (decide (u15.1 = 0)) (
  ck (gk g p1 0) (bnd (fp_X11_state g p1 x2) (fun u16 =>
  if u15.2.1 = u16 then (
  stp (x2 + 1) (fun v17 =>
  r2 v17))
  else (
  some ((0 : Int32), g)))))))
  else (
  some ((0 : Int32), g))))))
  else (
  some ((0 : Int32), g))))))
  else (
  some ((0 : Int32), g))))))
  else (
  some ((0 : Int32), g))))))))
  else (
  Jp_L_areWords_97 h p1 g))
def fp_L_areWords (h : Hp) (g : PL) (p1 : Nat) : Option (Int32 × PL) :=
  Lp (Fp_L_areWords_2 h p1 g) FU (0 : Int32)
def Jp_L_does_137 (p1 : Nat) (p2 : Nat) (h : Hp) (g : PL) (x5 : Int32) (x6 : Int32) (x7 : Int32) : Option (Int32 × (Hp × PL)) :=
  bnd (ask12 h x5 x6 (0 : Int32)) (fun u1 => ck (decide (u1.1 = 0)) (
  ck (gk g p1 0) (bnd (fp_X11_filmLength g p1) (fun u2 =>
  if u1.2.1 = (x7 - u2) then (
  some ((1 : Int32), (u1.2.2, g)))
  else (
  some ((0 : Int32), (u1.2.2, g)))))))
def Fp_L_does_115 (p1 : Nat) (p2 : Nat) (h : Hp) (x4 : Nat) (x5 : Int32) (x6 : Int32) (x7 : Int32) (r115 : Int32 × PL × Nat → Option (Int32 × (Hp × PL))) : Int32 × PL × Nat → Option (Int32 × (Hp × PL)) := fun ⟨x8, g, k⟩ =>
  if x6 < x8 then (
  Jp_L_does_137 p1 p2 h g x5 x6 x7)
  else (
  ck (gk g x4 4 && inb x8 (gl g x4)) (
  ck (rkb g p1) (ck (rkb g x4) (ck (decide (k + 1 ≤ 7)) (ck (gk g p1 0) (bnd (fp_X11_cutOne g p1 (g.2.2 x4 (ix x8))) (fun u3 =>
  stp (x8 + 1) (fun v5 =>
  ck (decide (k + 1 ≤ 7)) (r115 (v5, u3, (k + 1)))))))))))
def Jp_L_does_280 (p1 : Nat) (p2 : Nat) (h : Hp) (g : PL) (x3 : Int32) (x5 : Int32) (x6 : Int32) : Option (Int32 × (Hp × PL)) :=
  bnd (ask14 h x3 x5 (0 : Int32)) (fun u6 => ck (decide (u6.1 = 0)) (
  if u6.2.1 = x6 then (
  some ((1 : Int32), (u6.2.2, g)))
  else (
  some ((0 : Int32), (u6.2.2, g)))))
def Jp_L_does_274 (p1 : Nat) (p2 : Nat) (h : Hp) (g : PL) (r245 : Int32 × Int32 × PL × Nat → Option (Int32 × (Hp × PL))) (x3 : Int32) (x5 : Int32) (x6 : Int32) (x7 : Int32) (k : Nat) : Option (Int32 × (Hp × PL)) :=
  stp (x7 + 1) (fun v7 =>
  ck (decide (k + 1 ≤ 7)) (r245 (x6, v7, g, (k + 1))))
def Fp_L_does_245 (p1 : Nat) (p2 : Nat) (h : Hp) (x3 : Int32) (x5 : Int32) (r245 : Int32 × Int32 × PL × Nat → Option (Int32 × (Hp × PL))) : Int32 × Int32 × PL × Nat → Option (Int32 × (Hp × PL)) := fun ⟨x6, x7, g, k⟩ =>
  if x5 < x7 then (
  Jp_L_does_280 p1 p2 h g x3 x5 x6)
  else (
  ckn (gk g p1 0) (g.2.2 p1 14) (fun q8 =>
  ck (gk g q8 5 && inb x7 (gl g q8)) (
  if g.2.2 q8 (ix x7) = 0 then (
  Jp_L_does_274 p1 p2 h g r245 x3 x5 x6 x7 k)
  else (
  ck (rkb g p1) (ck (decide (k + 1 ≤ 7)) (ck (gk g p1 0) (bnd (fp_X11_restoreOne g p1 x7) (fun u9 =>
  stp (x6 + 1) (fun v11 =>
  Jp_L_does_274 p1 p2 h u9 r245 x3 x5 v11 x7 k)))))))))
def Jp_L_does_385 (p1 : Nat) (p2 : Nat) (h : Hp) (g : PL) (s0 : Int32) (s1 : Int32) : Option (Int32 × (Hp × PL)) :=
  if s0 = s1 then (
  some ((1 : Int32), (h, g)))
  else (
  some ((0 : Int32), (h, g)))
def Jp_L_does_500 (p1 : Nat) (p2 : Nat) (h : Hp) (g : PL) (x6 : Int32) (x7 : Int32) (x8 : Int32) : Option (Int32 × (Hp × PL)) :=
  ck (gk g p1 0) (bnd (fp_X11_move g p1 x6 x7 x8) (fun u12 =>
  bnd (ask15 h x6 x7 x8) (fun u14 => ck (decide (u14.1 = 0)) (
  if u14.2.1 = u12.1 then (
  some ((1 : Int32), (u14.2.2, u12.2)))
  else (
  some ((0 : Int32), (u14.2.2, u12.2)))))))
def fp_L_does (h : Hp) (g : PL) (p1 : Nat) (p2 : Nat) : Option (Int32 × (Hp × PL)) :=
  ck (gk g p1 0) (
  ck (gk g p2 1) (bnd (fp_X12_next g p2 (g.2.2 p1 5)) (fun u15 =>
  ck (decide (u15.2.1 = g.1)) (ck (rkb u15.2 p1) (ck (rkb u15.2 p2) (ck (gk u15.2 p1 0) (bnd (fp_X11_transcript u15.2 p1) (fun u16 =>
  ck (gk u16.2 p2 1) (bnd (fp_X12_next u16.2 p2 (6 : Int32)) (fun u18 =>
  ck (decide (u18.2.1 = u16.2.1)) (if u18.1 = 0 then (
  ck (gk u18.2 u16.1 4) (
  if (nI (gl u18.2 u16.1)) = 0 then (
  bnd (ask12 h (0 : Int32) (0 : Int32) (0 : Int32)) (fun u23 => 
  if u23.2.1 = (-2000000053 : Int32) then (
  some ((1 : Int32), (u23.2.2, u18.2)))
  else (
  some ((0 : Int32), (u23.2.2, u18.2)))))
  else (
  ck (gk u18.2 u16.1 4) (
  ck (gk u18.2 p2 1) (bnd (fp_X12_next u18.2 p2 (nI (gl u18.2 u16.1))) (fun u19 =>
  ck (decide (u19.2.1 = u18.2.1)) (ck (gk u19.2 u16.1 4) (
  ck (gk u19.2 p2 1) (bnd (fp_X12_next u19.2 p2 (3 : Int32)) (fun u20 =>
  ck (decide (u20.2.1 = u19.2.1)) (stp ((imin ((nI (gl u19.2 u16.1)) - (1 : Int32)) (u19.1 + u20.1))) (fun v21 =>
  ck (gk u20.2 p1 0) (bnd (fp_X11_filmLength u20.2 p1) (fun u22 =>
  Lp (Fp_L_does_115 p1 p2 h u16.1 u19.1 v21 u22) FU (u19.1, u20.2, 2)))))))))))))))
  else (
  if u18.1 = 1 then (
  ckn (gk u18.2 p1 0) (u18.2.2.2 p1 14) (fun q24 =>
  ck (gk u18.2 q24 5 && inb u15.1 (gl u18.2 q24)) (
  if u18.2.2.2 q24 (ix u15.1) = 0 then (
  ck (rkb u18.2 p1) (ck (gk u18.2 p1 0) (bnd (fp_X11_cutOne u18.2 p1 u15.1) (fun u25 =>
  bnd (ask13 h u15.1 (0 : Int32) (0 : Int32)) (fun u27 => ck (decide (u27.1 = 0)) (
  ck (gk u25 p1 0) (bnd (fp_X11_state u25 p1 u15.1) (fun u28 =>
  if u27.2.1 = u28 then (
  some ((1 : Int32), (u27.2.2, u25)))
  else (
  some ((0 : Int32), (u27.2.2, u25)))))))))))
  else (
  bnd (ask13 h u15.1 (0 : Int32) (0 : Int32)) (fun u29 => 
  if u29.2.1 = (-2000000054 : Int32) then (
  some ((1 : Int32), (u29.2.2, u18.2)))
  else (
  some ((0 : Int32), (u29.2.2, u18.2))))))))
  else (
  if u18.1 = 2 then (
  ck (gk u18.2 p1 0) (
  ck (gk u18.2 p2 1) (bnd (fp_X12_next u18.2 p2 (4 : Int32)) (fun u30 =>
  ck (decide (u30.2.1 = u18.2.1)) (stp ((imin (u18.2.2.2 p1 5 - (1 : Int32)) (u15.1 + u30.1))) (fun v31 =>
  Lp (Fp_L_does_245 p1 p2 h u15.1 v31) FU ((0 : Int32), u15.1, u30.2, 2)))))))
  else (
  if u18.1 = 3 then (
  ck (gk u18.2 p1 0) (
  ck (gk u18.2 p2 1) (bnd (fp_X12_next u18.2 p2 (u18.2.2.2 p1 7)) (fun u32 =>
  ck (decide (u32.2.1 = u18.2.1)) (ckn (gk u32.2 p1 0) (u32.2.2.2 p1 12) (fun q33 =>
  ck (gk u32.2 p2 1) (bnd (fp_X12_next u32.2 p2 (25 : Int32)) (fun u34 =>
  ck (decide (u34.2.1 = u32.2.1)) (ck (gk u34.2 q33 4 && inb u32.1 (gl u34.2 q33)) (stp (gu u34.2 q33 (ix u32.1) u34.1) (fun g35 =>
  ckn (gk g35 p1 0) (g35.2.2 p1 13) (fun q36 =>
  ck (gk g35 p2 1) (bnd (fp_X12_next g35 p2 (25 : Int32)) (fun u37 =>
  ck (decide (u37.2.1 = g35.1)) (ck (gk u37.2 q36 4 && inb u32.1 (gl u37.2 q36)) (stp (gu u37.2 q36 (ix u32.1) u37.1) (fun g38 =>
  ckn (gk g38 p1 0) (g38.2.2 p1 12) (fun q39 =>
  ck (gk g38 q39 4 && inb u32.1 (gl g38 q39)) (
  ckn (gk g38 p1 0) (g38.2.2 p1 13) (fun q40 =>
  ck (gk g38 q40 4 && inb u32.1 (gl g38 q40)) (
  bnd (ask16 h u32.1 (g38.2.2 q39 (ix u32.1)) (g38.2.2 q40 (ix u32.1))) (fun u41 => ck (decide (u41.1 = 0)) (
  ck (gk g38 p1 0) (bnd (fp_X11_shotOf g38 p1 u32.1) (fun u42 =>
  if 0 ≤ u42 then (
  ck (gk g38 p1 0) (bnd (fp_X11_to g38 p1 u32.1) (fun u43 =>
  ck (gk g38 p1 0) (bnd (fp_X11_from g38 p1 u32.1) (fun u44 =>
  Jp_L_does_385 p1 p2 u41.2.2 g38 u41.2.1 (u43 - u44))))))
  else (
  Jp_L_does_385 p1 p2 u41.2.2 g38 u41.2.1 (0 : Int32)))))))))))))))))))))))))))
  else (
  ckn (gk u18.2 p1 0) (u18.2.2.2 p1 15) (fun q45 =>
  ck (gk u18.2 q45 4) (
  stp ((nI (gl u18.2 q45))) (fun v46 =>
  if v46 = 0 then (
  bnd (ask15 h (0 : Int32) (0 : Int32) (-1 : Int32)) (fun u53 => 
  if u53.2.1 = (-2000000050 : Int32) then (
  some ((1 : Int32), (u53.2.2, u18.2)))
  else (
  some ((0 : Int32), (u53.2.2, u18.2)))))
  else (
  ck (gk u18.2 p2 1) (bnd (fp_X12_next u18.2 p2 v46) (fun u47 =>
  ck (decide (u47.2.1 = u18.2.1)) (ck (gk u47.2 p2 1) (bnd (fp_X12_next u47.2 p2 (2 : Int32)) (fun u48 =>
  ck (decide (u48.2.1 = u47.2.1)) (stp ((imin (v46 - (1 : Int32)) (u47.1 + u48.1))) (fun v49 =>
  ck (gk u48.2 p2 1) (bnd (fp_X12_next u48.2 p2 (v46 + (1 : Int32))) (fun u50 =>
  ck (decide (u50.2.1 = u48.2.1)) (stp ((u50.1 - (1 : Int32))) (fun v51 =>
  if v51 < u47.1 then (
  Jp_L_does_500 p1 p2 h u50.2 u47.1 v49 v51)
  else (
  if v49 < v51 then (
  Jp_L_does_500 p1 p2 h u50.2 u47.1 v49 v51)
  else (
  bnd (ask15 h u47.1 v49 v51) (fun u52 => 
  if u52.2.1 = (-2000000053 : Int32) then (
  some ((1 : Int32), (u52.2.2, u50.2)))
  else (
  some ((0 : Int32), (u52.2.2, u50.2))))))))))))))))))))))))))))))))))))
