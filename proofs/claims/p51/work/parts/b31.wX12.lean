set_option maxRecDepth 20000 in
set_option maxHeartbeats 1000000 in
theorem c_X12_next {l : Launch} {Z : ZT} {h : Hp} {a : Nat → Nat} {g : PL} {p0 : Nat} {p1 : Int32} {out : Int32 × PL} (hf : fp_X12_next g p0 p1 = some out) : Met l yX12_next (wY yX12_next cX12_next 2 (some .int)) (rmP 1 0) (va_Pc [.ref (ra Z a p0), .int p1] (WdP Z h a g)) (va_Qi (fun r (_ : Unit) => r = out.1) (fun _ => WdP Z h a out.2) (FR Z)) 0 (600 * 0) (FR Z) := by
  refine metZ RX12 rfl (by decide +kernel) (Nat.le_of_ble_eq_true rfl) ?_
  intro p e s m args below meth c C hin hW ls hl
  have hl : lv_has ls 2 [(0, .ref (ra Z a p0)), (1, .int p1)] := hl
  unfold fp_X12_next at hf
  refine W.widen (k := 0) (n := 600 * 0) (Nat.le_refl _) (Nat.le_refl _) ?_
  refine lv_aload_n C.1 C.2.1 dX12_next_0 rfl (lv_at hl 0 rfl) ?_
  refine lv_aload_n C.1 C.2.1 dX12_next_1 rfl (lv_at hl 0 rfl) ?_
  refine zg_X12_7 C hW hf dX12_next_2 (fun hf => ?_)
  refine lv_ldc (v := 1103515245) C.1 C.2.1 C.2.2.2.1 (C.2.2.1 _ mc_X12_13) dX12_next_5 ?_
  refine lv_imul C.1 C.2.1 dX12_next_7 ?_
  refine lv_sipush (v := 12345) C.1 C.2.1 dX12_next_8 (by decide) ?_
  refine lv_iadd C.1 C.2.1 dX12_next_11 ?_
  refine zp_X12_7 C hW hf dX12_next_12 (fun g1 H locs hf hgn hW => ?_)
  refine lv_aload_n C.1 C.2.1 dX12_next_15 rfl (lv_at hl 0 rfl) ?_
  refine zg_X12_7 C hW hf dX12_next_16 (fun hf => ?_)
  refine lv_bipush (v := 16) C.1 C.2.1 dX12_next_19 (by decide) ?_
  refine lv_iushr (v := iushr (g1.2.2 p0 0) (16 : Int32)) C.1 C.2.1 dX12_next_21 rfl ?_
  refine lv_sipush (v := 32767) C.1 C.2.1 dX12_next_22 (by decide) ?_
  refine lv_iand C.1 C.2.1 dX12_next_25 ?_
  refine lv_iload_n C.1 C.2.1 dX12_next_26 rfl (lv_at hl 1 rfl) ?_
  obtain ⟨hz0, hf⟩ := ck_t hf
  have hz0 := of_decide_eq_true hz0
  refine lv_irem C.1 C.2.1 dX12_next_27 hz0 ?_
  obtain rfl := Option.some.inj hf
  exact z_iret C hW dX12_next_28 () rfl (fun _ q => q)
set_option maxRecDepth 20000 in
set_option maxHeartbeats 1000000 in
theorem q_J8_newLength_cabcc_21 {l : Launch} {Z : ZT} {h : Hp} {a : Nat → Nat} {g : PL} {p0 : Int32} {p1 : Int32} {p2 : Int32} {p : Program} {e : Env} {s : State} {m : MethodId} {args : Array Value} {below : List Frame} {meth : Method} {c : Code} (C : CQ p s m args meth c cJ8_newLength_cabcc RJ8 4 (some .int) Z) {out : Int32} {ls : Array Slot} {H : Heap} {locs : List Loc} (hW : XG Z h a g s.heap H locs) (hl : lv_has ls 4 [(0, .int p0), (1, .int p1), (2, .int p2)]) (hf : Jp_J8_newLength_cabcc_21 g p0 p1 p2 = some out) : W p l e (rmP 1 0) s m args below meth c H locs 0 (600 * 0) (MQ below (va_Qi (fun r (_ : Unit) => r = out) (fun _ => WdP Z h a g) (FR Z)) args s 0 (600 * 0) (FR Z)) (F0 m 21 ls []) := by
  rw [Jp_J8_newLength_cabcc_21] at hf
  refine lv_iload_n C.1 C.2.1 dJ8_newLength_cabcc_21 rfl (lv_at hl 0 rfl) ?_
  refine lv_iload_n C.1 C.2.1 dJ8_newLength_cabcc_22 rfl (lv_at hl 1 rfl) ?_
  cases hf
set_option maxRecDepth 20000 in
set_option maxHeartbeats 1000000 in
theorem c_J8_newLength_cabcc {l : Launch} {Z : ZT} {h : Hp} {a : Nat → Nat} {g : PL} {p0 : Int32} {p1 : Int32} {p2 : Int32} {out : Int32} (hf : fp_J8_newLength_cabcc g p0 p1 p2 = some out) : Met l yJ8_newLength_cabcc (wY yJ8_newLength_cabcc cJ8_newLength_cabcc 4 (some .int)) (rmP 1 0) (va_Pc [.int p0, .int p1, .int p2] (WdP Z h a g)) (va_Qi (fun r (_ : Unit) => r = out) (fun _ => WdP Z h a g) (FR Z)) 0 (600 * 0) (FR Z) := by
  refine metZ RJ8 rfl (by decide +kernel) (Nat.le_of_ble_eq_true rfl) ?_
  intro p e s m args below meth c C hin hW ls hl
  have hl : lv_has ls 4 [(0, .int p0), (1, .int p1), (2, .int p2)] := hl
  unfold fp_J8_newLength_cabcc at hf
  refine W.widen (k := 0) (n := 600 * 0) (Nat.le_refl _) (Nat.le_refl _) ?_
  refine lv_iload_n C.1 C.2.1 dJ8_newLength_cabcc_0 rfl (lv_at hl 0 rfl) ?_
  refine lv_iload_n C.1 C.2.1 dJ8_newLength_cabcc_1 rfl (lv_at hl 1 rfl) ?_
  refine lv_iload_n C.1 C.2.1 dJ8_newLength_cabcc_2 rfl (lv_at hl 2 rfl) ?_
  refine z_max C hl (ml_J8_194) (rm_m (by decide)) (rm_c0 (by decide)) (Nat.le_of_ble_eq_true rfl) dJ8_newLength_cabcc_3 ?_
  refine lv_iadd C.1 C.2.1 dJ8_newLength_cabcc_6 ?_
  refine z_istn C hf dJ8_newLength_cabcc_7 rfl hl (by decide) (fun v1 => [(3, .int v1), (0, .int p0), (1, .int p1), (2, .int p2)]) (fun _ => rfl) (fun v1 ls hf hl => ?_)
  refine lv_iconst (v := 0) C.1 C.2.1 dJ8_newLength_cabcc_8 (by decide) ?_
  refine lv_iload_n C.1 C.2.1 dJ8_newLength_cabcc_9 rfl (lv_at hl 0 rfl) ?_
  refine z_cmpge (tgt := 21) C hf dJ8_newLength_cabcc_10 (by decide) (fun hf => ?_) (fun hf => ?_)
  · exact q_J8_newLength_cabcc_21 C hW (lv_sub hl [1, 2, 3] rfl) hf
  · refine lv_iload_n C.1 C.2.1 dJ8_newLength_cabcc_13 rfl (lv_at hl 0 rfl) ?_
    refine lv_ldc (v := 2147483639) C.1 C.2.1 C.2.2.2.1 (C.2.2.1 _ mc_J8_200) dJ8_newLength_cabcc_14 ?_
    refine z_cmpgt (tgt := 21) C hf dJ8_newLength_cabcc_16 (by decide) (fun hf => ?_) (fun hf => ?_)
    · exact q_J8_newLength_cabcc_21 C hW (lv_sub hl [1, 2, 3] rfl) hf
    · refine lv_iload_n C.1 C.2.1 dJ8_newLength_cabcc_19 rfl (lv_at hl 0 rfl) ?_
      obtain rfl := Option.some.inj hf
      exact z_iret C hW dJ8_newLength_cabcc_20 () rfl (fun _ q => q)
set_option maxRecDepth 20000 in
set_option maxHeartbeats 1000000 in
theorem c_J5_newCapacity_0f7a4 {l : Launch} {Z : ZT} {h : Hp} {a : Nat → Nat} {g : PL} {p0 : Nat} {p1 : Int32} {out : Int32} (hf : fp_J5_newCapacity_0f7a4 g p0 p1 = some out) : Met l yJ5_newCapacity_0f7a4 (wY yJ5_newCapacity_0f7a4 cJ5_newCapacity_0f7a4 6 (some .int)) (rmP 2 0) (va_Pc [.ref (ra Z a p0), .int p1] (WdP Z h a g)) (va_Qi (fun r (_ : Unit) => r = out) (fun _ => WdP Z h a g) (FR Z)) 0 (600 * 0) (FR Z) := by
  refine metZ RJ5 rfl (by decide +kernel) (Nat.le_of_ble_eq_true rfl) ?_
  intro p e s m args below meth c C hin hW ls hl
  have hl : lv_has ls 6 [(0, .ref (ra Z a p0)), (1, .int p1)] := hl
  unfold fp_J5_newCapacity_0f7a4 at hf
  refine W.widen (k := 0) (n := 600 * 0) (Nat.le_refl _) (Nat.le_refl _) ?_
  refine lv_aload_n C.1 C.2.1 dJ5_newCapacity_0f7a4_0 rfl (lv_at hl 0 rfl) ?_
  refine zg_J5_15 C hW hf dJ5_newCapacity_0f7a4_1 (fun q1 hf => ?_)
  refine z_alenB C hW hf dJ5_newCapacity_0f7a4_4 (fun hf => ?_)
  refine z_istn C hf dJ5_newCapacity_0f7a4_5 rfl hl (by decide) (fun v2 => [(2, .int v2), (0, .ref (ra Z a p0)), (1, .int p1)]) (fun _ => rfl) (fun v2 ls hf hl => ?_)
  refine lv_iload_n C.1 C.2.1 dJ5_newCapacity_0f7a4_6 rfl (lv_at hl 2 rfl) ?_
  refine lv_aload_n C.1 C.2.1 dJ5_newCapacity_0f7a4_7 rfl (lv_at hl 1 rfl) ?_
  refine zg_J5_22 C hW hf dJ5_newCapacity_0f7a4_8 (fun hf => ?_)
  refine lv_ishl C.1 C.2.1 dJ5_newCapacity_0f7a4_11 ?_
  refine z_istn C hf dJ5_newCapacity_0f7a4_12 rfl hl (by decide) (fun v3 => [(3, .int v3), (2, .int v2), (0, .ref (ra Z a p0)), (1, .int p1)]) (fun _ => rfl) (fun v3 ls hf hl => ?_)
  refine lv_iload_n C.1 C.2.1 dJ5_newCapacity_0f7a4_13 rfl (lv_at hl 0 rfl) ?_
  refine lv_iload_n C.1 C.2.1 dJ5_newCapacity_0f7a4_14 rfl (lv_at hl 1 rfl) ?_
  refine lv_isub C.1 C.2.1 dJ5_newCapacity_0f7a4_15 ?_
  refine z_ist C hf dJ5_newCapacity_0f7a4_16 hl (by decide) (fun v4 => [(4, .int v4), (3, .int v3), (2, .int v2), (0, .ref (ra Z a p0)), (1, .int p1)]) (fun _ => rfl) (fun v4 ls hf hl => ?_)
  refine lv_iload_n C.1 C.2.1 dJ5_newCapacity_0f7a4_18 rfl (lv_at hl 2 rfl) ?_
  refine lv_iload C.1 C.2.1 dJ5_newCapacity_0f7a4_19 (lv_at hl 0 rfl) ?_
  refine lv_iload_n C.1 C.2.1 dJ5_newCapacity_0f7a4_21 rfl (lv_at hl 2 rfl) ?_
  refine lv_iconst (v := 2) C.1 C.2.1 dJ5_newCapacity_0f7a4_22 (by decide) ?_
  refine lv_aload_n C.1 C.2.1 dJ5_newCapacity_0f7a4_23 rfl (lv_at hl 3 rfl) ?_
  refine zg_J5_22 C hW hf dJ5_newCapacity_0f7a4_24 (fun hf => ?_)
  refine lv_ishl C.1 C.2.1 dJ5_newCapacity_0f7a4_27 ?_
  refine lv_iadd C.1 C.2.1 dJ5_newCapacity_0f7a4_28 ?_
  obtain ⟨u5, hu5, hf⟩ := bnd_t hf
  refine z_calli hW (z_runS C hW hl (c_J8_newLength_cabcc hu5) cw_J5_114 ct_J8_newLength_cabcc (rm_okP (by decide) (by decide)) (rm_cs (by decide)) (As := [.int v2, .int v4, .int (v2 + ((2 : Int32) <<< (g.2.2 p0 1 &&& 31)))]) rfl rfl (Nat.le_of_ble_eq_true rfl) dJ5_newCapacity_0f7a4_29) (fun H locs hW => ?_)
  refine W.widen (k := 0) (n := 600 * 0) (by omega) (by omega) ?_
  refine lv_istore (lv' := [(5, .int u5), (4, .int v4), (3, .int v3), (2, .int v2), (0, .ref (ra Z a p0)), (1, .int p1)]) C.1 C.2.1 dJ5_newCapacity_0f7a4_32 hl (by decide) rfl (fun ls hl => ?_)
  refine lv_iload C.1 C.2.1 dJ5_newCapacity_0f7a4_34 (lv_at hl 0 rfl) ?_
  refine lv_ldc (v := 2147483647) C.1 C.2.1 C.2.2.2.1 (C.2.2.1 _ mc_J5_39) dJ5_newCapacity_0f7a4_36 ?_
  refine z_cmpne (tgt := 51) C hf dJ5_newCapacity_0f7a4_38 (by decide) (fun hf => ?_) (fun hf => ?_)
  · refine lv_iload C.1 C.2.1 dJ5_newCapacity_0f7a4_51 (lv_at hl 0 rfl) ?_
    refine lv_aload_n C.1 C.2.1 dJ5_newCapacity_0f7a4_53 rfl (lv_at hl 4 rfl) ?_
    refine zg_J5_22 C hW hf dJ5_newCapacity_0f7a4_54 (fun hf => ?_)
    refine lv_ishr C.1 C.2.1 dJ5_newCapacity_0f7a4_57 ?_
    obtain rfl := Option.some.inj hf
    exact z_iret C hW dJ5_newCapacity_0f7a4_58 () rfl (fun _ q => q)
  · cases hf
set_option maxRecDepth 20000 in
set_option maxHeartbeats 1000000 in
theorem c_J7_copyOf_9075b {l : Launch} {Z : ZT} {h : Hp} {a : Nat → Nat} {g : PL} {p0 : Nat} {p1 : Int32} {out : Nat × PL} (hf : fp_J7_copyOf_9075b g p0 p1 = some out) : Met l yJ7_copyOf_9075b (wY yJ7_copyOf_9075b cJ7_copyOf_9075b 3 (some (.array .byte))) (rmP 1 1) (va_Pc [.ref (ra Z a p0), .int p1] (WdP Z h a g)) (va_Qr (fun (a1 : Nat → Nat) => AG a g a1 out.2) (fun a1 x t => x = ra Z a1 out.1 ∧ WdP Z h a1 out.2 t) (FR Z)) 1 (600 * 1) (FR Z) := by
  refine metZ RJ7 rfl (by decide +kernel) (Nat.le_of_ble_eq_true rfl) ?_
  intro p e s m args below meth c C hin hW ls hl
  have hl : lv_has ls 3 [(0, .ref (ra Z a p0)), (1, .int p1)] := hl
  have hA := AG.rf a g
  unfold fp_J7_copyOf_9075b at hf
  refine W.widen (k := 0) (n := 600 * 0) (Nat.le_refl _) (Nat.le_refl _) ?_
  refine lv_iload_n C.1 C.2.1 dJ7_copyOf_9075b_0 rfl (lv_at hl 1 rfl) ?_
  refine lv_aload_n C.1 C.2.1 dJ7_copyOf_9075b_1 rfl (lv_at hl 0 rfl) ?_
  refine z_alenB C hW hf dJ7_copyOf_9075b_2 (fun hf => ?_)
  refine z_cmpne (tgt := 14) C hf dJ7_copyOf_9075b_3 (by decide) (fun hf => ?_) (fun hf => ?_)
  · refine lv_iload_n C.1 C.2.1 dJ7_copyOf_9075b_14 rfl (lv_at hl 1 rfl) ?_
    obtain ⟨hx0, hf⟩ := ck_t hf
    have hpw := hW.2.2.2
    have hl : lv_has ls 3 [(0, .ref (ra Z a p0)), (1, .int p1)] := lv_sub hl [0, 1] rfl
    refine z_newB C hW ac_byte hf ⟨by show _ + 1 ≤ 1; omega, by show _ + 600 ≤ 600 * 1; omega⟩ dJ7_copyOf_9075b_15 (fun a2 g1 H hf hg hW => ?_)
    have e0 := ra_to (Z := Z) hpw hg hx0
    rw [← e0] at hl
    have hA := hA.tr hg
    refine W.widen (k := 1) (n := 600 * 1) (by omega) (by omega) ?_
    refine lv_astore_n (lv' := [(2, .ref (ra Z a2 g.1)), (0, .ref (ra Z a2 p0)), (1, .int p1)]) C.1 C.2.1 dJ7_copyOf_9075b_17 rfl hl (by decide) rfl (fun ls hl => ?_)
    refine lv_aload_n C.1 C.2.1 dJ7_copyOf_9075b_18 rfl (lv_at hl 1 rfl) ?_
    refine lv_iconst (v := 0) C.1 C.2.1 dJ7_copyOf_9075b_19 (by decide) ?_
    refine lv_aload_n C.1 C.2.1 dJ7_copyOf_9075b_20 rfl (lv_at hl 0 rfl) ?_
    refine lv_iconst (v := 0) C.1 C.2.1 dJ7_copyOf_9075b_21 (by decide) ?_
    refine lv_aload_n C.1 C.2.1 dJ7_copyOf_9075b_22 rfl (lv_at hl 1 rfl) ?_
    refine z_alenB C hW hf dJ7_copyOf_9075b_23 (fun hf => ?_)
    refine lv_iload_n C.1 C.2.1 dJ7_copyOf_9075b_24 rfl (lv_at hl 2 rfl) ?_
    refine z_min C hl (ml_J7_304) (rm_m (by decide)) (rm_c0 (by decide)) (Nat.le_of_ble_eq_true rfl) dJ7_copyOf_9075b_25 ?_
    refine z_copyB C hW hl ml_J7_150 (rm_cp (by decide)) hf dJ7_copyOf_9075b_28 (fun g3 H locs hf hgn hW => ?_)
    have hA := hA.w hgn
    refine lv_aload_n C.1 C.2.1 dJ7_copyOf_9075b_31 rfl (lv_at hl 0 rfl) ?_
    obtain rfl := Option.some.inj hf
    exact z_aret C hW (Or.inr ⟨_, rfl⟩) dJ7_copyOf_9075b_32 a2 hA (fun _ q => ⟨rfl, q⟩)
  · refine lv_aload_n C.1 C.2.1 dJ7_copyOf_9075b_6 rfl (lv_at hl 0 rfl) ?_
    have hpw := hW.2.2.2
    have hl : lv_has ls 3 [(1, .int p1)] := lv_sub hl [1] rfl
    refine z_clone C hW hl ml_J7_310 hf (rm_k (by decide)) ⟨by show _ + 1 ≤ 1; omega, by show _ + 600 ≤ 600 * 1; omega⟩ dJ7_copyOf_9075b_7 (fun a5 g4 H hf hg hW => ?_)
    have hA := hA.tr hg
    refine W.widen (k := 1) (n := 600 * 1) (by omega) (by omega) ?_
    obtain ⟨hb, hf⟩ := ck_t hf
    refine z_castB C hW hb cl_J7_311 dJ7_copyOf_9075b_10 ?_
    obtain rfl := Option.some.inj hf
    exact z_aret C hW (Or.inr ⟨_, rfl⟩) dJ7_copyOf_9075b_13 a5 hA (fun _ q => ⟨rfl, q⟩)
set_option maxRecDepth 20000 in
set_option maxHeartbeats 1000000 in
theorem c_J5_ensureCapacityInternal_d00df {l : Launch} {Z : ZT} {h : Hp} {a : Nat → Nat} {g : PL} {p0 : Nat} {p1 : Int32} {out : PL} (hf : fp_J5_ensureCapacityInternal_d00df g p0 p1 = some out) : Met l yJ5_ensureCapacityInternal_d00df (wY yJ5_ensureCapacityInternal_d00df cJ5_ensureCapacityInternal_d00df 3 none) (rmP 3 1) (va_Pc [.ref (ra Z a p0), .int p1] (WdP Z h a g)) (va_Qv (fun (a1 : Nat → Nat) => AG a g a1 out) (fun a1 => WdP Z h a1 out) (FR Z)) 1 (600 * 1) (FR Z) := by
  refine metZ RJ5 rfl (by decide +kernel) (Nat.le_of_ble_eq_true rfl) ?_
  intro p e s m args below meth c C hin hW ls hl
  have hl : lv_has ls 3 [(0, .ref (ra Z a p0)), (1, .int p1)] := hl
  have hA := AG.rf a g
  unfold fp_J5_ensureCapacityInternal_d00df at hf
  refine W.widen (k := 0) (n := 600 * 0) (Nat.le_refl _) (Nat.le_refl _) ?_
  refine lv_aload_n C.1 C.2.1 dJ5_ensureCapacityInternal_d00df_0 rfl (lv_at hl 0 rfl) ?_
  refine zg_J5_15 C hW hf dJ5_ensureCapacityInternal_d00df_1 (fun q1 hf => ?_)
  refine z_alenB C hW hf dJ5_ensureCapacityInternal_d00df_4 (fun hf => ?_)
  refine lv_aload_n C.1 C.2.1 dJ5_ensureCapacityInternal_d00df_5 rfl (lv_at hl 0 rfl) ?_
  refine zg_J5_22 C hW hf dJ5_ensureCapacityInternal_d00df_6 (fun hf => ?_)
  refine lv_ishr C.1 C.2.1 dJ5_ensureCapacityInternal_d00df_9 ?_
  refine z_istn C hf dJ5_ensureCapacityInternal_d00df_10 rfl hl (by decide) (fun v2 => [(2, .int v2), (0, .ref (ra Z a p0)), (1, .int p1)]) (fun _ => rfl) (fun v2 ls hf hl => ?_)
  refine lv_iload_n C.1 C.2.1 dJ5_ensureCapacityInternal_d00df_11 rfl (lv_at hl 2 rfl) ?_
  refine lv_iload_n C.1 C.2.1 dJ5_ensureCapacityInternal_d00df_12 rfl (lv_at hl 0 rfl) ?_
  refine lv_isub C.1 C.2.1 dJ5_ensureCapacityInternal_d00df_13 ?_
  refine z_ifle (tgt := 38) C hf dJ5_ensureCapacityInternal_d00df_14 (by decide) (fun hf => ?_) (fun hf => ?_)
  · obtain rfl := Option.some.inj hf
    refine W.widen (k := 1) (n := 600 * 1) (by omega) (by omega) ?_
    exact z_vret C hW dJ5_ensureCapacityInternal_d00df_38 a hA (fun _ q => q)
  · refine lv_aload_n C.1 C.2.1 dJ5_ensureCapacityInternal_d00df_17 rfl (lv_at hl 1 rfl) ?_
    refine lv_aload_n C.1 C.2.1 dJ5_ensureCapacityInternal_d00df_18 rfl (lv_at hl 1 rfl) ?_
    refine zg_J5_15 C hW hf dJ5_ensureCapacityInternal_d00df_19 (fun q3 hf => ?_)
    refine lv_aload_n C.1 C.2.1 dJ5_ensureCapacityInternal_d00df_22 rfl (lv_at hl 1 rfl) ?_
    refine lv_iload_n C.1 C.2.1 dJ5_ensureCapacityInternal_d00df_23 rfl (lv_at hl 2 rfl) ?_
    obtain ⟨hb, hf⟩ := ck_t hf
    obtain ⟨u4, hu4, hf⟩ := bnd_t hf
    refine z_calli hW (z_runU C hW hl hb (ci := 11) (fs := fl_J4 Z a (g.2.2 p0)) rfl rfl (c_J5_newCapacity_0f7a4 hu4) cw_J5_104 ci_J5_newCapacity_0f7a4 sm_J5_newCapacity_0f7a4 cx_J5_newCapacity_0f7a4 (rm_okP (by decide) (by decide)) (rm_cs (by decide)) (As := [.int p1]) rfl rfl (Nat.le_of_ble_eq_true rfl) dJ5_ensureCapacityInternal_d00df_24) (fun H locs hW => ?_)
    refine W.widen (k := 0) (n := 600 * 0) (by omega) (by omega) ?_
    refine lv_aload_n C.1 C.2.1 dJ5_ensureCapacityInternal_d00df_27 rfl (lv_at hl 1 rfl) ?_
    refine zg_J5_22 C hW hf dJ5_ensureCapacityInternal_d00df_28 (fun hf => ?_)
    refine lv_ishl C.1 C.2.1 dJ5_ensureCapacityInternal_d00df_31 ?_
    obtain ⟨hx0, hf⟩ := ck_t hf
    have hpw := hW.2.2.2
    have hl : lv_has ls 3 [(2, .int v2), (1, .int p1)] := lv_sub hl [0, 2] rfl
    obtain ⟨u5, hu5, hf⟩ := bnd_t hf
    refine z_callrA hW (z_runS C hW hl (c_J7_copyOf_9075b hu5) cw_J5_108 ct_J7_copyOf_9075b (rm_okP (by decide) (by decide)) (rm_cs (by decide)) (As := [.ref (ra Z a q3), .int (u4 <<< (g.2.2 p0 1 &&& 31))]) rfl rfl (Nat.le_of_ble_eq_true rfl) dJ5_ensureCapacityInternal_d00df_32) (fun a6 H locs hg hW => ?_)
    have e0 := ra_to (Z := Z) hpw hg hx0
    rw [← e0]
    have hA := hA.tr hg
    refine W.widen (k := 1) (n := 600 * 1) (by omega) (by omega) ?_
    refine zp_J5_15 C hW hf dJ5_ensureCapacityInternal_d00df_35 (fun g7 H locs hf hgn hW => ?_)
    have hA := hA.w hgn
    obtain rfl := Option.some.inj hf
    exact z_vret C hW dJ5_ensureCapacityInternal_d00df_38 a6 hA (fun _ q => q)
set_option maxRecDepth 20000 in
set_option maxHeartbeats 1000000 in
theorem c_J5_inflateIfNeededFor_a7421 {l : Launch} {Z : ZT} {h : Hp} {a : Nat → Nat} {g : PL} {p0 : Nat} {p1 : Nat} {out : Unit} (hf : fp_J5_inflateIfNeededFor_a7421 g p0 p1 = some out) : Met l yJ5_inflateIfNeededFor_a7421 (wY yJ5_inflateIfNeededFor_a7421 cJ5_inflateIfNeededFor_a7421 2 none) (rmP 1 0) (va_Pc [.ref (ra Z a p0), .ref (ra Z a p1)] (WdP Z h a g)) (va_Qv (fun (_ : Unit) => True) (fun _ => WdP Z h a g) (FR Z)) 0 (600 * 0) (FR Z) := by
  refine metZ RJ5 rfl (by decide +kernel) (Nat.le_of_ble_eq_true rfl) ?_
  intro p e s m args below meth c C hin hW ls hl
  have hl : lv_has ls 2 [(0, .ref (ra Z a p0)), (1, .ref (ra Z a p1))] := hl
  unfold fp_J5_inflateIfNeededFor_a7421 at hf
  refine W.widen (k := 0) (n := 600 * 0) (Nat.le_refl _) (Nat.le_refl _) ?_
  refine va_gets C.1 C.2.1 C.2.2.2.2.2.2.2.2.2.1.2.2.1 hW.2.1 C.2.2.2.1 (C.2.2.1 _ mst_J5_18) (fun _ q => q) dJ5_inflateIfNeededFor_a7421_0 ?_
  refine z_ifeq (tgt := 21) C hf dJ5_inflateIfNeededFor_a7421_3 (by decide) (fun hf => ?_) (fun hf => ?_)
  · obtain rfl := Option.some.inj hf
    exact z_vret C hW dJ5_inflateIfNeededFor_a7421_21 () trivial (fun _ q => q)
  · refine lv_aload_n C.1 C.2.1 dJ5_inflateIfNeededFor_a7421_6 rfl (lv_at hl 0 rfl) ?_
    refine zg_J5_22 C hW hf dJ5_inflateIfNeededFor_a7421_7 (fun hf => ?_)
    refine lv_aload_n C.1 C.2.1 dJ5_inflateIfNeededFor_a7421_10 rfl (lv_at hl 1 rfl) ?_
    obtain ⟨hs, hf⟩ := ck_t hf
    refine z_calli hW (z_runT C hW hl hs rfl (k_coder hs) cw_J5_40 tin_coder tse_coder (rm_okP (by decide) (by decide)) (rm_cs (by decide)) (As := []) rfl rfl (Nat.le_of_ble_eq_true rfl) dJ5_inflateIfNeededFor_a7421_11) (fun H locs hW => ?_)
    refine W.widen (k := 0) (n := 600 * 0) (by omega) (by omega) ?_
    refine z_cmpeq (tgt := 21) C hf dJ5_inflateIfNeededFor_a7421_14 (by decide) (fun hf => ?_) (fun hf => ?_)
    · obtain rfl := Option.some.inj hf
      exact z_vret C hW dJ5_inflateIfNeededFor_a7421_21 () trivial (fun _ q => q)
    · refine lv_aload_n C.1 C.2.1 dJ5_inflateIfNeededFor_a7421_17 rfl (lv_at hl 0 rfl) ?_
      cases hf
set_option maxRecDepth 20000 in
set_option maxHeartbeats 1000000 in
theorem c_J5_putStringAt_47b60 {l : Launch} {Z : ZT} {h : Hp} {a : Nat → Nat} {g : PL} {p0 : Nat} {p1 : Int32} {p2 : Nat} {out : PL} (hf : fp_J5_putStringAt_47b60 g p0 p1 p2 = some out) : Met l yJ5_putStringAt_47b60 (wY yJ5_putStringAt_47b60 cJ5_putStringAt_47b60 3 none) (rmP 2 0) (va_Pc [.ref (ra Z a p0), .int p1, .ref (ra Z a p2)] (WdP Z h a g)) (va_Qv (fun (_ : Unit) => True) (fun _ => WdP Z h a out) (FR Z)) 0 (600 * 0) (FR Z) := by
  refine metZ RJ5 rfl (by decide +kernel) (Nat.le_of_ble_eq_true rfl) ?_
  intro p e s m args below meth c C hin hW ls hl
  have hl : lv_has ls 3 [(0, .ref (ra Z a p0)), (1, .int p1), (2, .ref (ra Z a p2))] := hl
  unfold fp_J5_putStringAt_47b60 at hf
  refine W.widen (k := 0) (n := 600 * 0) (Nat.le_refl _) (Nat.le_refl _) ?_
  refine lv_aload_n C.1 C.2.1 dJ5_putStringAt_47b60_0 rfl (lv_at hl 0 rfl) ?_
  refine lv_aload_n C.1 C.2.1 dJ5_putStringAt_47b60_1 rfl (lv_at hl 2 rfl) ?_
  obtain ⟨hb, hf⟩ := ck_t hf
  obtain ⟨u1, hu1, hf⟩ := bnd_t hf
  refine z_callv hW (z_runU C hW hl hb (ci := 11) (fs := fl_J4 Z a (g.2.2 p0)) rfl rfl (c_J5_inflateIfNeededFor_a7421 hu1) cw_J5_397 ci_J5_inflateIfNeededFor_a7421 sm_J5_inflateIfNeededFor_a7421 cx_J5_inflateIfNeededFor_a7421 (rm_okP (by decide) (by decide)) (rm_cs (by decide)) (As := [.ref (ra Z a p2)]) rfl rfl (Nat.le_of_ble_eq_true rfl) dJ5_putStringAt_47b60_2) (fun H locs hW => ?_)
  refine W.widen (k := 0) (n := 600 * 0) (by omega) (by omega) ?_
  refine lv_aload_n C.1 C.2.1 dJ5_putStringAt_47b60_5 rfl (lv_at hl 2 rfl) ?_
  refine lv_aload_n C.1 C.2.1 dJ5_putStringAt_47b60_6 rfl (lv_at hl 0 rfl) ?_
  refine zg_J5_15 C hW hf dJ5_putStringAt_47b60_7 (fun q2 hf => ?_)
  refine lv_iload_n C.1 C.2.1 dJ5_putStringAt_47b60_10 rfl (lv_at hl 1 rfl) ?_
  refine lv_aload_n C.1 C.2.1 dJ5_putStringAt_47b60_11 rfl (lv_at hl 0 rfl) ?_
  refine zg_J5_22 C hW hf dJ5_putStringAt_47b60_12 (fun hf => ?_)
  obtain ⟨hs, hf⟩ := ck_t hf
  rw [Bool.and_eq_true, decide_eq_true_eq] at hs
  obtain ⟨hz0, hs⟩ := hs
  obtain ⟨hcp, hf⟩ := ck_t hf
  rw [hz0]
  obtain ⟨g3, hgz, hf⟩ := stp_t hf
  have hgn : g3.1 = g.1 := by rw [hgz]; rfl
  refine z_callv hW (z_runT C hW hl hs rfl (k_getBytes (out := g3) hs (by rw [hcp, hgz]; rfl)) cw_J5_399 tin_getBytes tse_getBytes (rm_okP (by decide) (by decide)) (rm_cs (by decide)) (As := [.ref (ra Z a q2), .int p1, .int 0]) rfl rfl (Nat.le_of_ble_eq_true rfl) dJ5_putStringAt_47b60_15) (fun H locs hW => ?_)
  refine W.widen (k := 0) (n := 600 * 0) (by omega) (by omega) ?_
  obtain rfl := Option.some.inj hf
  exact z_vret C hW dJ5_putStringAt_47b60_18 () trivial (fun _ q => q)
set_option maxRecDepth 20000 in
set_option maxHeartbeats 1000000 in
theorem c_J5_append_cf1ce {l : Launch} {Z : ZT} {h : Hp} {a : Nat → Nat} {g : PL} {p0 : Nat} {p1 : Nat} {out : Nat × PL} (hf : fp_J5_append_cf1ce g p0 p1 = some out) : Met l yJ5_append_cf1ce (wY yJ5_append_cf1ce cJ5_append_cf1ce 3 (some (.object "java/lang/AbstractStringBuilder"))) (rmP 4 1) (va_Pc [.ref (ra Z a p0), .ref (ra Z a p1)] (WdP Z h a g)) (va_Qr (fun (a1 : Nat → Nat) => AG a g a1 out.2) (fun a1 x t => x = ra Z a1 out.1 ∧ WdP Z h a1 out.2 t) (FR Z)) 1 (600 * 1) (FR Z) := by
  refine metZ RJ5 rfl (by decide +kernel) (Nat.le_of_ble_eq_true rfl) ?_
  intro p e s m args below meth c C hin hW ls hl
  have hl : lv_has ls 3 [(0, .ref (ra Z a p0)), (1, .ref (ra Z a p1))] := hl
  have hA := AG.rf a g
  unfold fp_J5_append_cf1ce at hf
  refine W.widen (k := 0) (n := 600 * 0) (Nat.le_refl _) (Nat.le_refl _) ?_
  refine lv_aload_n C.1 C.2.1 dJ5_append_cf1ce_0 rfl (lv_at hl 1 rfl) ?_
  refine lv_ifnonnull (tgt := 9) C.1 C.2.1 dJ5_append_cf1ce_1 (by decide) ?_
  refine lv_aload_n C.1 C.2.1 dJ5_append_cf1ce_9 rfl (lv_at hl 1 rfl) ?_
  obtain ⟨hs, hf⟩ := ck_t hf
  rw [Bool.and_eq_true, decide_eq_true_eq] at hs
  obtain ⟨hs, hs2⟩ := hs
  refine z_calli hW (z_runT C hW hl hs rfl (k_length hs hs2) cw_J5_32 tin_length tse_length (rm_okP (by decide) (by decide)) (rm_cs (by decide)) (As := []) rfl rfl (Nat.le_of_ble_eq_true rfl) dJ5_append_cf1ce_10) (fun H locs hW => ?_)
  refine W.widen (k := 0) (n := 600 * 0) (by omega) (by omega) ?_
  refine z_istn C hf dJ5_append_cf1ce_13 rfl hl (by decide) (fun v1 => [(2, .int v1), (0, .ref (ra Z a p0)), (1, .ref (ra Z a p1))]) (fun _ => rfl) (fun v1 ls hf hl => ?_)
  refine lv_aload_n C.1 C.2.1 dJ5_append_cf1ce_14 rfl (lv_at hl 1 rfl) ?_
  refine lv_aload_n C.1 C.2.1 dJ5_append_cf1ce_15 rfl (lv_at hl 1 rfl) ?_
  refine zg_J5_79 C hW hf dJ5_append_cf1ce_16 (fun hf => ?_)
  refine lv_iload_n C.1 C.2.1 dJ5_append_cf1ce_19 rfl (lv_at hl 0 rfl) ?_
  refine lv_iadd C.1 C.2.1 dJ5_append_cf1ce_20 ?_
  obtain ⟨hx0, hf⟩ := ck_t hf
  obtain ⟨hx1, hf⟩ := ck_t hf
  have hpw := hW.2.2.2
  have hl : lv_has ls 3 [(2, .int v1), (0, .ref (ra Z a p0)), (1, .ref (ra Z a p1))] := lv_sub hl [0, 1, 2] rfl
  obtain ⟨hb, hf⟩ := ck_t hf
  obtain ⟨u2, hu2, hf⟩ := bnd_t hf
  refine z_callvA hW (z_runU C hW hl hb (ci := 11) (fs := fl_J4 Z a (g.2.2 p0)) rfl rfl (c_J5_ensureCapacityInternal_d00df hu2) cw_J5_100 ci_J5_ensureCapacityInternal_d00df sm_J5_ensureCapacityInternal_d00df cx_J5_ensureCapacityInternal_d00df (rm_okP (by decide) (by decide)) (rm_cs (by decide)) (As := [.int (g.2.2 p0 3 + v1)]) rfl rfl (Nat.le_of_ble_eq_true rfl) dJ5_append_cf1ce_21) (fun a3 H locs hg hW => ?_)
  have e0 := ra_to (Z := Z) hpw hg hx0
  have e1 := ra_to (Z := Z) hpw hg hx1
  rw [← e0] at hl
  rw [← e1] at hl
  have hA := hA.tr hg
  refine W.widen (k := 1) (n := 600 * 1) (by omega) (by omega) ?_
  refine lv_aload_n C.1 C.2.1 dJ5_append_cf1ce_24 rfl (lv_at hl 1 rfl) ?_
  refine lv_aload_n C.1 C.2.1 dJ5_append_cf1ce_25 rfl (lv_at hl 1 rfl) ?_
  refine zg_J5_79 C hW hf dJ5_append_cf1ce_26 (fun hf => ?_)
  refine lv_aload_n C.1 C.2.1 dJ5_append_cf1ce_29 rfl (lv_at hl 2 rfl) ?_
  obtain ⟨hb, hf⟩ := ck_t hf
  obtain ⟨u4, hu4, hf⟩ := bnd_t hf
  obtain ⟨hgn, hf⟩ := ck_t hf
  have hgn := of_decide_eq_true hgn
  refine z_callv hW (z_runU C hW hl hb (ci := 11) (fs := fl_J4 Z a3 (u2.2.2 p0)) rfl rfl (c_J5_putStringAt_47b60 hu4) cw_J5_208 ci_J5_putStringAt_47b60 sm_J5_putStringAt_47b60 cx_J5_putStringAt_47b60 (rm_okP (by decide) (by decide)) (rm_cs (by decide)) (As := [.int (u2.2.2 p0 3), .ref (ra Z a3 p1)]) rfl rfl (Nat.le_of_ble_eq_true rfl) dJ5_append_cf1ce_30) (fun H locs hW => ?_)
  refine W.widen (k := 1) (n := 600 * 1) (by omega) (by omega) ?_
  have hA := hA.w hgn
  refine lv_aload_n C.1 C.2.1 dJ5_append_cf1ce_33 rfl (lv_at hl 1 rfl) ?_
  refine lv_dup C.1 C.2.1 dJ5_append_cf1ce_34 rfl ?_
  refine zg_J5_79 C hW hf dJ5_append_cf1ce_35 (fun hf => ?_)
  refine lv_iload_n C.1 C.2.1 dJ5_append_cf1ce_38 rfl (lv_at hl 0 rfl) ?_
  refine lv_iadd C.1 C.2.1 dJ5_append_cf1ce_39 ?_
  refine zp_J5_79 C hW hf dJ5_append_cf1ce_40 (fun g5 H locs hf hgn hW => ?_)
  have hA := hA.w hgn
  refine lv_aload_n C.1 C.2.1 dJ5_append_cf1ce_43 rfl (lv_at hl 1 rfl) ?_
  obtain rfl := Option.some.inj hf
  exact z_aret C hW (Or.inl ⟨_, rfl⟩) dJ5_append_cf1ce_44 a3 hA (fun _ q => ⟨rfl, q⟩)
set_option maxRecDepth 20000 in
set_option maxHeartbeats 1000000 in
theorem c_J4_append_15ec4 {l : Launch} {Z : ZT} {h : Hp} {a : Nat → Nat} {g : PL} {p0 : Nat} {p1 : Nat} {out : Nat × PL} (hf : fp_J4_append_15ec4 g p0 p1 = some out) : Met l yJ4_append_15ec4 (wY yJ4_append_15ec4 cJ4_append_15ec4 2 (some (.object "java/lang/StringBuilder"))) (rmP 5 1) (va_Pc [.ref (ra Z a p0), .ref (ra Z a p1)] (WdP Z h a g)) (va_Qr (fun (a1 : Nat → Nat) => AG a g a1 out.2) (fun a1 x t => x = ra Z a1 out.1 ∧ WdP Z h a1 out.2 t) (FR Z)) 1 (600 * 1) (FR Z) := by
  refine metZ RJ4 rfl (by decide +kernel) (Nat.le_of_ble_eq_true rfl) ?_
  intro p e s m args below meth c C hin hW ls hl
  have hl : lv_has ls 2 [(0, .ref (ra Z a p0)), (1, .ref (ra Z a p1))] := hl
  have hA := AG.rf a g
  unfold fp_J4_append_15ec4 at hf
  refine W.widen (k := 0) (n := 600 * 0) (Nat.le_refl _) (Nat.le_refl _) ?_
  refine lv_aload_n C.1 C.2.1 dJ4_append_15ec4_0 rfl (lv_at hl 0 rfl) ?_
  refine lv_aload_n C.1 C.2.1 dJ4_append_15ec4_1 rfl (lv_at hl 1 rfl) ?_
  obtain ⟨hx0, hf⟩ := ck_t hf
  have hpw := hW.2.2.2
  have hl : lv_has ls 2 [(0, .ref (ra Z a p0))] := lv_sub hl [0] rfl
  obtain ⟨hb, hf⟩ := ck_t hf
  obtain ⟨u1, hu1, hf⟩ := bnd_t hf
  refine z_callrA hW (z_runSU C hW hl hb (ci := 11) (fs := fl_J4 Z a (g.2.2 p0)) rfl rfl (c_J5_append_cf1ce hu1) cw_J4_29 ci_J5_append_cf1ce sm_J5_append_cf1ce su_J4 (by decide) (rm_okP (by decide) (by decide)) (rm_cs (by decide)) (As := [.ref (ra Z a p1)]) rfl rfl (Nat.le_of_ble_eq_true rfl) dJ4_append_15ec4_2) (fun a2 H locs hg hW => ?_)
  have e0 := ra_to (Z := Z) hpw hg hx0
  rw [← e0] at hl
  have hA := hA.tr hg
  refine W.widen (k := 1) (n := 600 * 1) (by omega) (by omega) ?_
  refine lv_pop C.1 C.2.1 dJ4_append_15ec4_5 rfl ?_
  refine lv_aload_n C.1 C.2.1 dJ4_append_15ec4_6 rfl (lv_at hl 0 rfl) ?_
  obtain rfl := Option.some.inj hf
  exact z_aret C hW (Or.inl ⟨_, rfl⟩) dJ4_append_15ec4_7 a2 hA (fun _ q => ⟨rfl, q⟩)
set_option maxRecDepth 20000 in
set_option maxHeartbeats 1000000 in
theorem c_J5_isLatin1_aae02 {l : Launch} {Z : ZT} {h : Hp} {a : Nat → Nat} {g : PL} {p0 : Nat} {out : Int32} (hf : fp_J5_isLatin1_aae02 g p0 = some out) : Met l yJ5_isLatin1_aae02 (wY yJ5_isLatin1_aae02 cJ5_isLatin1_aae02 1 (some .boolean)) (rmP 1 0) (va_Pc [.ref (ra Z a p0)] (WdP Z h a g)) (va_Qi (fun r (_ : Unit) => r = out) (fun _ => WdP Z h a g) (FR Z)) 0 (600 * 0) (FR Z) := by
  refine metZ RJ5 rfl (by decide +kernel) (Nat.le_of_ble_eq_true rfl) ?_
  intro p e s m args below meth c C hin hW ls hl
  have hl : lv_has ls 1 [(0, .ref (ra Z a p0))] := hl
  unfold fp_J5_isLatin1_aae02 at hf
  refine W.widen (k := 0) (n := 600 * 0) (Nat.le_refl _) (Nat.le_refl _) ?_
  refine va_gets C.1 C.2.1 C.2.2.2.2.2.2.2.2.2.1.2.2.1 hW.2.1 C.2.2.2.1 (C.2.2.1 _ mst_J5_18) (fun _ q => q) dJ5_isLatin1_aae02_0 ?_
  refine z_ifeq (tgt := 17) C hf dJ5_isLatin1_aae02_3 (by decide) (fun hf => ?_) (fun hf => ?_)
  · refine lv_iconst (v := 0) C.1 C.2.1 dJ5_isLatin1_aae02_17 (by decide) ?_
    obtain rfl := Option.some.inj hf
    exact z_zret C hW (by decide) dJ5_isLatin1_aae02_18 () rfl (fun _ q => q)
  · refine lv_aload_n C.1 C.2.1 dJ5_isLatin1_aae02_6 rfl (lv_at hl 0 rfl) ?_
    refine zg_J5_22 C hW hf dJ5_isLatin1_aae02_7 (fun hf => ?_)
    refine z_ifne (tgt := 17) C hf dJ5_isLatin1_aae02_10 (by decide) (fun hf => ?_) (fun hf => ?_)
    · refine lv_iconst (v := 0) C.1 C.2.1 dJ5_isLatin1_aae02_17 (by decide) ?_
      obtain rfl := Option.some.inj hf
      exact z_zret C hW (by decide) dJ5_isLatin1_aae02_18 () rfl (fun _ q => q)
    · refine lv_iconst (v := 1) C.1 C.2.1 dJ5_isLatin1_aae02_13 (by decide) ?_
      refine lv_goto (tgt := 18) C.1 C.2.1 dJ5_isLatin1_aae02_14 (by decide) ?_
      obtain rfl := Option.some.inj hf
      exact z_zret C hW (by decide) dJ5_isLatin1_aae02_18 () rfl (fun _ q => q)
set_option maxRecDepth 20000 in
set_option maxHeartbeats 1000000 in
theorem q_J6_getChars_ba4f3_104 {l : Launch} {Z : ZT} {h : Hp} {a : Nat → Nat} {p1 : Int32} {p2 : Nat} {g : PL} {x5 : Int32} {x6 : Int32} {p : Program} {e : Env} {s : State} {m : MethodId} {args : Array Value} {below : List Frame} {meth : Method} {c : Code} (C : CQ p s m args meth c cJ6_getChars_ba4f3 RJ6 7 (some .int) Z) {out : Int32 × PL} {ls : Array Slot} {H : Heap} {locs : List Loc} (hW : XG Z h a g s.heap H locs) (hl : lv_has ls 7 [(1, .int p1), (2, .ref (ra Z a p2)), (5, .int x5), (6, .int x6)]) (hf : Jp_J6_getChars_ba4f3_104 p1 p2 g x5 x6 = some out) : W p l e (rmP 1 0) s m args below meth c H locs 0 (600 * 0) (MQ below (va_Qi (fun r (_ : Unit) => r = out.1) (fun _ => WdP Z h a out.2) (FR Z)) args s 0 (600 * 0) (FR Z)) (F0 m 104 ls []) := by
  refine lv_iload C.1 C.2.1 dJ6_getChars_ba4f3_104 (lv_at hl 3 rfl) ?_
  refine z_ifeq (tgt := 118) C hf dJ6_getChars_ba4f3_106 (by decide) (fun hf => ?_) (fun hf => ?_)
  · refine lv_iload C.1 C.2.1 dJ6_getChars_ba4f3_118 (lv_at hl 2 rfl) ?_
    obtain rfl := Option.some.inj hf
    exact z_iret C hW dJ6_getChars_ba4f3_120 () rfl (fun _ q => q)
  · refine lv_aload_n C.1 C.2.1 dJ6_getChars_ba4f3_109 rfl (lv_at hl 1 rfl) ?_
    refine z_iinc (w := -1) C hf dJ6_getChars_ba4f3_110 hl (k := 2) rfl (by decide) (by decide) (fun v1 => [(5, .int v1), (1, .int p1), (2, .ref (ra Z a p2)), (6, .int x6)]) (fun _ => rfl) (fun v1 ls hf hl => ?_)
    refine lv_iload C.1 C.2.1 dJ6_getChars_ba4f3_113 (lv_at hl 0 rfl) ?_
    refine lv_bipush (v := 45) C.1 C.2.1 dJ6_getChars_ba4f3_115 (by decide) ?_
    refine z_bast C hW hf dJ6_getChars_ba4f3_117 (fun g2 H locs hf hgn hW => ?_)
    refine lv_iload C.1 C.2.1 dJ6_getChars_ba4f3_118 (lv_at hl 0 rfl) ?_
    obtain rfl := Option.some.inj hf
    exact z_iret C hW dJ6_getChars_ba4f3_120 () rfl (fun _ q => q)
set_option maxRecDepth 20000 in
set_option maxHeartbeats 1000000 in
theorem q_J6_getChars_ba4f3_72 {l : Launch} {Z : ZT} {h : Hp} {a : Nat → Nat} {p1 : Int32} {p2 : Nat} {g : PL} {x0 : Int32} {x5 : Int32} {x6 : Int32} {p : Program} {e : Env} {s : State} {m : MethodId} {args : Array Value} {below : List Frame} {meth : Method} {c : Code} (C : CQ p s m args meth c cJ6_getChars_ba4f3 RJ6 7 (some .int) Z) {out : Int32 × PL} {ls : Array Slot} {H : Heap} {locs : List Loc} (hW : XG Z h a g s.heap H locs) (hl : lv_has ls 7 [(1, .int p1), (2, .ref (ra Z a p2)), (0, .int x0), (5, .int x5), (6, .int x6)]) (hf : Jp_J6_getChars_ba4f3_72 p1 p2 g x0 x5 x6 = some out) : W p l e (rmP 1 0) s m args below meth c H locs 0 (600 * 0) (MQ below (va_Qi (fun r (_ : Unit) => r = out.1) (fun _ => WdP Z h a out.2) (FR Z)) args s 0 (600 * 0) (FR Z)) (F0 m 72 ls []) := by
  rw [Jp_J6_getChars_ba4f3_72] at hf
  refine lv_aload_n C.1 C.2.1 dJ6_getChars_ba4f3_72 rfl (lv_at hl 1 rfl) ?_
  refine z_iinc (w := -1) C hf dJ6_getChars_ba4f3_73 hl (k := 3) rfl (by decide) (by decide) (fun v3 => [(5, .int v3), (1, .int p1), (2, .ref (ra Z a p2)), (0, .int x0), (6, .int x6)]) (fun _ => rfl) (fun v3 ls hf hl => ?_)
  refine lv_iload C.1 C.2.1 dJ6_getChars_ba4f3_76 (lv_at hl 0 rfl) ?_
  obtain ⟨t1, t2, dz, dt, _, _⟩ := C.2.2.2.2.2.2.2.2.2.2.2.1
  revert dz dt
  revert t1
  intro t4 dz dt
  refine va_gets C.1 C.2.1 dz hW.2.1 C.2.2.2.1 (C.2.2.1 _ mst_J6_83) (fun _ q => q) dJ6_getChars_ba4f3_78 ?_
  refine lv_iload_n C.1 C.2.1 dJ6_getChars_ba4f3_81 rfl (lv_at hl 3 rfl) ?_
  refine lv_ineg C.1 C.2.1 dJ6_getChars_ba4f3_82 ?_
  obtain ⟨hx, hf⟩ := ck_t hf
  refine va_tb C.1 C.2.1 dt hW.2.1 (inb_in hx) (v := .int (dgO (ix (-x0)))) rfl dJ6_getChars_ba4f3_83 ?_
  refine z_bast C hW hf dJ6_getChars_ba4f3_84 (fun g5 H locs hf hgn hW => ?_)
  refine lv_iload_n C.1 C.2.1 dJ6_getChars_ba4f3_85 rfl (lv_at hl 3 rfl) ?_
  refine lv_bipush (v := -9) C.1 C.2.1 dJ6_getChars_ba4f3_86 (by decide) ?_
  refine z_cmpge (tgt := 104) C hf dJ6_getChars_ba4f3_88 (by decide) (fun hf => ?_) (fun hf => ?_)
  · exact q_J6_getChars_ba4f3_104 C hW (lv_sub hl [1, 2, 0, 4] rfl) hf
  · refine lv_aload_n C.1 C.2.1 dJ6_getChars_ba4f3_91 rfl (lv_at hl 2 rfl) ?_
    refine z_iinc (w := -1) C hf dJ6_getChars_ba4f3_92 hl (k := 0) rfl (by decide) (by decide) (fun v6 => [(5, .int v6), (1, .int p1), (2, .ref (ra Z a p2)), (0, .int x0), (6, .int x6)]) (fun _ => rfl) (fun v6 ls hf hl => ?_)
    refine lv_iload C.1 C.2.1 dJ6_getChars_ba4f3_95 (lv_at hl 0 rfl) ?_
    obtain ⟨t1, t2, _, _, dz, dt⟩ := C.2.2.2.2.2.2.2.2.2.2.2.1
    revert dz dt
    revert t2
    intro t7 dz dt
    refine va_gets C.1 C.2.1 dz hW.2.1 C.2.2.2.1 (C.2.2.1 _ mst_J6_87) (fun _ q => q) dJ6_getChars_ba4f3_97 ?_
    refine lv_iload_n C.1 C.2.1 dJ6_getChars_ba4f3_100 rfl (lv_at hl 3 rfl) ?_
    refine lv_ineg C.1 C.2.1 dJ6_getChars_ba4f3_101 ?_
    obtain ⟨hx, hf⟩ := ck_t hf
    refine va_tb C.1 C.2.1 dt hW.2.1 (inb_in hx) (v := .int (dgT (ix (-x0)))) rfl dJ6_getChars_ba4f3_102 ?_
    refine z_bast C hW hf dJ6_getChars_ba4f3_103 (fun g8 H locs hf hgn hW => ?_)
    exact q_J6_getChars_ba4f3_104 C hW (lv_sub hl [1, 2, 0, 4] rfl) hf
set_option maxRecDepth 20000 in
set_option maxHeartbeats 1000000 in
theorem l_J6_getChars_ba4f3_22 {l : Launch} {Z : ZT} {h : Hp} {a : Nat → Nat} {p1 : Int32} {p2 : Nat} {x6 : Int32} {p : Program} {e : Env} {s : State} {m : MethodId} {args : Array Value} {below : List Frame} {meth : Method} {c : Code} (C : CQ p s m args meth c cJ6_getChars_ba4f3 RJ6 7 (some .int) Z) {out : Int32 × PL} : ∀ (n : Nat) (x0 : Int32) (x5 : Int32) (g : PL) (ls : Array Slot) (H : Heap) (locs : List Loc), XG Z h a g s.heap H locs → lv_has ls 7 [(1, .int p1), (2, .ref (ra Z a p2)), (0, .int x0), (5, .int x5), (6, .int x6)] → Lp (Fp_J6_getChars_ba4f3_22 p1 p2 x6) n (x0, x5, g) = some out → W p l e (rmP 1 0) s m args below meth c H locs 0 (600 * 0) (MQ below (va_Qi (fun r (_ : Unit) => r = out.1) (fun _ => WdP Z h a out.2) (FR Z)) args s 0 (600 * 0) (FR Z)) (F0 m 22 ls []) := by
  intro n
  induction n with
  | zero => intro x0 x5 g ls H locs hW hl hf; cases hf
  | succ n ih =>
    intro x0 x5 g ls H locs hW hl hf
    rw [Lp_s] at hf
    refine lv_iload_n C.1 C.2.1 dJ6_getChars_ba4f3_22 rfl (lv_at hl 2 rfl) ?_
    refine lv_bipush (v := -100) C.1 C.2.1 dJ6_getChars_ba4f3_23 (by decide) ?_
    refine z_cmpgt (tgt := 72) C hf dJ6_getChars_ba4f3_25 (by decide) (fun hf => ?_) (fun hf => ?_)
    · exact q_J6_getChars_ba4f3_72 C hW (lv_sub hl [0, 1, 2, 3, 4] rfl) hf
    · refine lv_iload_n C.1 C.2.1 dJ6_getChars_ba4f3_28 rfl (lv_at hl 2 rfl) ?_
      refine lv_bipush (v := 100) C.1 C.2.1 dJ6_getChars_ba4f3_29 (by decide) ?_
      refine lv_idiv C.1 C.2.1 dJ6_getChars_ba4f3_31 (by decide) ?_
      refine z_istn C hf dJ6_getChars_ba4f3_32 rfl hl (by decide) (fun v9 => [(3, .int v9), (1, .int p1), (2, .ref (ra Z a p2)), (0, .int x0), (5, .int x5), (6, .int x6)]) (fun _ => rfl) (fun v9 ls hf hl => ?_)
      refine lv_iload_n C.1 C.2.1 dJ6_getChars_ba4f3_33 rfl (lv_at hl 0 rfl) ?_
      refine lv_bipush (v := 100) C.1 C.2.1 dJ6_getChars_ba4f3_34 (by decide) ?_
      refine lv_imul C.1 C.2.1 dJ6_getChars_ba4f3_36 ?_
      refine lv_iload_n C.1 C.2.1 dJ6_getChars_ba4f3_37 rfl (lv_at hl 3 rfl) ?_
      refine lv_isub C.1 C.2.1 dJ6_getChars_ba4f3_38 ?_
      refine z_ist C hf dJ6_getChars_ba4f3_39 hl (by decide) (fun v10 => [(4, .int v10), (3, .int v9), (1, .int p1), (2, .ref (ra Z a p2)), (0, .int x0), (5, .int x5), (6, .int x6)]) (fun _ => rfl) (fun v10 ls hf hl => ?_)
      refine lv_iload_n C.1 C.2.1 dJ6_getChars_ba4f3_41 rfl (lv_at hl 1 rfl) ?_
      refine lv_istore_n (lv' := [(0, .int v9), (4, .int v10), (3, .int v9), (1, .int p1), (2, .ref (ra Z a p2)), (5, .int x5), (6, .int x6)]) C.1 C.2.1 dJ6_getChars_ba4f3_42 rfl hl (by decide) rfl (fun ls hl => ?_)
      refine lv_aload_n C.1 C.2.1 dJ6_getChars_ba4f3_43 rfl (lv_at hl 4 rfl) ?_
      refine z_iinc (w := -1) C hf dJ6_getChars_ba4f3_44 hl (k := 5) rfl (by decide) (by decide) (fun v11 => [(5, .int v11), (0, .int v9), (4, .int v10), (3, .int v9), (1, .int p1), (2, .ref (ra Z a p2)), (6, .int x6)]) (fun _ => rfl) (fun v11 ls hf hl => ?_)
      refine lv_iload C.1 C.2.1 dJ6_getChars_ba4f3_47 (lv_at hl 0 rfl) ?_
      obtain ⟨t1, t2, dz, dt, _, _⟩ := C.2.2.2.2.2.2.2.2.2.2.2.1
      revert dz dt
      revert t1
      intro t12 dz dt
      refine va_gets C.1 C.2.1 dz hW.2.1 C.2.2.2.1 (C.2.2.1 _ mst_J6_83) (fun _ q => q) dJ6_getChars_ba4f3_49 ?_
      refine lv_iload C.1 C.2.1 dJ6_getChars_ba4f3_52 (lv_at hl 2 rfl) ?_
      obtain ⟨hx, hf⟩ := ck_t hf
      refine va_tb C.1 C.2.1 dt hW.2.1 (inb_in hx) (v := .int (dgO (ix v10))) rfl dJ6_getChars_ba4f3_54 ?_
      refine z_bast C hW hf dJ6_getChars_ba4f3_55 (fun g13 H locs hf hgn hW => ?_)
      refine lv_aload_n C.1 C.2.1 dJ6_getChars_ba4f3_56 rfl (lv_at hl 5 rfl) ?_
      refine z_iinc (w := -1) C hf dJ6_getChars_ba4f3_57 hl (k := 0) rfl (by decide) (by decide) (fun v14 => [(5, .int v14), (0, .int v9), (4, .int v10), (3, .int v9), (1, .int p1), (2, .ref (ra Z a p2)), (6, .int x6)]) (fun _ => rfl) (fun v14 ls hf hl => ?_)
      refine lv_iload C.1 C.2.1 dJ6_getChars_ba4f3_60 (lv_at hl 0 rfl) ?_
      obtain ⟨t1, t2, _, _, dz, dt⟩ := C.2.2.2.2.2.2.2.2.2.2.2.1
      revert dz dt
      revert t2
      intro t15 dz dt
      refine va_gets C.1 C.2.1 dz hW.2.1 C.2.2.2.1 (C.2.2.1 _ mst_J6_87) (fun _ q => q) dJ6_getChars_ba4f3_62 ?_
      refine lv_iload C.1 C.2.1 dJ6_getChars_ba4f3_65 (lv_at hl 2 rfl) ?_
      obtain ⟨hx, hf⟩ := ck_t hf
      refine va_tb C.1 C.2.1 dt hW.2.1 (inb_in hx) (v := .int (dgT (ix v10))) rfl dJ6_getChars_ba4f3_67 ?_
      refine z_bast C hW hf dJ6_getChars_ba4f3_68 (fun g16 H locs hf hgn hW => ?_)
      refine lv_goto (tgt := 22) C.1 C.2.1 dJ6_getChars_ba4f3_69 (by decide) ?_
      exact ih v9 v14 g16 ls _ _ hW (lv_sub hl [4, 5, 1, 0, 6] rfl) hf
set_option maxRecDepth 20000 in
set_option maxHeartbeats 1000000 in
theorem q_J6_getChars_ba4f3_12 {l : Launch} {Z : ZT} {h : Hp} {a : Nat → Nat} {p1 : Int32} {p2 : Nat} {g : PL} {x0 : Int32} {x5 : Int32} {s0 : Int32} {p : Program} {e : Env} {s : State} {m : MethodId} {args : Array Value} {below : List Frame} {meth : Method} {c : Code} (C : CQ p s m args meth c cJ6_getChars_ba4f3 RJ6 7 (some .int) Z) {out : Int32 × PL} {ls : Array Slot} {H : Heap} {locs : List Loc} (hW : XG Z h a g s.heap H locs) (hl : lv_has ls 7 [(1, .int p1), (2, .ref (ra Z a p2)), (0, .int x0), (5, .int x5)]) (hf : Jp_J6_getChars_ba4f3_12 p1 p2 g x0 x5 s0 = some out) : W p l e (rmP 1 0) s m args below meth c H locs 0 (600 * 0) (MQ below (va_Qi (fun r (_ : Unit) => r = out.1) (fun _ => WdP Z h a out.2) (FR Z)) args s 0 (600 * 0) (FR Z)) (F0 m 12 ls [.int s0]) := by
  refine lv_istore (lv' := [(6, .int s0), (1, .int p1), (2, .ref (ra Z a p2)), (0, .int x0), (5, .int x5)]) C.1 C.2.1 dJ6_getChars_ba4f3_12 hl (by decide) rfl (fun ls hl => ?_)
  refine lv_iload C.1 C.2.1 dJ6_getChars_ba4f3_14 (lv_at hl 0 rfl) ?_
  refine z_ifne (tgt := 22) C hf dJ6_getChars_ba4f3_16 (by decide) (fun hf => ?_) (fun hf => ?_)
  · exact l_J6_getChars_ba4f3_22 C FU x0 x5 g ls _ _ hW (lv_sub hl [1, 2, 3, 4, 0] rfl) hf
  · refine lv_iload_n C.1 C.2.1 dJ6_getChars_ba4f3_19 rfl (lv_at hl 3 rfl) ?_
    refine lv_ineg C.1 C.2.1 dJ6_getChars_ba4f3_20 ?_
    refine z_istn C hf dJ6_getChars_ba4f3_21 rfl hl (by decide) (fun v17 => [(0, .int v17), (6, .int s0), (1, .int p1), (2, .ref (ra Z a p2)), (5, .int x5)]) (fun _ => rfl) (fun v17 ls hf hl => ?_)
    exact l_J6_getChars_ba4f3_22 C FU v17 x5 g ls _ _ hW (lv_sub hl [2, 3, 0, 4, 1] rfl) hf
set_option maxRecDepth 20000 in
set_option maxHeartbeats 1000000 in
theorem c_J6_getChars_ba4f3 {l : Launch} {Z : ZT} {h : Hp} {a : Nat → Nat} {g : PL} {p0 : Int32} {p1 : Int32} {p2 : Nat} {out : Int32 × PL} (hf : fp_J6_getChars_ba4f3 g p0 p1 p2 = some out) : Met l yJ6_getChars_ba4f3 (wY yJ6_getChars_ba4f3 cJ6_getChars_ba4f3 7 (some .int)) (rmP 1 0) (va_Pc [.int p0, .int p1, .ref (ra Z a p2)] (WdP Z h a g)) (va_Qi (fun r (_ : Unit) => r = out.1) (fun _ => WdP Z h a out.2) (FR Z)) 0 (600 * 0) (FR Z) := by
  refine metZ RJ6 rfl (by decide +kernel) (Nat.le_of_ble_eq_true rfl) ?_
  intro p e s m args below meth c C hin hW ls hl
  have hl : lv_has ls 7 [(0, .int p0), (1, .int p1), (2, .ref (ra Z a p2))] := hl
  unfold fp_J6_getChars_ba4f3 at hf
  refine W.widen (k := 0) (n := 600 * 0) (Nat.le_refl _) (Nat.le_refl _) ?_
  refine lv_iload_n C.1 C.2.1 dJ6_getChars_ba4f3_0 rfl (lv_at hl 1 rfl) ?_
  refine lv_istore (lv' := [(5, .int p1), (0, .int p0), (1, .int p1), (2, .ref (ra Z a p2))]) C.1 C.2.1 dJ6_getChars_ba4f3_1 hl (by decide) rfl (fun ls hl => ?_)
  refine lv_iload_n C.1 C.2.1 dJ6_getChars_ba4f3_3 rfl (lv_at hl 1 rfl) ?_
  refine z_ifge (tgt := 11) C hf dJ6_getChars_ba4f3_4 (by decide) (fun hf => ?_) (fun hf => ?_)
  · refine lv_iconst (v := 0) C.1 C.2.1 dJ6_getChars_ba4f3_11 (by decide) ?_
    exact q_J6_getChars_ba4f3_12 C hW (lv_sub hl [2, 3, 1, 0] rfl) hf
  · refine lv_iconst (v := 1) C.1 C.2.1 dJ6_getChars_ba4f3_7 (by decide) ?_
    refine lv_goto (tgt := 12) C.1 C.2.1 dJ6_getChars_ba4f3_8 (by decide) ?_
    exact q_J6_getChars_ba4f3_12 C hW (lv_sub hl [2, 3, 1, 0] rfl) hf
set_option maxRecDepth 20000 in
set_option maxHeartbeats 1000000 in
theorem l_J6_stringSize_0f7a4_16 {l : Launch} {Z : ZT} {h : Hp} {a : Nat → Nat} {g : PL} {x0 : Int32} {x1 : Int32} {p : Program} {e : Env} {s : State} {m : MethodId} {args : Array Value} {below : List Frame} {meth : Method} {c : Code} (C : CQ p s m args meth c cJ6_stringSize_0f7a4 RJ6 4 (some .int) Z) {out : Int32} : ∀ (n : Nat) (x2 : Int32) (x3 : Int32) (ls : Array Slot) (H : Heap) (locs : List Loc), XG Z h a g s.heap H locs → lv_has ls 4 [(0, .int x0), (1, .int x1), (2, .int x2), (3, .int x3)] → Lp (Fp_J6_stringSize_0f7a4_16 g x0 x1) n (x2, x3) = some out → W p l e (rmP 1 0) s m args below meth c H locs 0 (600 * 0) (MQ below (va_Qi (fun r (_ : Unit) => r = out) (fun _ => WdP Z h a g) (FR Z)) args s 0 (600 * 0) (FR Z)) (F0 m 16 ls []) := by
  intro n
  induction n with
  | zero => intro x2 x3 ls H locs hW hl hf; cases hf
  | succ n ih =>
    intro x2 x3 ls H locs hW hl hf
    rw [Lp_s] at hf
    refine lv_iload_n C.1 C.2.1 dJ6_stringSize_0f7a4_16 rfl (lv_at hl 3 rfl) ?_
    refine lv_bipush (v := 10) C.1 C.2.1 dJ6_stringSize_0f7a4_17 (by decide) ?_
    refine z_cmpge (tgt := 42) C hf dJ6_stringSize_0f7a4_19 (by decide) (fun hf => ?_) (fun hf => ?_)
    · refine lv_bipush (v := 10) C.1 C.2.1 dJ6_stringSize_0f7a4_42 (by decide) ?_
      refine lv_iload_n C.1 C.2.1 dJ6_stringSize_0f7a4_44 rfl (lv_at hl 1 rfl) ?_
      refine lv_iadd C.1 C.2.1 dJ6_stringSize_0f7a4_45 ?_
      obtain rfl := Option.some.inj hf
      exact z_iret C hW dJ6_stringSize_0f7a4_46 () rfl (fun _ q => q)
    · refine lv_iload_n C.1 C.2.1 dJ6_stringSize_0f7a4_22 rfl (lv_at hl 0 rfl) ?_
      refine lv_iload_n C.1 C.2.1 dJ6_stringSize_0f7a4_23 rfl (lv_at hl 2 rfl) ?_
      refine z_cmple (tgt := 31) C hf dJ6_stringSize_0f7a4_24 (by decide) (fun hf => ?_) (fun hf => ?_)
      · refine lv_bipush (v := 10) C.1 C.2.1 dJ6_stringSize_0f7a4_31 (by decide) ?_
        refine lv_iload_n C.1 C.2.1 dJ6_stringSize_0f7a4_33 rfl (lv_at hl 2 rfl) ?_
        refine lv_imul C.1 C.2.1 dJ6_stringSize_0f7a4_34 ?_
        refine z_istn C hf dJ6_stringSize_0f7a4_35 rfl hl (by decide) (fun v1 => [(2, .int v1), (0, .int x0), (1, .int x1), (3, .int x3)]) (fun _ => rfl) (fun v1 ls hf hl => ?_)
        refine z_iinc (w := 1) C hf dJ6_stringSize_0f7a4_36 hl (k := 3) rfl (by decide) (by decide) (fun v2 => [(3, .int v2), (2, .int v1), (0, .int x0), (1, .int x1)]) (fun _ => rfl) (fun v2 ls hf hl => ?_)
        refine lv_goto (tgt := 16) C.1 C.2.1 dJ6_stringSize_0f7a4_39 (by decide) ?_
        exact ih v1 v2 ls _ _ hW (lv_sub hl [2, 3, 1, 0] rfl) hf
      · refine lv_iload_n C.1 C.2.1 dJ6_stringSize_0f7a4_27 rfl (lv_at hl 3 rfl) ?_
        refine lv_iload_n C.1 C.2.1 dJ6_stringSize_0f7a4_28 rfl (lv_at hl 1 rfl) ?_
        refine lv_iadd C.1 C.2.1 dJ6_stringSize_0f7a4_29 ?_
        obtain rfl := Option.some.inj hf
        exact z_iret C hW dJ6_stringSize_0f7a4_30 () rfl (fun _ q => q)
set_option maxRecDepth 20000 in
set_option maxHeartbeats 1000000 in
theorem q_J6_stringSize_0f7a4_11 {l : Launch} {Z : ZT} {h : Hp} {a : Nat → Nat} {g : PL} {x0 : Int32} {x1 : Int32} {p : Program} {e : Env} {s : State} {m : MethodId} {args : Array Value} {below : List Frame} {meth : Method} {c : Code} (C : CQ p s m args meth c cJ6_stringSize_0f7a4 RJ6 4 (some .int) Z) {out : Int32} {ls : Array Slot} {H : Heap} {locs : List Loc} (hW : XG Z h a g s.heap H locs) (hl : lv_has ls 4 [(0, .int x0), (1, .int x1)]) (hf : Jp_J6_stringSize_0f7a4_11 g x0 x1 = some out) : W p l e (rmP 1 0) s m args below meth c H locs 0 (600 * 0) (MQ below (va_Qi (fun r (_ : Unit) => r = out) (fun _ => WdP Z h a g) (FR Z)) args s 0 (600 * 0) (FR Z)) (F0 m 11 ls []) := by
  refine lv_bipush (v := -10) C.1 C.2.1 dJ6_stringSize_0f7a4_11 (by decide) ?_
  refine lv_istore_n (lv' := [(2, .int (-10 : Int32)), (0, .int x0), (1, .int x1)]) C.1 C.2.1 dJ6_stringSize_0f7a4_13 rfl hl (by decide) rfl (fun ls hl => ?_)
  refine lv_iconst (v := 1) C.1 C.2.1 dJ6_stringSize_0f7a4_14 (by decide) ?_
  refine lv_istore_n (lv' := [(3, .int (1 : Int32)), (2, .int (-10 : Int32)), (0, .int x0), (1, .int x1)]) C.1 C.2.1 dJ6_stringSize_0f7a4_15 rfl hl (by decide) rfl (fun ls hl => ?_)
  exact l_J6_stringSize_0f7a4_16 C FU (-10 : Int32) (1 : Int32) ls _ _ hW (lv_sub hl [2, 3, 1, 0] rfl) hf
set_option maxRecDepth 20000 in
set_option maxHeartbeats 1000000 in
theorem c_J6_stringSize_0f7a4 {l : Launch} {Z : ZT} {h : Hp} {a : Nat → Nat} {g : PL} {p0 : Int32} {out : Int32} (hf : fp_J6_stringSize_0f7a4 g p0 = some out) : Met l yJ6_stringSize_0f7a4 (wY yJ6_stringSize_0f7a4 cJ6_stringSize_0f7a4 4 (some .int)) (rmP 1 0) (va_Pc [.int p0] (WdP Z h a g)) (va_Qi (fun r (_ : Unit) => r = out) (fun _ => WdP Z h a g) (FR Z)) 0 (600 * 0) (FR Z) := by
  refine metZ RJ6 rfl (by decide +kernel) (Nat.le_of_ble_eq_true rfl) ?_
  intro p e s m args below meth c C hin hW ls hl
  have hl : lv_has ls 4 [(0, .int p0)] := hl
  unfold fp_J6_stringSize_0f7a4 at hf
  refine W.widen (k := 0) (n := 600 * 0) (Nat.le_refl _) (Nat.le_refl _) ?_
  refine lv_iconst (v := 1) C.1 C.2.1 dJ6_stringSize_0f7a4_0 (by decide) ?_
  refine lv_istore_n (lv' := [(1, .int (1 : Int32)), (0, .int p0)]) C.1 C.2.1 dJ6_stringSize_0f7a4_1 rfl hl (by decide) rfl (fun ls hl => ?_)
  refine lv_iload_n C.1 C.2.1 dJ6_stringSize_0f7a4_2 rfl (lv_at hl 1 rfl) ?_
  refine z_iflt (tgt := 11) C hf dJ6_stringSize_0f7a4_3 (by decide) (fun hf => ?_) (fun hf => ?_)
  · exact q_J6_stringSize_0f7a4_11 C hW (lv_sub hl [1, 0] rfl) hf
  · refine lv_iconst (v := 0) C.1 C.2.1 dJ6_stringSize_0f7a4_6 (by decide) ?_
    refine lv_istore_n (lv' := [(1, .int (0 : Int32)), (0, .int p0)]) C.1 C.2.1 dJ6_stringSize_0f7a4_7 rfl hl (by decide) rfl (fun ls hl => ?_)
    refine lv_iload_n C.1 C.2.1 dJ6_stringSize_0f7a4_8 rfl (lv_at hl 1 rfl) ?_
    refine lv_ineg C.1 C.2.1 dJ6_stringSize_0f7a4_9 ?_
    refine z_istn C hf dJ6_stringSize_0f7a4_10 rfl hl (by decide) (fun v3 => [(0, .int v3), (1, .int (0 : Int32))]) (fun _ => rfl) (fun v3 ls hf hl => ?_)
    exact q_J6_stringSize_0f7a4_11 C hW (lv_sub hl [0, 1] rfl) hf
set_option maxRecDepth 20000 in
set_option maxHeartbeats 1000000 in
theorem c_J5_append_c97b9 {l : Launch} {Z : ZT} {h : Hp} {a : Nat → Nat} {g : PL} {p0 : Nat} {p1 : Int32} {out : Nat × PL} (hf : fp_J5_append_c97b9 g p0 p1 = some out) : Met l yJ5_append_c97b9 (wY yJ5_append_c97b9 cJ5_append_c97b9 4 (some (.object "java/lang/AbstractStringBuilder"))) (rmP 4 1) (va_Pc [.ref (ra Z a p0), .int p1] (WdP Z h a g)) (va_Qr (fun (a1 : Nat → Nat) => AG a g a1 out.2) (fun a1 x t => x = ra Z a1 out.1 ∧ WdP Z h a1 out.2 t) (FR Z)) 1 (600 * 1) (FR Z) := by
  refine metZ RJ5 rfl (by decide +kernel) (Nat.le_of_ble_eq_true rfl) ?_
  intro p e s m args below meth c C hin hW ls hl
  have hl : lv_has ls 4 [(0, .ref (ra Z a p0)), (1, .int p1)] := hl
  have hA := AG.rf a g
  unfold fp_J5_append_c97b9 at hf
  refine W.widen (k := 0) (n := 600 * 0) (Nat.le_refl _) (Nat.le_refl _) ?_
  refine lv_aload_n C.1 C.2.1 dJ5_append_c97b9_0 rfl (lv_at hl 0 rfl) ?_
  refine zg_J5_79 C hW hf dJ5_append_c97b9_1 (fun hf => ?_)
  refine z_istn C hf dJ5_append_c97b9_4 rfl hl (by decide) (fun v1 => [(2, .int v1), (0, .ref (ra Z a p0)), (1, .int p1)]) (fun _ => rfl) (fun v1 ls hf hl => ?_)
  refine lv_iload_n C.1 C.2.1 dJ5_append_c97b9_5 rfl (lv_at hl 0 rfl) ?_
  refine lv_iload_n C.1 C.2.1 dJ5_append_c97b9_6 rfl (lv_at hl 2 rfl) ?_
  obtain ⟨u2, hu2, hf⟩ := bnd_t hf
  refine z_calli hW (z_runS C hW hl (c_J6_stringSize_0f7a4 hu2) cw_J5_245 ct_J6_stringSize_0f7a4 (rm_okP (by decide) (by decide)) (rm_cs (by decide)) (As := [.int p1]) rfl rfl (Nat.le_of_ble_eq_true rfl) dJ5_append_c97b9_7) (fun H locs hW => ?_)
  refine W.widen (k := 0) (n := 600 * 0) (by omega) (by omega) ?_
  refine lv_iadd C.1 C.2.1 dJ5_append_c97b9_10 ?_
  refine z_istn C hf dJ5_append_c97b9_11 rfl hl (by decide) (fun v3 => [(3, .int v3), (2, .int v1), (0, .ref (ra Z a p0)), (1, .int p1)]) (fun _ => rfl) (fun v3 ls hf hl => ?_)
  refine lv_aload_n C.1 C.2.1 dJ5_append_c97b9_12 rfl (lv_at hl 2 rfl) ?_
  refine lv_iload_n C.1 C.2.1 dJ5_append_c97b9_13 rfl (lv_at hl 0 rfl) ?_
  obtain ⟨hx0, hf⟩ := ck_t hf
  have hpw := hW.2.2.2
  have hl : lv_has ls 4 [(3, .int v3), (2, .int v1), (0, .ref (ra Z a p0)), (1, .int p1)] := lv_sub hl [0, 1, 2, 3] rfl
  obtain ⟨hb, hf⟩ := ck_t hf
  obtain ⟨u4, hu4, hf⟩ := bnd_t hf
  refine z_callvA hW (z_runU C hW hl hb (ci := 11) (fs := fl_J4 Z a (g.2.2 p0)) rfl rfl (c_J5_ensureCapacityInternal_d00df hu4) cw_J5_100 ci_J5_ensureCapacityInternal_d00df sm_J5_ensureCapacityInternal_d00df cx_J5_ensureCapacityInternal_d00df (rm_okP (by decide) (by decide)) (rm_cs (by decide)) (As := [.int v3]) rfl rfl (Nat.le_of_ble_eq_true rfl) dJ5_append_c97b9_14) (fun a5 H locs hg hW => ?_)
  have e0 := ra_to (Z := Z) hpw hg hx0
  rw [← e0] at hl
  have hA := hA.tr hg
  refine W.widen (k := 1) (n := 600 * 1) (by omega) (by omega) ?_
  refine lv_aload_n C.1 C.2.1 dJ5_append_c97b9_17 rfl (lv_at hl 2 rfl) ?_
  obtain ⟨hb, hf⟩ := ck_t hf
  obtain ⟨u6, hu6, hf⟩ := bnd_t hf
  refine z_calli hW (z_runU C hW hl hb (ci := 11) (fs := fl_J4 Z a5 (u4.2.2 p0)) rfl rfl (c_J5_isLatin1_aae02 hu6) cw_J5_83 ci_J5_isLatin1_aae02 sm_J5_isLatin1_aae02 cx_J5_isLatin1_aae02 (rm_okP (by decide) (by decide)) (rm_cs (by decide)) (As := []) rfl rfl (Nat.le_of_ble_eq_true rfl) dJ5_append_c97b9_18) (fun H locs hW => ?_)
  refine W.widen (k := 1) (n := 600 * 1) (by omega) (by omega) ?_
  refine z_ifeq (tgt := 37) C hf dJ5_append_c97b9_21 (by decide) (fun hf => ?_) (fun hf => ?_)
  · refine lv_iload_n C.1 C.2.1 dJ5_append_c97b9_37 rfl (lv_at hl 3 rfl) ?_
    refine lv_iload_n C.1 C.2.1 dJ5_append_c97b9_38 rfl (lv_at hl 1 rfl) ?_
    refine lv_iload_n C.1 C.2.1 dJ5_append_c97b9_39 rfl (lv_at hl 0 rfl) ?_
    refine lv_aload_n C.1 C.2.1 dJ5_append_c97b9_40 rfl (lv_at hl 2 rfl) ?_
    refine zg_J5_15 C hW hf dJ5_append_c97b9_41 (fun q7 hf => ?_)
    cases hf
  · refine lv_iload_n C.1 C.2.1 dJ5_append_c97b9_24 rfl (lv_at hl 3 rfl) ?_
    refine lv_iload_n C.1 C.2.1 dJ5_append_c97b9_25 rfl (lv_at hl 0 rfl) ?_
    refine lv_aload_n C.1 C.2.1 dJ5_append_c97b9_26 rfl (lv_at hl 2 rfl) ?_
    refine zg_J5_15 C hW hf dJ5_append_c97b9_27 (fun q8 hf => ?_)
    obtain ⟨u9, hu9, hf⟩ := bnd_t hf
    obtain ⟨hgn, hf⟩ := ck_t hf
    have hgn := of_decide_eq_true hgn
    refine z_calli hW (z_runS C hW hl (c_J6_getChars_ba4f3 hu9) cw_J5_248 ct_J6_getChars_ba4f3 (rm_okP (by decide) (by decide)) (rm_cs (by decide)) (As := [.int p1, .int v3, .ref (ra Z a5 q8)]) rfl rfl (Nat.le_of_ble_eq_true rfl) dJ5_append_c97b9_30) (fun H locs hW => ?_)
    refine W.widen (k := 1) (n := 600 * 1) (by omega) (by omega) ?_
    have hA := hA.w hgn
    refine lv_pop C.1 C.2.1 dJ5_append_c97b9_33 rfl ?_
    refine lv_goto (tgt := 48) C.1 C.2.1 dJ5_append_c97b9_34 (by decide) ?_
    refine lv_aload_n C.1 C.2.1 dJ5_append_c97b9_48 rfl (lv_at hl 2 rfl) ?_
    refine lv_iload_n C.1 C.2.1 dJ5_append_c97b9_49 rfl (lv_at hl 0 rfl) ?_
    refine zp_J5_79 C hW hf dJ5_append_c97b9_50 (fun g10 H locs hf hgn hW => ?_)
    have hA := hA.w hgn
    refine lv_aload_n C.1 C.2.1 dJ5_append_c97b9_53 rfl (lv_at hl 2 rfl) ?_
    obtain rfl := Option.some.inj hf
    exact z_aret C hW (Or.inl ⟨_, rfl⟩) dJ5_append_c97b9_54 a5 hA (fun _ q => ⟨rfl, q⟩)
set_option maxRecDepth 20000 in
set_option maxHeartbeats 1000000 in
theorem c_J4_append_bf812 {l : Launch} {Z : ZT} {h : Hp} {a : Nat → Nat} {g : PL} {p0 : Nat} {p1 : Int32} {out : Nat × PL} (hf : fp_J4_append_bf812 g p0 p1 = some out) : Met l yJ4_append_bf812 (wY yJ4_append_bf812 cJ4_append_bf812 2 (some (.object "java/lang/StringBuilder"))) (rmP 5 1) (va_Pc [.ref (ra Z a p0), .int p1] (WdP Z h a g)) (va_Qr (fun (a1 : Nat → Nat) => AG a g a1 out.2) (fun a1 x t => x = ra Z a1 out.1 ∧ WdP Z h a1 out.2 t) (FR Z)) 1 (600 * 1) (FR Z) := by
  refine metZ RJ4 rfl (by decide +kernel) (Nat.le_of_ble_eq_true rfl) ?_
  intro p e s m args below meth c C hin hW ls hl
  have hl : lv_has ls 2 [(0, .ref (ra Z a p0)), (1, .int p1)] := hl
  have hA := AG.rf a g
  unfold fp_J4_append_bf812 at hf
  refine W.widen (k := 0) (n := 600 * 0) (Nat.le_refl _) (Nat.le_refl _) ?_
  refine lv_aload_n C.1 C.2.1 dJ4_append_bf812_0 rfl (lv_at hl 0 rfl) ?_
  refine lv_iload_n C.1 C.2.1 dJ4_append_bf812_1 rfl (lv_at hl 1 rfl) ?_
  obtain ⟨hx0, hf⟩ := ck_t hf
  have hpw := hW.2.2.2
  have hl : lv_has ls 2 [(0, .ref (ra Z a p0)), (1, .int p1)] := lv_sub hl [0, 1] rfl
  obtain ⟨hb, hf⟩ := ck_t hf
  obtain ⟨u1, hu1, hf⟩ := bnd_t hf
  refine z_callrA hW (z_runSU C hW hl hb (ci := 11) (fs := fl_J4 Z a (g.2.2 p0)) rfl rfl (c_J5_append_c97b9 hu1) cw_J4_53 ci_J5_append_c97b9 sm_J5_append_c97b9 su_J4 (by decide) (rm_okP (by decide) (by decide)) (rm_cs (by decide)) (As := [.int p1]) rfl rfl (Nat.le_of_ble_eq_true rfl) dJ4_append_bf812_2) (fun a2 H locs hg hW => ?_)
  have e0 := ra_to (Z := Z) hpw hg hx0
  rw [← e0] at hl
  have hA := hA.tr hg
  refine W.widen (k := 1) (n := 600 * 1) (by omega) (by omega) ?_
  refine lv_pop C.1 C.2.1 dJ4_append_bf812_5 rfl ?_
  refine lv_aload_n C.1 C.2.1 dJ4_append_bf812_6 rfl (lv_at hl 0 rfl) ?_
  obtain rfl := Option.some.inj hf
  exact z_aret C hW (Or.inl ⟨_, rfl⟩) dJ4_append_bf812_7 a2 hA (fun _ q => ⟨rfl, q⟩)
set_option maxRecDepth 20000 in
set_option maxHeartbeats 1000000 in
theorem c_J1_canEncode_fc78d {l : Launch} {Z : ZT} {h : Hp} {a : Nat → Nat} {g : PL} {p0 : Int32} {out : Int32} (hf : fp_J1_canEncode_fc78d g p0 = some out) : Met l yJ1_canEncode_fc78d (wY yJ1_canEncode_fc78d cJ1_canEncode_fc78d 1 (some .boolean)) (rmP 1 0) (va_Pc [.int p0] (WdP Z h a g)) (va_Qi (fun r (_ : Unit) => r = out) (fun _ => WdP Z h a g) (FR Z)) 0 (600 * 0) (FR Z) := by
  refine metZ RJ1 rfl (by decide +kernel) (Nat.le_of_ble_eq_true rfl) ?_
  intro p e s m args below meth c C hin hW ls hl
  have hl : lv_has ls 1 [(0, .int p0)] := hl
  unfold fp_J1_canEncode_fc78d at hf
  refine W.widen (k := 0) (n := 600 * 0) (Nat.le_refl _) (Nat.le_refl _) ?_
  refine lv_iload_n C.1 C.2.1 dJ1_canEncode_fc78d_0 rfl (lv_at hl 0 rfl) ?_
  refine lv_sipush (v := 255) C.1 C.2.1 dJ1_canEncode_fc78d_1 (by decide) ?_
  refine z_cmpgt (tgt := 11) C hf dJ1_canEncode_fc78d_4 (by decide) (fun hf => ?_) (fun hf => ?_)
  · refine lv_iconst (v := 0) C.1 C.2.1 dJ1_canEncode_fc78d_11 (by decide) ?_
    obtain rfl := Option.some.inj hf
    exact z_zret C hW (by decide) dJ1_canEncode_fc78d_12 () rfl (fun _ q => q)
  · refine lv_iconst (v := 1) C.1 C.2.1 dJ1_canEncode_fc78d_7 (by decide) ?_
    refine lv_goto (tgt := 12) C.1 C.2.1 dJ1_canEncode_fc78d_8 (by decide) ?_
    obtain rfl := Option.some.inj hf
    exact z_zret C hW (by decide) dJ1_canEncode_fc78d_12 () rfl (fun _ q => q)
set_option maxRecDepth 20000 in
set_option maxHeartbeats 1000000 in
theorem q_J5_append_3fe6f_45 {l : Launch} {Z : ZT} {h : Hp} {a0 : Nat → Nat} {g0 : PL} {p0 : Nat} {p1 : Int32} {g : PL} {p : Program} {e : Env} {s : State} {m : MethodId} {args : Array Value} {below : List Frame} {meth : Method} {c : Code} (C : CQ p s m args meth c cJ5_append_3fe6f RJ5 2 (some (.object "java/lang/AbstractStringBuilder")) Z) {out : Nat × PL} {a : Nat → Nat} (hA : AG a0 g0 a g) {ls : Array Slot} {H : Heap} {locs : List Loc} (hW : XG Z h a g s.heap H locs) (hl : lv_has ls 2 [(0, .ref (ra Z a p0)), (1, .int p1)]) (hf : Jp_J5_append_3fe6f_45 p0 p1 g = some out) : W p l e (rmP 4 1) s m args below meth c H locs 1 (600 * 1) (MQ below (va_Qr (fun (a1 : Nat → Nat) => AG a0 g0 a1 out.2) (fun a1 x t => x = ra Z a1 out.1 ∧ WdP Z h a1 out.2 t) (FR Z)) args s 1 (600 * 1) (FR Z)) (F0 m 45 ls []) := by
  rw [Jp_J5_append_3fe6f_45] at hf
  refine lv_aload_n C.1 C.2.1 dJ5_append_3fe6f_45 rfl (lv_at hl 0 rfl) ?_
  obtain ⟨hb, hf⟩ := ck_t hf
  obtain ⟨u1, hu1, hf⟩ := bnd_t hf
  refine z_calli hW (z_runU C hW hl hb (ci := 11) (fs := fl_J4 Z a (g.2.2 p0)) rfl rfl (c_J5_isLatin1_aae02 hu1) cw_J5_83 ci_J5_isLatin1_aae02 sm_J5_isLatin1_aae02 cx_J5_isLatin1_aae02 (rm_okP (by decide) (by decide)) (rm_cs (by decide)) (As := []) rfl rfl (Nat.le_of_ble_eq_true rfl) dJ5_append_3fe6f_46) (fun H locs hW => ?_)
  refine W.widen (k := 1) (n := 600 * 1) (by omega) (by omega) ?_
  refine z_ifeq (tgt := 56) C hf dJ5_append_3fe6f_49 (by decide) (fun hf => ?_) (fun hf => ?_)
  · refine lv_aload_n C.1 C.2.1 dJ5_append_3fe6f_56 rfl (lv_at hl 0 rfl) ?_
    refine zg_J5_15 C hW hf dJ5_append_3fe6f_57 (fun q2 hf => ?_)
    refine lv_aload_n C.1 C.2.1 dJ5_append_3fe6f_60 rfl (lv_at hl 0 rfl) ?_
    refine lv_dup C.1 C.2.1 dJ5_append_3fe6f_61 rfl ?_
    refine zg_J5_79 C hW hf dJ5_append_3fe6f_62 (fun hf => ?_)
    refine lv_dup_x1 C.1 C.2.1 dJ5_append_3fe6f_65 rfl rfl ?_
    refine lv_iconst (v := 1) C.1 C.2.1 dJ5_append_3fe6f_66 (by decide) ?_
    refine lv_iadd C.1 C.2.1 dJ5_append_3fe6f_67 ?_
    refine zp_J5_79 C hW hf dJ5_append_3fe6f_68 (fun g3 H locs hf hgn hW => ?_)
    have hA := hA.w hgn
    refine lv_iload_n C.1 C.2.1 dJ5_append_3fe6f_71 rfl (lv_at hl 1 rfl) ?_
    cases hf
  · refine lv_aload_n C.1 C.2.1 dJ5_append_3fe6f_52 rfl (lv_at hl 0 rfl) ?_
    cases hf
set_option maxRecDepth 20000 in
set_option maxHeartbeats 1000000 in
theorem c_J5_append_3fe6f {l : Launch} {Z : ZT} {h : Hp} {a : Nat → Nat} {g : PL} {p0 : Nat} {p1 : Int32} {out : Nat × PL} (hf : fp_J5_append_3fe6f g p0 p1 = some out) : Met l yJ5_append_3fe6f (wY yJ5_append_3fe6f cJ5_append_3fe6f 2 (some (.object "java/lang/AbstractStringBuilder"))) (rmP 4 1) (va_Pc [.ref (ra Z a p0), .int p1] (WdP Z h a g)) (va_Qr (fun (a1 : Nat → Nat) => AG a g a1 out.2) (fun a1 x t => x = ra Z a1 out.1 ∧ WdP Z h a1 out.2 t) (FR Z)) 1 (600 * 1) (FR Z) := by
  refine metZ RJ5 rfl (by decide +kernel) (Nat.le_of_ble_eq_true rfl) ?_
  intro p e s m args below meth c C hin hW ls hl
  have hl : lv_has ls 2 [(0, .ref (ra Z a p0)), (1, .int p1)] := hl
  have hA := AG.rf a g
  unfold fp_J5_append_3fe6f at hf
  refine W.widen (k := 0) (n := 600 * 0) (Nat.le_refl _) (Nat.le_refl _) ?_
  refine lv_aload_n C.1 C.2.1 dJ5_append_3fe6f_0 rfl (lv_at hl 0 rfl) ?_
  refine lv_aload_n C.1 C.2.1 dJ5_append_3fe6f_1 rfl (lv_at hl 0 rfl) ?_
  refine zg_J5_79 C hW hf dJ5_append_3fe6f_2 (fun hf => ?_)
  refine lv_iconst (v := 1) C.1 C.2.1 dJ5_append_3fe6f_5 (by decide) ?_
  refine lv_iadd C.1 C.2.1 dJ5_append_3fe6f_6 ?_
  obtain ⟨hx0, hf⟩ := ck_t hf
  have hpw := hW.2.2.2
  have hl : lv_has ls 2 [(0, .ref (ra Z a p0)), (1, .int p1)] := lv_sub hl [0, 1] rfl
  obtain ⟨hb, hf⟩ := ck_t hf
  obtain ⟨u4, hu4, hf⟩ := bnd_t hf
  refine z_callvA hW (z_runU C hW hl hb (ci := 11) (fs := fl_J4 Z a (g.2.2 p0)) rfl rfl (c_J5_ensureCapacityInternal_d00df hu4) cw_J5_100 ci_J5_ensureCapacityInternal_d00df sm_J5_ensureCapacityInternal_d00df cx_J5_ensureCapacityInternal_d00df (rm_okP (by decide) (by decide)) (rm_cs (by decide)) (As := [.int (g.2.2 p0 3 + (1 : Int32))]) rfl rfl (Nat.le_of_ble_eq_true rfl) dJ5_append_3fe6f_7) (fun a5 H locs hg hW => ?_)
  have e0 := ra_to (Z := Z) hpw hg hx0
  rw [← e0] at hl
  have hA := hA.tr hg
  refine W.widen (k := 1) (n := 600 * 1) (by omega) (by omega) ?_
  refine lv_aload_n C.1 C.2.1 dJ5_append_3fe6f_10 rfl (lv_at hl 0 rfl) ?_
  obtain ⟨hb, hf⟩ := ck_t hf
  obtain ⟨u6, hu6, hf⟩ := bnd_t hf
  refine z_calli hW (z_runU C hW hl hb (ci := 11) (fs := fl_J4 Z a5 (u4.2.2 p0)) rfl rfl (c_J5_isLatin1_aae02 hu6) cw_J5_83 ci_J5_isLatin1_aae02 sm_J5_isLatin1_aae02 cx_J5_isLatin1_aae02 (rm_okP (by decide) (by decide)) (rm_cs (by decide)) (As := []) rfl rfl (Nat.le_of_ble_eq_true rfl) dJ5_append_3fe6f_11) (fun H locs hW => ?_)
  refine W.widen (k := 1) (n := 600 * 1) (by omega) (by omega) ?_
  refine z_ifeq (tgt := 45) C hf dJ5_append_3fe6f_14 (by decide) (fun hf => ?_) (fun hf => ?_)
  · exact q_J5_append_3fe6f_45 C hA hW (lv_sub hl [0, 1] rfl) hf
  · refine lv_iload_n C.1 C.2.1 dJ5_append_3fe6f_17 rfl (lv_at hl 1 rfl) ?_
    obtain ⟨u7, hu7, hf⟩ := bnd_t hf
    refine z_calli hW (z_runS C hW hl (c_J1_canEncode_fc78d hu7) cw_J5_191 ct_J1_canEncode_fc78d (rm_okP (by decide) (by decide)) (rm_cs (by decide)) (As := [.int p1]) rfl rfl (Nat.le_of_ble_eq_true rfl) dJ5_append_3fe6f_18) (fun H locs hW => ?_)
    refine W.widen (k := 1) (n := 600 * 1) (by omega) (by omega) ?_
    refine z_ifeq (tgt := 45) C hf dJ5_append_3fe6f_21 (by decide) (fun hf => ?_) (fun hf => ?_)
    · exact q_J5_append_3fe6f_45 C hA hW (lv_sub hl [0, 1] rfl) hf
    · refine lv_aload_n C.1 C.2.1 dJ5_append_3fe6f_24 rfl (lv_at hl 0 rfl) ?_
      refine zg_J5_15 C hW hf dJ5_append_3fe6f_25 (fun q8 hf => ?_)
      refine lv_aload_n C.1 C.2.1 dJ5_append_3fe6f_28 rfl (lv_at hl 0 rfl) ?_
      refine lv_dup C.1 C.2.1 dJ5_append_3fe6f_29 rfl ?_
      refine zg_J5_79 C hW hf dJ5_append_3fe6f_30 (fun hf => ?_)
      refine lv_dup_x1 C.1 C.2.1 dJ5_append_3fe6f_33 rfl rfl ?_
      refine lv_iconst (v := 1) C.1 C.2.1 dJ5_append_3fe6f_34 (by decide) ?_
      refine lv_iadd C.1 C.2.1 dJ5_append_3fe6f_35 ?_
      refine zp_J5_79 C hW hf dJ5_append_3fe6f_36 (fun g9 H locs hf hgn hW => ?_)
      have hA := hA.w hgn
      refine lv_iload_n C.1 C.2.1 dJ5_append_3fe6f_39 rfl (lv_at hl 1 rfl) ?_
      refine lv_i2b (v := i2b p1) C.1 C.2.1 dJ5_append_3fe6f_40 rfl ?_
      refine z_bast C hW hf dJ5_append_3fe6f_41 (fun g10 H locs hf hgn hW => ?_)
      have hA := hA.w (show g10.1 = g9.1 from (congrArg (fun q : PL => q.1) hgn).trans rfl)
      refine lv_goto (tgt := 75) C.1 C.2.1 dJ5_append_3fe6f_42 (by decide) ?_
      refine lv_aload_n C.1 C.2.1 dJ5_append_3fe6f_75 rfl (lv_at hl 0 rfl) ?_
      obtain rfl := Option.some.inj hf
      exact z_aret C hW (Or.inl ⟨_, rfl⟩) dJ5_append_3fe6f_76 a5 hA (fun _ q => ⟨rfl, q⟩)
set_option maxRecDepth 20000 in
set_option maxHeartbeats 1000000 in
theorem c_J4_append_cf468 {l : Launch} {Z : ZT} {h : Hp} {a : Nat → Nat} {g : PL} {p0 : Nat} {p1 : Int32} {out : Nat × PL} (hf : fp_J4_append_cf468 g p0 p1 = some out) : Met l yJ4_append_cf468 (wY yJ4_append_cf468 cJ4_append_cf468 2 (some (.object "java/lang/StringBuilder"))) (rmP 5 1) (va_Pc [.ref (ra Z a p0), .int p1] (WdP Z h a g)) (va_Qr (fun (a1 : Nat → Nat) => AG a g a1 out.2) (fun a1 x t => x = ra Z a1 out.1 ∧ WdP Z h a1 out.2 t) (FR Z)) 1 (600 * 1) (FR Z) := by
  refine metZ RJ4 rfl (by decide +kernel) (Nat.le_of_ble_eq_true rfl) ?_
  intro p e s m args below meth c C hin hW ls hl
  have hl : lv_has ls 2 [(0, .ref (ra Z a p0)), (1, .int p1)] := hl
  have hA := AG.rf a g
  unfold fp_J4_append_cf468 at hf
  refine W.widen (k := 0) (n := 600 * 0) (Nat.le_refl _) (Nat.le_refl _) ?_
  refine lv_aload_n C.1 C.2.1 dJ4_append_cf468_0 rfl (lv_at hl 0 rfl) ?_
  refine lv_iload_n C.1 C.2.1 dJ4_append_cf468_1 rfl (lv_at hl 1 rfl) ?_
  obtain ⟨hx0, hf⟩ := ck_t hf
  have hpw := hW.2.2.2
  have hl : lv_has ls 2 [(0, .ref (ra Z a p0)), (1, .int p1)] := lv_sub hl [0, 1] rfl
  obtain ⟨hb, hf⟩ := ck_t hf
  obtain ⟨u1, hu1, hf⟩ := bnd_t hf
  refine z_callrA hW (z_runSU C hW hl hb (ci := 11) (fs := fl_J4 Z a (g.2.2 p0)) rfl rfl (c_J5_append_3fe6f hu1) cw_J4_50 ci_J5_append_3fe6f sm_J5_append_3fe6f su_J4 (by decide) (rm_okP (by decide) (by decide)) (rm_cs (by decide)) (As := [.int p1]) rfl rfl (Nat.le_of_ble_eq_true rfl) dJ4_append_cf468_2) (fun a2 H locs hg hW => ?_)
  have e0 := ra_to (Z := Z) hpw hg hx0
  rw [← e0] at hl
  have hA := hA.tr hg
  refine W.widen (k := 1) (n := 600 * 1) (by omega) (by omega) ?_
  refine lv_pop C.1 C.2.1 dJ4_append_cf468_5 rfl ?_
  refine lv_aload_n C.1 C.2.1 dJ4_append_cf468_6 rfl (lv_at hl 0 rfl) ?_
  obtain rfl := Option.some.inj hf
  exact z_aret C hW (Or.inl ⟨_, rfl⟩) dJ4_append_cf468_7 a2 hA (fun _ q => ⟨rfl, q⟩)
