set_option maxRecDepth 20000 in
set_option maxHeartbeats 1000000 in
theorem c_J5_init_d00df {l : Launch} {Z : ZT} {h : Hp} {a : Nat → Nat} {g : PL} {p0 : Nat} {p1 : Int32} {out : PL} (hf : fp_J5_init_d00df g p0 p1 = some out) : Met l yJ5_init_d00df (wY yJ5_init_d00df cJ5_init_d00df 2 none) (rmP 1 1) (va_Pc [.ref (ra Z a p0), .int p1] (WdP Z h a g)) (va_Qv (fun (a1 : Nat → Nat) => AG a g a1 out) (fun a1 => WdP Z h a1 out) (FR Z)) 1 (600 * 1) (FR Z) := by
  refine metZ RJ5 rfl (by decide +kernel) (Nat.le_of_ble_eq_true rfl) ?_
  intro p e s m args below meth c C hin hW ls hl
  have hin : meth.name = "<init>" := hin
  have hl : lv_has ls 2 [(0, .ref (ra Z a p0)), (1, .int p1)] := hl
  have hA := AG.rf a g
  unfold fp_J5_init_d00df at hf
  refine W.widen (k := 0) (n := 600 * 0) (Nat.le_refl _) (Nat.le_refl _) ?_
  refine lv_aload_n C.1 C.2.1 dJ5_init_d00df_0 rfl (lv_at hl 0 rfl) ?_
  refine z_objX oi_i oi_c C hl ml_J5_3 dJ5_init_d00df_1 (rm_o (by decide)) ?_
  refine va_gets C.1 C.2.1 C.2.2.2.2.2.2.2.2.2.1.2.2.1 hW.2.1 C.2.2.2.1 (C.2.2.1 _ mst_J5_18) (fun _ q => q) dJ5_init_d00df_4 ?_
  refine z_ifeq (tgt := 25) C hf dJ5_init_d00df_7 (by decide) (fun hf => ?_) (fun hf => ?_)
  · refine lv_aload_n C.1 C.2.1 dJ5_init_d00df_25 rfl (lv_at hl 0 rfl) ?_
    refine lv_iload_n C.1 C.2.1 dJ5_init_d00df_26 rfl (lv_at hl 1 rfl) ?_
    cases hf
  · refine lv_aload_n C.1 C.2.1 dJ5_init_d00df_10 rfl (lv_at hl 0 rfl) ?_
    refine lv_iload_n C.1 C.2.1 dJ5_init_d00df_11 rfl (lv_at hl 1 rfl) ?_
    obtain ⟨hx0, hf⟩ := ck_t hf
    have hpw := hW.2.2.2
    have hl : lv_has ls 2 [(0, .ref (ra Z a p0)), (1, .int p1)] := lv_sub hl [0, 1] rfl
    refine z_newB C hW ac_byte hf ⟨by show _ + 1 ≤ 1; omega, by show _ + 600 ≤ 600 * 1; omega⟩ dJ5_init_d00df_12 (fun a2 g1 H hf hg hW => ?_)
    have e0 := ra_to (Z := Z) hpw hg hx0
    rw [← e0] at hl
    rw [← e0]
    have hA := hA.tr hg
    refine W.widen (k := 1) (n := 600 * 1) (by omega) (by omega) ?_
    refine zp_J5_15 C hW hf dJ5_init_d00df_14 (fun g3 H locs hf hgn hW => ?_)
    have hA := hA.w hgn
    refine lv_aload_n C.1 C.2.1 dJ5_init_d00df_17 rfl (lv_at hl 0 rfl) ?_
    refine lv_iconst (v := 0) C.1 C.2.1 dJ5_init_d00df_18 (by decide) ?_
    refine zp_J5_22 C hW rfl hf dJ5_init_d00df_19 (fun g4 H locs hf hgn hW => ?_)
    have hA := hA.w hgn
    refine lv_goto (tgt := 38) C.1 C.2.1 dJ5_init_d00df_22 (by decide) ?_
    obtain rfl := Option.some.inj hf
    exact z_vret C hW dJ5_init_d00df_38 a2 hA (fun _ q => q)
set_option maxRecDepth 20000 in
set_option maxHeartbeats 1000000 in
theorem c_J4_init_da8c8 {l : Launch} {Z : ZT} {h : Hp} {a : Nat → Nat} {g : PL} {p0 : Nat} {out : PL} (hf : fp_J4_init_da8c8 g p0 = some out) : Met l yJ4_init_da8c8 (wY yJ4_init_da8c8 cJ4_init_da8c8 1 none) (rmP 2 1) (va_Pc [.ref (ra Z a p0)] (WdP Z h a g)) (va_Qv (fun (a1 : Nat → Nat) => AG a g a1 out) (fun a1 => WdP Z h a1 out) (FR Z)) 1 (600 * 1) (FR Z) := by
  refine metZ RJ4 rfl (by decide +kernel) (Nat.le_of_ble_eq_true rfl) ?_
  intro p e s m args below meth c C hin hW ls hl
  have hin : meth.name = "<init>" := hin
  have hl : lv_has ls 1 [(0, .ref (ra Z a p0))] := hl
  have hA := AG.rf a g
  unfold fp_J4_init_da8c8 at hf
  refine W.widen (k := 0) (n := 600 * 0) (Nat.le_refl _) (Nat.le_refl _) ?_
  refine lv_aload_n C.1 C.2.1 dJ4_init_da8c8_0 rfl (lv_at hl 0 rfl) ?_
  refine lv_bipush (v := 16) C.1 C.2.1 dJ4_init_da8c8_1 (by decide) ?_
  have hpw := hW.2.2.2
  have hl : lv_has ls 1 [] := lv_sub hl [] rfl
  obtain ⟨u1, hu1, hf⟩ := bnd_t hf
  refine z_callvA hW (z_runI C hW hl (c_J5_init_d00df hu1) cw_J4_1 ci_J5_init_d00df rfl (rm_okP (by decide) (by decide)) (rm_cs (by decide)) (As := [.int (16 : Int32)]) rfl rfl (Nat.le_of_ble_eq_true rfl) dJ4_init_da8c8_3) (fun a2 H locs hg hW => ?_)
  have hA := hA.tr hg
  refine W.widen (k := 1) (n := 600 * 1) (by omega) (by omega) ?_
  obtain rfl := Option.some.inj hf
  exact z_vret C hW dJ4_init_da8c8_6 a2 hA (fun _ q => q)
set_option maxRecDepth 20000 in
set_option maxHeartbeats 1000000 in
theorem c_J5_length_8abf5 {l : Launch} {Z : ZT} {h : Hp} {a : Nat → Nat} {g : PL} {p0 : Nat} {out : Int32} (hf : fp_J5_length_8abf5 g p0 = some out) : Met l yJ5_length_8abf5 (wY yJ5_length_8abf5 cJ5_length_8abf5 1 (some .int)) (rmP 1 0) (va_Pc [.ref (ra Z a p0)] (WdP Z h a g)) (va_Qi (fun r (_ : Unit) => r = out) (fun _ => WdP Z h a g) (FR Z)) 0 (600 * 0) (FR Z) := by
  refine metZ RJ5 rfl (by decide +kernel) (Nat.le_of_ble_eq_true rfl) ?_
  intro p e s m args below meth c C hin hW ls hl
  have hl : lv_has ls 1 [(0, .ref (ra Z a p0))] := hl
  unfold fp_J5_length_8abf5 at hf
  refine W.widen (k := 0) (n := 600 * 0) (Nat.le_refl _) (Nat.le_refl _) ?_
  refine lv_aload_n C.1 C.2.1 dJ5_length_8abf5_0 rfl (lv_at hl 0 rfl) ?_
  refine zg_J5_79 C hW hf dJ5_length_8abf5_1 (fun hf => ?_)
  obtain rfl := Option.some.inj hf
  exact z_iret C hW dJ5_length_8abf5_4 () rfl (fun _ q => q)
set_option maxRecDepth 20000 in
set_option maxHeartbeats 1000000 in
theorem c_J4_length_8abf5 {l : Launch} {Z : ZT} {h : Hp} {a : Nat → Nat} {g : PL} {p0 : Nat} {out : Int32} (hf : fp_J4_length_8abf5 g p0 = some out) : Met l yJ4_length_8abf5 (wY yJ4_length_8abf5 cJ4_length_8abf5 1 (some .int)) (rmP 2 0) (va_Pc [.ref (ra Z a p0)] (WdP Z h a g)) (va_Qi (fun r (_ : Unit) => r = out) (fun _ => WdP Z h a g) (FR Z)) 0 (600 * 0) (FR Z) := by
  refine metZ RJ4 rfl (by decide +kernel) (Nat.le_of_ble_eq_true rfl) ?_
  intro p e s m args below meth c C hin hW ls hl
  have hl : lv_has ls 1 [(0, .ref (ra Z a p0))] := hl
  unfold fp_J4_length_8abf5 at hf
  refine W.widen (k := 0) (n := 600 * 0) (Nat.le_refl _) (Nat.le_refl _) ?_
  refine lv_aload_n C.1 C.2.1 dJ4_length_8abf5_0 rfl (lv_at hl 0 rfl) ?_
  obtain ⟨hb, hf⟩ := ck_t hf
  obtain ⟨u1, hu1, hf⟩ := bnd_t hf
  refine z_calli hW (z_runSU C hW hl hb (ci := 11) (fs := fl_J4 Z a (g.2.2 p0)) rfl rfl (c_J5_length_8abf5 hu1) cw_J4_343 ci_J5_length_8abf5 sm_J5_length_8abf5 su_J4 (by decide) (rm_okP (by decide) (by decide)) (rm_cs (by decide)) (As := []) rfl rfl (Nat.le_of_ble_eq_true rfl) dJ4_length_8abf5_1) (fun H locs hW => ?_)
  refine W.widen (k := 0) (n := 600 * 0) (by omega) (by omega) ?_
  obtain rfl := Option.some.inj hf
  exact z_iret C hW dJ4_length_8abf5_4 () rfl (fun _ q => q)
set_option maxRecDepth 20000 in
set_option maxHeartbeats 1000000 in
theorem c_J5_getValue_6d5f1 {l : Launch} {Z : ZT} {h : Hp} {a : Nat → Nat} {g : PL} {p0 : Nat} {out : Nat} (hf : fp_J5_getValue_6d5f1 g p0 = some out) : Met l yJ5_getValue_6d5f1 (wY yJ5_getValue_6d5f1 cJ5_getValue_6d5f1 1 (some (.array .byte))) (rmP 1 0) (va_Pc [.ref (ra Z a p0)] (WdP Z h a g)) (va_Qr (fun (_ : Unit) => True) (fun _ x t => x = ra Z a out ∧ WdP Z h a g t) (FR Z)) 0 (600 * 0) (FR Z) := by
  refine metZ RJ5 rfl (by decide +kernel) (Nat.le_of_ble_eq_true rfl) ?_
  intro p e s m args below meth c C hin hW ls hl
  have hl : lv_has ls 1 [(0, .ref (ra Z a p0))] := hl
  unfold fp_J5_getValue_6d5f1 at hf
  refine W.widen (k := 0) (n := 600 * 0) (Nat.le_refl _) (Nat.le_refl _) ?_
  refine lv_aload_n C.1 C.2.1 dJ5_getValue_6d5f1_0 rfl (lv_at hl 0 rfl) ?_
  refine zg_J5_15 C hW hf dJ5_getValue_6d5f1_1 (fun q1 hf => ?_)
  obtain rfl := Option.some.inj hf
  exact z_aret C hW (Or.inr ⟨_, rfl⟩) dJ5_getValue_6d5f1_4 () trivial (fun _ q => ⟨rfl, q⟩)
set_option maxRecDepth 20000 in
set_option maxHeartbeats 1000000 in
theorem c_J7_checkLength_df160 {l : Launch} {Z : ZT} {h : Hp} {a : Nat → Nat} {g : PL} {p0 : Int32} {p1 : Int32} {out : Unit} (hf : fp_J7_checkLength_df160 g p0 p1 = some out) : Met l yJ7_checkLength_df160 (wY yJ7_checkLength_df160 cJ7_checkLength_df160 2 none) (rmP 1 0) (va_Pc [.int p0, .int p1] (WdP Z h a g)) (va_Qv (fun (_ : Unit) => True) (fun _ => WdP Z h a g) (FR Z)) 0 (600 * 0) (FR Z) := by
  refine metZ RJ7 rfl (by decide +kernel) (Nat.le_of_ble_eq_true rfl) ?_
  intro p e s m args below meth c C hin hW ls hl
  have hl : lv_has ls 2 [(0, .int p0), (1, .int p1)] := hl
  unfold fp_J7_checkLength_df160 at hf
  refine W.widen (k := 0) (n := 600 * 0) (Nat.le_refl _) (Nat.le_refl _) ?_
  refine lv_iload_n C.1 C.2.1 dJ7_checkLength_df160_0 rfl (lv_at hl 1 rfl) ?_
  refine lv_iload_n C.1 C.2.1 dJ7_checkLength_df160_1 rfl (lv_at hl 0 rfl) ?_
  refine z_cmpge (tgt := 37) C hf dJ7_checkLength_df160_2 (by decide) (fun hf => ?_) (fun hf => ?_)
  · obtain rfl := Option.some.inj hf
    exact z_vret C hW dJ7_checkLength_df160_37 () trivial (fun _ q => q)
  · cases hf
set_option maxRecDepth 20000 in
set_option maxHeartbeats 1000000 in
theorem c_J7_copyOfRangeByte_39247 {l : Launch} {Z : ZT} {h : Hp} {a : Nat → Nat} {g : PL} {p0 : Nat} {p1 : Int32} {p2 : Int32} {out : Nat × PL} (hf : fp_J7_copyOfRangeByte_39247 g p0 p1 p2 = some out) : Met l yJ7_copyOfRangeByte_39247 (wY yJ7_copyOfRangeByte_39247 cJ7_copyOfRangeByte_39247 5 (some (.array .byte))) (rmP 2 1) (va_Pc [.ref (ra Z a p0), .int p1, .int p2] (WdP Z h a g)) (va_Qr (fun (a1 : Nat → Nat) => AG a g a1 out.2) (fun a1 x t => x = ra Z a1 out.1 ∧ WdP Z h a1 out.2 t) (FR Z)) 1 (600 * 1) (FR Z) := by
  refine metZ RJ7 rfl (by decide +kernel) (Nat.le_of_ble_eq_true rfl) ?_
  intro p e s m args below meth c C hin hW ls hl
  have hl : lv_has ls 5 [(0, .ref (ra Z a p0)), (1, .int p1), (2, .int p2)] := hl
  have hA := AG.rf a g
  unfold fp_J7_copyOfRangeByte_39247 at hf
  refine W.widen (k := 0) (n := 600 * 0) (Nat.le_refl _) (Nat.le_refl _) ?_
  refine lv_iload_n C.1 C.2.1 dJ7_copyOfRangeByte_39247_0 rfl (lv_at hl 1 rfl) ?_
  refine lv_iload_n C.1 C.2.1 dJ7_copyOfRangeByte_39247_1 rfl (lv_at hl 2 rfl) ?_
  obtain ⟨u1, hu1, hf⟩ := bnd_t hf
  refine z_callv hW (z_runS C hW hl (c_J7_checkLength_df160 hu1) cw_J7_343 ct_J7_checkLength_df160 (rm_okP (by decide) (by decide)) (rm_cs (by decide)) (As := [.int p1, .int p2]) rfl rfl (Nat.le_of_ble_eq_true rfl) dJ7_copyOfRangeByte_39247_2) (fun H locs hW => ?_)
  refine W.widen (k := 0) (n := 600 * 0) (by omega) (by omega) ?_
  refine lv_iload_n C.1 C.2.1 dJ7_copyOfRangeByte_39247_5 rfl (lv_at hl 2 rfl) ?_
  refine lv_iload_n C.1 C.2.1 dJ7_copyOfRangeByte_39247_6 rfl (lv_at hl 1 rfl) ?_
  refine lv_isub C.1 C.2.1 dJ7_copyOfRangeByte_39247_7 ?_
  refine z_istn C hf dJ7_copyOfRangeByte_39247_8 rfl hl (by decide) (fun v2 => [(3, .int v2), (0, .ref (ra Z a p0)), (1, .int p1), (2, .int p2)]) (fun _ => rfl) (fun v2 ls hf hl => ?_)
  refine lv_iload_n C.1 C.2.1 dJ7_copyOfRangeByte_39247_9 rfl (lv_at hl 0 rfl) ?_
  obtain ⟨hx0, hf⟩ := ck_t hf
  have hpw := hW.2.2.2
  have hl : lv_has ls 5 [(3, .int v2), (0, .ref (ra Z a p0)), (1, .int p1), (2, .int p2)] := lv_sub hl [0, 1, 2, 3] rfl
  refine z_newB C hW ac_byte hf ⟨by show _ + 1 ≤ 1; omega, by show _ + 600 ≤ 600 * 1; omega⟩ dJ7_copyOfRangeByte_39247_10 (fun a4 g3 H hf hg hW => ?_)
  have e0 := ra_to (Z := Z) hpw hg hx0
  rw [← e0] at hl
  have hA := hA.tr hg
  refine W.widen (k := 1) (n := 600 * 1) (by omega) (by omega) ?_
  refine lv_astore (lv' := [(4, .ref (ra Z a4 g.1)), (3, .int v2), (0, .ref (ra Z a4 p0)), (1, .int p1), (2, .int p2)]) C.1 C.2.1 dJ7_copyOfRangeByte_39247_12 hl (by decide) rfl (fun ls hl => ?_)
  refine lv_aload_n C.1 C.2.1 dJ7_copyOfRangeByte_39247_14 rfl (lv_at hl 2 rfl) ?_
  refine lv_iload_n C.1 C.2.1 dJ7_copyOfRangeByte_39247_15 rfl (lv_at hl 3 rfl) ?_
  refine lv_aload C.1 C.2.1 dJ7_copyOfRangeByte_39247_16 (lv_at hl 0 rfl) ?_
  refine lv_iconst (v := 0) C.1 C.2.1 dJ7_copyOfRangeByte_39247_18 (by decide) ?_
  refine lv_aload_n C.1 C.2.1 dJ7_copyOfRangeByte_39247_19 rfl (lv_at hl 2 rfl) ?_
  refine z_alenB C hW hf dJ7_copyOfRangeByte_39247_20 (fun hf => ?_)
  refine lv_iload_n C.1 C.2.1 dJ7_copyOfRangeByte_39247_21 rfl (lv_at hl 3 rfl) ?_
  refine lv_isub C.1 C.2.1 dJ7_copyOfRangeByte_39247_22 ?_
  refine lv_iload_n C.1 C.2.1 dJ7_copyOfRangeByte_39247_23 rfl (lv_at hl 1 rfl) ?_
  refine z_min C hl (ml_J7_304) (rm_m (by decide)) (rm_c0 (by decide)) (Nat.le_of_ble_eq_true rfl) dJ7_copyOfRangeByte_39247_24 ?_
  refine z_copyB C hW hl ml_J7_150 (rm_cp (by decide)) hf dJ7_copyOfRangeByte_39247_27 (fun g5 H locs hf hgn hW => ?_)
  have hA := hA.w hgn
  refine lv_aload C.1 C.2.1 dJ7_copyOfRangeByte_39247_30 (lv_at hl 0 rfl) ?_
  obtain rfl := Option.some.inj hf
  exact z_aret C hW (Or.inr ⟨_, rfl⟩) dJ7_copyOfRangeByte_39247_32 a4 hA (fun _ q => ⟨rfl, q⟩)
set_option maxRecDepth 20000 in
set_option maxHeartbeats 1000000 in
theorem q_J7_copyOfRange_39247_10 {l : Launch} {Z : ZT} {h : Hp} {a0 : Nat → Nat} {g0 : PL} {p0 : Nat} {p1 : Int32} {p2 : Int32} {g : PL} {p : Program} {e : Env} {s : State} {m : MethodId} {args : Array Value} {below : List Frame} {meth : Method} {c : Code} (C : CQ p s m args meth c cJ7_copyOfRange_39247 RJ7 3 (some (.array .byte)) Z) {out : Nat × PL} {a : Nat → Nat} (hA : AG a0 g0 a g) {ls : Array Slot} {H : Heap} {locs : List Loc} (hW : XG Z h a g s.heap H locs) (hl : lv_has ls 3 [(0, .ref (ra Z a p0)), (1, .int p1), (2, .int p2)]) (hf : Jp_J7_copyOfRange_39247_10 p0 p1 p2 g = some out) : W p l e (rmP 3 1) s m args below meth c H locs 0 (600 * 0) (MQ below (va_Qr (fun (a1 : Nat → Nat) => AG a0 g0 a1 out.2) (fun a1 x t => x = ra Z a1 out.1 ∧ WdP Z h a1 out.2 t) (FR Z)) args s 1 (600 * 1) (FR Z)) (F0 m 10 ls []) := by
  rw [Jp_J7_copyOfRange_39247_10] at hf
  refine lv_aload_n C.1 C.2.1 dJ7_copyOfRange_39247_10 rfl (lv_at hl 0 rfl) ?_
  refine lv_iload_n C.1 C.2.1 dJ7_copyOfRange_39247_11 rfl (lv_at hl 1 rfl) ?_
  refine lv_iload_n C.1 C.2.1 dJ7_copyOfRange_39247_12 rfl (lv_at hl 2 rfl) ?_
  have hpw := hW.2.2.2
  have hl : lv_has ls 3 [(1, .int p1), (2, .int p2)] := lv_sub hl [1, 2] rfl
  obtain ⟨u1, hu1, hf⟩ := bnd_t hf
  refine z_callrA hW (z_runS C hW hl (c_J7_copyOfRangeByte_39247 hu1) cw_J7_339 ct_J7_copyOfRangeByte_39247 (rm_okP (by decide) (by decide)) (rm_cs (by decide)) (As := [.ref (ra Z a p0), .int p1, .int p2]) rfl rfl (Nat.le_of_ble_eq_true rfl) dJ7_copyOfRange_39247_13) (fun a2 H locs hg hW => ?_)
  have hA := hA.tr hg
  refine W.widen (k := 1) (n := 600 * 1) (by omega) (by omega) ?_
  obtain rfl := Option.some.inj hf
  exact z_aret C hW (Or.inr ⟨_, rfl⟩) dJ7_copyOfRange_39247_16 a2 hA (fun _ q => ⟨rfl, q⟩)
set_option maxRecDepth 20000 in
set_option maxHeartbeats 1000000 in
theorem c_J7_copyOfRange_39247 {l : Launch} {Z : ZT} {h : Hp} {a : Nat → Nat} {g : PL} {p0 : Nat} {p1 : Int32} {p2 : Int32} {out : Nat × PL} (hf : fp_J7_copyOfRange_39247 g p0 p1 p2 = some out) : Met l yJ7_copyOfRange_39247 (wY yJ7_copyOfRange_39247 cJ7_copyOfRange_39247 3 (some (.array .byte))) (rmP 3 1) (va_Pc [.ref (ra Z a p0), .int p1, .int p2] (WdP Z h a g)) (va_Qr (fun (a1 : Nat → Nat) => AG a g a1 out.2) (fun a1 x t => x = ra Z a1 out.1 ∧ WdP Z h a1 out.2 t) (FR Z)) 1 (600 * 1) (FR Z) := by
  refine metZ RJ7 rfl (by decide +kernel) (Nat.le_of_ble_eq_true rfl) ?_
  intro p e s m args below meth c C hin hW ls hl
  have hl : lv_has ls 3 [(0, .ref (ra Z a p0)), (1, .int p1), (2, .int p2)] := hl
  have hA := AG.rf a g
  unfold fp_J7_copyOfRange_39247 at hf
  refine W.widen (k := 0) (n := 600 * 0) (Nat.le_refl _) (Nat.le_refl _) ?_
  refine lv_iload_n C.1 C.2.1 dJ7_copyOfRange_39247_0 rfl (lv_at hl 1 rfl) ?_
  refine z_ifne (tgt := 10) C hf dJ7_copyOfRange_39247_1 (by decide) (fun hf => ?_) (fun hf => ?_)
  · exact q_J7_copyOfRange_39247_10 C hA hW (lv_sub hl [0, 1, 2] rfl) hf
  · refine lv_iload_n C.1 C.2.1 dJ7_copyOfRange_39247_4 rfl (lv_at hl 2 rfl) ?_
    refine lv_aload_n C.1 C.2.1 dJ7_copyOfRange_39247_5 rfl (lv_at hl 0 rfl) ?_
    refine z_alenB C hW hf dJ7_copyOfRange_39247_6 (fun hf => ?_)
    refine z_cmpeq (tgt := 17) C hf dJ7_copyOfRange_39247_7 (by decide) (fun hf => ?_) (fun hf => ?_)
    · refine lv_aload_n C.1 C.2.1 dJ7_copyOfRange_39247_17 rfl (lv_at hl 0 rfl) ?_
      have hpw := hW.2.2.2
      have hl : lv_has ls 3 [(1, .int p1), (2, .int p2)] := lv_sub hl [1, 2] rfl
      refine z_clone C hW hl ml_J7_310 hf (rm_k (by decide)) ⟨by show _ + 1 ≤ 1; omega, by show _ + 600 ≤ 600 * 1; omega⟩ dJ7_copyOfRange_39247_18 (fun a4 g3 H hf hg hW => ?_)
      have hA := hA.tr hg
      refine W.widen (k := 1) (n := 600 * 1) (by omega) (by omega) ?_
      obtain ⟨hb, hf⟩ := ck_t hf
      refine z_castB C hW hb cl_J7_311 dJ7_copyOfRange_39247_21 ?_
      obtain rfl := Option.some.inj hf
      exact z_aret C hW (Or.inr ⟨_, rfl⟩) dJ7_copyOfRange_39247_24 a4 hA (fun _ q => ⟨rfl, q⟩)
    · exact q_J7_copyOfRange_39247_10 C hA hW (lv_sub hl [0, 1, 2] rfl) hf
set_option maxRecDepth 20000 in
set_option maxHeartbeats 1000000 in
theorem q_J0_init_db425_79 {l : Launch} {Z : ZT} {h : Hp} {a0 : Nat → Nat} {g0 : PL} {p0 : Nat} {p1 : Nat} {g : PL} {x3 : Nat} {x4 : Int32} {p : Program} {e : Env} {s : State} {m : MethodId} {args : Array Value} {below : List Frame} {meth : Method} {c : Code} (C : CQ p s m args meth c cJ0_init_db425 RJ0 5 none Z) {out : PL} (hin : meth.name = "<init>") {a : Nat → Nat} (hA : AG a0 g0 a g) {ls : Array Slot} {H : Heap} {locs : List Loc} (hW : XG Z h a g s.heap H locs) (hl : lv_has ls 5 [(0, .ref (ra Z a p0)), (2, .null), (3, .ref (ra Z a x3)), (4, .int x4)]) (hf : Jp_J0_init_db425_79 p0 p1 g x3 x4 = some out) : W p l e (rmP 4 1) s m args below meth c H locs 0 (600 * 0) (MQ below (va_Qv (fun (a1 : Nat → Nat) => AG a0 g0 a1 out) (fun a1 => WdP Z h a1 out) (FR Z)) args s 1 (600 * 1) (FR Z)) (F0 m 79 ls []) := by
  rw [Jp_J0_init_db425_79] at hf
  refine lv_aload_n C.1 C.2.1 dJ0_init_db425_79 rfl (lv_at hl 0 rfl) ?_
  refine lv_iconst (v := 1) C.1 C.2.1 dJ0_init_db425_80 (by decide) ?_
  cases hf
set_option maxRecDepth 20000 in
set_option maxHeartbeats 1000000 in
theorem c_J0_init_db425 {l : Launch} {Z : ZT} {h : Hp} {a : Nat → Nat} {g : PL} {p0 : Nat} {p1 : Nat} {out : PL} (hf : fp_J0_init_db425 g p0 p1 = some out) : Met l yJ0_init_db425 (wY yJ0_init_db425 cJ0_init_db425 5 none) (rmP 4 1) (va_Pc [.ref (ra Z a p0), .ref (ra Z a p1), .null] (WdP Z h a g)) (va_Qv (fun (a1 : Nat → Nat) => AG a g a1 out) (fun a1 => WdP Z h a1 out) (FR Z)) 1 (600 * 1) (FR Z) := by
  refine metZ RJ0 rfl (by decide +kernel) (Nat.le_of_ble_eq_true rfl) ?_
  intro p e s m args below meth c C hin hW ls hl
  have hin : meth.name = "<init>" := hin
  have hl : lv_has ls 5 [(0, .ref (ra Z a p0)), (1, .ref (ra Z a p1)), (2, .null)] := hl
  have hA := AG.rf a g
  unfold fp_J0_init_db425 at hf
  refine W.widen (k := 0) (n := 600 * 0) (Nat.le_refl _) (Nat.le_refl _) ?_
  refine lv_aload_n C.1 C.2.1 dJ0_init_db425_0 rfl (lv_at hl 0 rfl) ?_
  refine z_objX oi_i oi_c C hl ml_J0_1 dJ0_init_db425_1 (rm_o (by decide)) ?_
  refine lv_aload_n C.1 C.2.1 dJ0_init_db425_4 rfl (lv_at hl 1 rfl) ?_
  obtain ⟨hb, hf⟩ := ck_t hf
  obtain ⟨u2, hu2, hf⟩ := bnd_t hf
  refine z_callr hW (z_runU C hW hl hb (ci := 11) (fs := fl_J4 Z a (g.2.2 p1)) rfl rfl (c_J5_getValue_6d5f1 hu2) cw_J0_552 ci_J5_getValue_6d5f1 sm_J5_getValue_6d5f1 cx_J5_getValue_6d5f1 (rm_okP (by decide) (by decide)) (rm_cs (by decide)) (As := []) rfl rfl (Nat.le_of_ble_eq_true rfl) dJ0_init_db425_5) (fun H locs hW => ?_)
  refine W.widen (k := 0) (n := 600 * 0) (by omega) (by omega) ?_
  refine lv_astore_n (lv' := [(3, .ref (ra Z a u2)), (0, .ref (ra Z a p0)), (1, .ref (ra Z a p1)), (2, .null)]) C.1 C.2.1 dJ0_init_db425_8 rfl hl (by decide) rfl (fun ls hl => ?_)
  refine lv_aload_n C.1 C.2.1 dJ0_init_db425_9 rfl (lv_at hl 2 rfl) ?_
  obtain ⟨hb, hf⟩ := ck_t hf
  obtain ⟨u3, hu3, hf⟩ := bnd_t hf
  refine z_calli hW (z_runX C hW hl hb (ci := 11) (fs := fl_J4 Z a (g.2.2 p1)) rfl rfl (x := yJ5_length_8abf5) (c_J4_length_8abf5 hu3) cwX_J0_549 (rm_okP (by decide) (by decide)) (rm_cs (by decide)) (As := []) rfl rfl (Nat.le_of_ble_eq_true rfl) dJ0_init_db425_10) (fun H locs hW => ?_)
  refine W.widen (k := 0) (n := 600 * 0) (by omega) (by omega) ?_
  refine lv_istore (lv' := [(4, .int u3), (3, .ref (ra Z a u2)), (0, .ref (ra Z a p0)), (1, .ref (ra Z a p1)), (2, .null)]) C.1 C.2.1 dJ0_init_db425_13 hl (by decide) rfl (fun ls hl => ?_)
  refine lv_aload_n C.1 C.2.1 dJ0_init_db425_15 rfl (lv_at hl 3 rfl) ?_
  obtain ⟨hb, hf⟩ := ck_t hf
  obtain ⟨u4, hu4, hf⟩ := bnd_t hf
  refine z_calli hW (z_runU C hW hl hb (ci := 11) (fs := fl_J4 Z a (g.2.2 p1)) rfl rfl (c_J5_isLatin1_aae02 hu4) cw_J0_1047 ci_J5_isLatin1_aae02 sm_J5_isLatin1_aae02 cx_J5_isLatin1_aae02 (rm_okP (by decide) (by decide)) (rm_cs (by decide)) (As := []) rfl rfl (Nat.le_of_ble_eq_true rfl) dJ0_init_db425_16) (fun H locs hW => ?_)
  refine W.widen (k := 0) (n := 600 * 0) (by omega) (by omega) ?_
  refine z_ifeq (tgt := 41) C hf dJ0_init_db425_19 (by decide) (fun hf => ?_) (fun hf => ?_)
  · refine va_gets C.1 C.2.1 C.2.2.2.2.2.2.2.2.2.1.2.2.1 hW.2.1 C.2.2.2.1 (C.2.2.1 _ mst_J0_38) (fun _ q => q) dJ0_init_db425_41 ?_
    refine z_ifeq (tgt := 79) C hf dJ0_init_db425_44 (by decide) (fun hf => ?_) (fun hf => ?_)
    · exact q_J0_init_db425_79 C hin hA hW (lv_sub hl [2, 4, 1, 0] rfl) hf
    · refine lv_aload_n C.1 C.2.1 dJ0_init_db425_47 rfl (lv_at hl 3 rfl) ?_
      refine zg_J0_1048 C hW hf dJ0_init_db425_48 (fun hf => ?_)
      refine z_ifeq (tgt := 79) C hf dJ0_init_db425_51 (by decide) (fun hf => ?_) (fun hf => ?_)
      · exact q_J0_init_db425_79 C hin hA hW (lv_sub hl [2, 4, 1, 0] rfl) hf
      · refine lv_aload_n C.1 C.2.1 dJ0_init_db425_54 rfl (lv_at hl 2 rfl) ?_
        refine lv_aload_n C.1 C.2.1 dJ0_init_db425_55 rfl (lv_at hl 1 rfl) ?_
        refine lv_iconst (v := 0) C.1 C.2.1 dJ0_init_db425_56 (by decide) ?_
        refine lv_iload C.1 C.2.1 dJ0_init_db425_57 (lv_at hl 0 rfl) ?_
        cases hf
  · refine lv_aload_n C.1 C.2.1 dJ0_init_db425_22 rfl (lv_at hl 2 rfl) ?_
    refine lv_iconst (v := 0) C.1 C.2.1 dJ0_init_db425_23 (by decide) ?_
    refine zp_J0_15 C hW hin rfl hf dJ0_init_db425_24 (fun g5 H locs hf hgn hW => ?_)
    have hA := hA.w hgn
    refine lv_aload_n C.1 C.2.1 dJ0_init_db425_27 rfl (lv_at hl 2 rfl) ?_
    refine lv_aload_n C.1 C.2.1 dJ0_init_db425_28 rfl (lv_at hl 1 rfl) ?_
    refine lv_iconst (v := 0) C.1 C.2.1 dJ0_init_db425_29 (by decide) ?_
    refine lv_iload C.1 C.2.1 dJ0_init_db425_30 (lv_at hl 0 rfl) ?_
    obtain ⟨hx0, hf⟩ := ck_t hf
    have hpw := hW.2.2.2
    have hl : lv_has ls 5 [(4, .int u3), (2, .null)] := lv_sub hl [0, 4] rfl
    obtain ⟨u6, hu6, hf⟩ := bnd_t hf
    refine z_callrA hW (z_runS C hW hl (c_J7_copyOfRange_39247 hu6) cw_J0_54 ct_J7_copyOfRange_39247 (rm_okP (by decide) (by decide)) (rm_cs (by decide)) (As := [.ref (ra Z a u2), .int (0 : Int32), .int u3]) rfl rfl (Nat.le_of_ble_eq_true rfl) dJ0_init_db425_32) (fun a7 H locs hg hW => ?_)
    have e0 := ra_to (Z := Z) hpw hg hx0
    rw [← e0]
    have hA := hA.tr hg
    refine W.widen (k := 1) (n := 600 * 1) (by omega) (by omega) ?_
    refine zp_J0_9 C hW hin hf dJ0_init_db425_35 (fun g8 H locs hf hgn hW => ?_)
    have hA := hA.w hgn
    refine lv_goto (tgt := 97) C.1 C.2.1 dJ0_init_db425_38 (by decide) ?_
    obtain rfl := Option.some.inj hf
    exact z_vret C hW dJ0_init_db425_97 a7 hA (fun _ q => q)
set_option maxRecDepth 20000 in
set_option maxHeartbeats 1000000 in
theorem c_J0_init_81219 {l : Launch} {Z : ZT} {h : Hp} {a : Nat → Nat} {g : PL} {p0 : Nat} {p1 : Nat} {out : PL} (hf : fp_J0_init_81219 g p0 p1 = some out) : Met l yJ0_init_81219 (wY yJ0_init_81219 cJ0_init_81219 2 none) (rmP 5 1) (va_Pc [.ref (ra Z a p0), .ref (ra Z a p1)] (WdP Z h a g)) (va_Qv (fun (a1 : Nat → Nat) => AG a g a1 out) (fun a1 => WdP Z h a1 out) (FR Z)) 1 (600 * 1) (FR Z) := by
  refine metZ RJ0 rfl (by decide +kernel) (Nat.le_of_ble_eq_true rfl) ?_
  intro p e s m args below meth c C hin hW ls hl
  have hin : meth.name = "<init>" := hin
  have hl : lv_has ls 2 [(0, .ref (ra Z a p0)), (1, .ref (ra Z a p1))] := hl
  have hA := AG.rf a g
  unfold fp_J0_init_81219 at hf
  refine W.widen (k := 0) (n := 600 * 0) (Nat.le_refl _) (Nat.le_refl _) ?_
  refine lv_aload_n C.1 C.2.1 dJ0_init_81219_0 rfl (lv_at hl 0 rfl) ?_
  refine lv_aload_n C.1 C.2.1 dJ0_init_81219_1 rfl (lv_at hl 1 rfl) ?_
  refine lv_null C.1 C.2.1 dJ0_init_81219_2 ?_
  have hpw := hW.2.2.2
  have hl : lv_has ls 2 [] := lv_sub hl [] rfl
  obtain ⟨u1, hu1, hf⟩ := bnd_t hf
  refine z_callvA hW (z_runI C hW hl (c_J0_init_db425 hu1) cw_J0_489 ci_J0_init_db425 rfl (rm_okP (by decide) (by decide)) (rm_cs (by decide)) (As := [.ref (ra Z a p1), .null]) rfl rfl (Nat.le_of_ble_eq_true rfl) dJ0_init_81219_3) (fun a2 H locs hg hW => ?_)
  have hA := hA.tr hg
  refine W.widen (k := 1) (n := 600 * 1) (by omega) (by omega) ?_
  obtain rfl := Option.some.inj hf
  exact z_vret C hW dJ0_init_81219_6 a2 hA (fun _ q => q)
set_option maxRecDepth 20000 in
set_option maxHeartbeats 1000000 in
theorem c_J4_toString_0e30d {l : Launch} {Z : ZT} {h : Hp} {a : Nat → Nat} {g : PL} {p0 : Nat} {out : Nat × PL} (hf : fp_J4_toString_0e30d g p0 = some out) : Met l yJ4_toString_0e30d (wY yJ4_toString_0e30d cJ4_toString_0e30d 1 (some (.object "java/lang/String"))) (rmP 6 2) (va_Pc [.ref (ra Z a p0)] (WdP Z h a g)) (va_Qr (fun (a1 : Nat → Nat) => AG a g a1 out.2) (fun a1 x t => x = ra Z a1 out.1 ∧ WdP Z h a1 out.2 t) (FR Z)) 2 (600 * 2) (FR Z) := by
  refine metZ RJ4 rfl (by decide +kernel) (Nat.le_of_ble_eq_true rfl) ?_
  intro p e s m args below meth c C hin hW ls hl
  have hl : lv_has ls 1 [(0, .ref (ra Z a p0))] := hl
  have hA := AG.rf a g
  unfold fp_J4_toString_0e30d at hf
  refine W.widen (k := 0) (n := 600 * 0) (Nat.le_refl _) (Nat.le_refl _) ?_
  obtain ⟨hx0, hf⟩ := ck_t hf
  have hpw := hW.2.2.2
  have hl : lv_has ls 1 [(0, .ref (ra Z a p0))] := lv_sub hl [0] rfl
  refine z_newo C hW (kd := 3) (ci := 12) (fs := nf_J0) rfl wsJ0_in tyJ0 tyJ0_ok df_J0 cl_J4_18 in_J0 iz_J0 (by decide) (by decide) ne_J0 hf ⟨by show _ + 1 ≤ 2; omega, by show _ + 600 ≤ 600 * 2; omega⟩ dJ4_toString_0e30d_0 (fun a2 g1 H hf hg hW => ?_)
  have e0 := ra_to (Z := Z) hpw hg hx0
  rw [← e0] at hl
  have hA := hA.tr hg
  refine W.widen (k := 1) (n := 600 * 1) (by omega) (by omega) ?_
  refine lv_dup C.1 C.2.1 dJ4_toString_0e30d_3 rfl ?_
  refine lv_aload_n C.1 C.2.1 dJ4_toString_0e30d_4 rfl (lv_at hl 0 rfl) ?_
  obtain ⟨hx0, hf⟩ := ck_t hf
  have hpw := hW.2.2.2
  have hl : lv_has ls 1 [] := lv_sub hl [] rfl
  obtain ⟨u3, hu3, hf⟩ := bnd_t hf
  refine z_callvA hW (z_runI C hW hl (c_J0_init_81219 hu3) cw_J4_137 ci_J0_init_81219 rfl (rm_okP (by decide) (by decide)) (rm_cs (by decide)) (As := [.ref (ra Z a2 p0)]) rfl rfl (Nat.le_of_ble_eq_true rfl) dJ4_toString_0e30d_5) (fun a4 H locs hg hW => ?_)
  have e0 := ra_to (Z := Z) hpw hg hx0
  rw [← e0]
  have hA := hA.tr hg
  refine W.widen (k := 2) (n := 600 * 2) (by omega) (by omega) ?_
  obtain rfl := Option.some.inj hf
  exact z_aret C hW (Or.inl ⟨_, rfl⟩) dJ4_toString_0e30d_8 a4 hA (fun _ q => ⟨rfl, q⟩)
