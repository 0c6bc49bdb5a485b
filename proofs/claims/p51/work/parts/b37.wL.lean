set_option maxRecDepth 20000 in
set_option maxHeartbeats 1000000 in
theorem q_L_four_32 {l : Launch} {Z : ZT} {h : Hp} {a : Nat → Nat} {g : PL} {p0 : Nat} {p1 : Int32} {r4 : Int32 × Int32 → Option (Int32)} {x3 : Int32} {s0 : Int32} {s1 : Int32} {p : Program} {e : Env} {s : State} {m : MethodId} {args : Array Value} {below : List Frame} {meth : Method} {c : Code} (C : CQ p s m args meth c cL_four RL 4 (some .int) Z) {out : Int32} (hr4 : ∀ (x2 : Int32) (x3 : Int32) (ls : Array Slot) (H : Heap) (locs : List Loc), XG Z h a g s.heap H locs → lv_has ls 4 [(0, .ref (ra Z a p0)), (1, .int p1), (2, .int x2), (3, .int x3)] → r4 (x2, x3) = some out → W p l e (rmP 4 0) s m args below meth c H locs 0 (600 * 0) (MQ below (va_Qi (fun r (_ : Unit) => r = out) (fun _ => WdP Z h a g) (FR Z)) args s 0 (600 * 0) (FR Z)) (F0 m 4 ls [])) {ls : Array Slot} {H : Heap} {locs : List Loc} (hW : XG Z h a g s.heap H locs) (hl : lv_has ls 4 [(0, .ref (ra Z a p0)), (1, .int p1), (3, .int x3)]) (hf : Jp_L_four_32 g p0 p1 r4 x3 s0 s1 = some out) : W p l e (rmP 4 0) s m args below meth c H locs 0 (600 * 0) (MQ below (va_Qi (fun r (_ : Unit) => r = out) (fun _ => WdP Z h a g) (FR Z)) args s 0 (600 * 0) (FR Z)) (F0 m 32 ls [.int s1, .int s0]) := by
  rw [Jp_L_four_32] at hf
  refine lv_ior C.1 C.2.1 dL_four_32 ?_
  refine z_istn C hf dL_four_33 rfl hl (by decide) (fun v1 => [(2, .int v1), (0, .ref (ra Z a p0)), (1, .int p1), (3, .int x3)]) (fun _ => rfl) (fun v1 ls hf hl => ?_)
  refine z_iinc (w := 1) C hf dL_four_34 hl (k := 3) rfl (by decide) (by decide) (fun v2 => [(3, .int v2), (2, .int v1), (0, .ref (ra Z a p0)), (1, .int p1)]) (fun _ => rfl) (fun v2 ls hf hl => ?_)
  refine lv_goto (tgt := 4) C.1 C.2.1 dL_four_37 (by decide) ?_
  exact hr4 v1 v2 ls _ _ hW (lv_sub hl [2, 3, 1, 0] rfl) hf
set_option maxRecDepth 20000 in
set_option maxHeartbeats 1000000 in
theorem l_L_four_4 {l : Launch} {Z : ZT} {h : Hp} {a : Nat → Nat} {g : PL} {p0 : Nat} {p1 : Int32} {p : Program} {e : Env} {s : State} {m : MethodId} {args : Array Value} {below : List Frame} {meth : Method} {c : Code} (C : CQ p s m args meth c cL_four RL 4 (some .int) Z) {out : Int32} : ∀ (n : Nat) (x2 : Int32) (x3 : Int32) (ls : Array Slot) (H : Heap) (locs : List Loc), XG Z h a g s.heap H locs → lv_has ls 4 [(0, .ref (ra Z a p0)), (1, .int p1), (2, .int x2), (3, .int x3)] → Lp (Fp_L_four_4 g p0 p1) n (x2, x3) = some out → W p l e (rmP 4 0) s m args below meth c H locs 0 (600 * 0) (MQ below (va_Qi (fun r (_ : Unit) => r = out) (fun _ => WdP Z h a g) (FR Z)) args s 0 (600 * 0) (FR Z)) (F0 m 4 ls []) := by
  intro n
  induction n with
  | zero => intro x2 x3 ls H locs hW hl hf; cases hf
  | succ n ih =>
    intro x2 x3 ls H locs hW hl hf
    rw [Lp_s] at hf
    refine lv_iload_n C.1 C.2.1 dL_four_4 rfl (lv_at hl 3 rfl) ?_
    refine lv_iload_n C.1 C.2.1 dL_four_5 rfl (lv_at hl 1 rfl) ?_
    refine lv_iconst (v := 4) C.1 C.2.1 dL_four_6 (by decide) ?_
    refine lv_iadd C.1 C.2.1 dL_four_7 ?_
    refine z_cmpge (tgt := 40) C hf dL_four_8 (by decide) (fun hf => ?_) (fun hf => ?_)
    · refine lv_iload_n C.1 C.2.1 dL_four_40 rfl (lv_at hl 2 rfl) ?_
      obtain rfl := Option.some.inj hf
      exact z_iret C hW dL_four_41 () rfl (fun _ q => q)
    · refine lv_iload_n C.1 C.2.1 dL_four_11 rfl (lv_at hl 2 rfl) ?_
      refine lv_bipush (v := 8) C.1 C.2.1 dL_four_12 (by decide) ?_
      refine lv_ishl C.1 C.2.1 dL_four_14 ?_
      refine lv_iload_n C.1 C.2.1 dL_four_15 rfl (lv_at hl 3 rfl) ?_
      refine lv_aload_n C.1 C.2.1 dL_four_16 rfl (lv_at hl 0 rfl) ?_
      obtain ⟨hs, hf⟩ := ck_t hf
      rw [Bool.and_eq_true, decide_eq_true_eq] at hs
      obtain ⟨hs, hs2⟩ := hs
      refine z_calli hW (z_runT C hW hl hs rfl (k_length hs hs2) cw_L_84 tin_length tse_length (rm_okP (by decide) (by decide)) (rm_cs (by decide)) (As := []) rfl rfl (Nat.le_of_ble_eq_true rfl) dL_four_17) (fun H locs hW => ?_)
      refine W.widen (k := 0) (n := 600 * 0) (by omega) (by omega) ?_
      refine z_cmpge (tgt := 31) C hf dL_four_20 (by decide) (fun hf => ?_) (fun hf => ?_)
      · refine lv_iconst (v := 0) C.1 C.2.1 dL_four_31 (by decide) ?_
        exact q_L_four_32 C ih hW (lv_sub hl [0, 1, 3] rfl) hf
      · refine lv_aload_n C.1 C.2.1 dL_four_23 rfl (lv_at hl 0 rfl) ?_
        refine lv_iload_n C.1 C.2.1 dL_four_24 rfl (lv_at hl 3 rfl) ?_
        obtain ⟨hs, hf⟩ := ck_t hf
        rw [Bool.and_eq_true, Bool.and_eq_true, Bool.and_eq_true, decide_eq_true_eq, decide_eq_true_eq] at hs
        obtain ⟨⟨⟨hs, hs2⟩, hs3⟩, hs4⟩ := hs
        refine z_calli hW (z_runT C hW hl hs rfl (k_charAt hs hs2 hs3 hs4) cw_L_102 tin_charAt tse_charAt (rm_okP (by decide) (by decide)) (rm_cs (by decide)) (As := [.int x3]) rfl rfl (Nat.le_of_ble_eq_true rfl) dL_four_25) (fun H locs hW => ?_)
        refine W.widen (k := 0) (n := 600 * 0) (by omega) (by omega) ?_
        refine lv_goto (tgt := 32) C.1 C.2.1 dL_four_28 (by decide) ?_
        exact q_L_four_32 C ih hW (lv_sub hl [0, 1, 3] rfl) hf
set_option maxRecDepth 20000 in
set_option maxHeartbeats 1000000 in
theorem c_L_four {l : Launch} {Z : ZT} {h : Hp} {a : Nat → Nat} {g : PL} {p0 : Nat} {p1 : Int32} {out : Int32} (hf : fp_L_four g p0 p1 = some out) : Met l yL_four (wY yL_four cL_four 4 (some .int)) (rmP 4 0) (va_Pc [.ref (ra Z a p0), .int p1] (WdP Z h a g)) (va_Qi (fun r (_ : Unit) => r = out) (fun _ => WdP Z h a g) (FR Z)) 0 (600 * 0) (FR Z) := by
  refine metZ RL rfl (by decide +kernel) (Nat.le_of_ble_eq_true rfl) ?_
  intro p e s m args below meth c C hin hW ls hl
  have hl : lv_has ls 4 [(0, .ref (ra Z a p0)), (1, .int p1)] := hl
  unfold fp_L_four at hf
  refine W.widen (k := 0) (n := 600 * 0) (Nat.le_refl _) (Nat.le_refl _) ?_
  refine lv_iconst (v := 0) C.1 C.2.1 dL_four_0 (by decide) ?_
  refine lv_istore_n (lv' := [(2, .int (0 : Int32)), (0, .ref (ra Z a p0)), (1, .int p1)]) C.1 C.2.1 dL_four_1 rfl hl (by decide) rfl (fun ls hl => ?_)
  refine lv_iload_n C.1 C.2.1 dL_four_2 rfl (lv_at hl 2 rfl) ?_
  refine lv_istore_n (lv' := [(3, .int p1), (2, .int (0 : Int32)), (0, .ref (ra Z a p0)), (1, .int p1)]) C.1 C.2.1 dL_four_3 rfl hl (by decide) rfl (fun ls hl => ?_)
  exact l_L_four_4 C FU (0 : Int32) p1 ls _ _ hW (lv_sub hl [2, 3, 1, 0] rfl) hf
set_option maxRecDepth 20000 in
set_option maxHeartbeats 1000000 in
theorem q_L_text_65 {l : Launch} {Z : ZT} {a : Nat → Nat} {g : PL} {p1 : Nat} {h : Hp} {p : Program} {e : Env} {s : State} {m : MethodId} {args : Array Value} {below : List Frame} {meth : Method} {c : Code} (C : CQ p s m args meth c cL_text RL 3 (some .boolean) Z) {out : Int32 × Hp} (hlt : l.stackTraces = false) {ls : Array Slot} {H : Heap} {locs : List Loc} (hW : XG Z h a g s.heap H locs) (hl : lv_has ls 3 [(0, .ref (Z.1 0)), (1, .ref (ra Z a p1))]) (hf : Jp_L_text_65 g p1 h = some out) : W p l e (rmP 5 0) s m args below meth c H locs 0 (600 * 0) (MQ below (va_Qi (fun r (_ : Unit) => r = out.1) (fun _ => WdP Z out.2 a g) (FR Z)) args s 0 (600 * 0) (FR Z)) (F0 m 65 ls []) := by
  rw [Jp_L_text_65] at hf
  refine lv_aload_n C.1 C.2.1 dL_text_65 rfl (lv_at hl 0 rfl) ?_
  refine lv_aload_n C.1 C.2.1 dL_text_66 rfl (lv_at hl 1 rfl) ?_
  obtain ⟨hs, hf⟩ := ck_t hf
  rw [Bool.and_eq_true, decide_eq_true_eq] at hs
  obtain ⟨hs, hs2⟩ := hs
  refine z_calli hW (z_runT C hW hl hs rfl (k_length hs hs2) cw_L_84 tin_length tse_length (rm_okP (by decide) (by decide)) (rm_cs (by decide)) (As := []) rfl rfl (Nat.le_of_ble_eq_true rfl) dL_text_67) (fun H locs hW => ?_)
  refine W.widen (k := 0) (n := 600 * 0) (by omega) (by omega) ?_
  obtain ⟨u1, hu1, hf⟩ := bnd_t hf
  refine z_calli0 hW (z_run0 C hW hl rfl (c_X10_truncate hu1) cw_L_99 ci_X10_truncate cs_X10_truncate (rm_okD (by decide) (by decide)) (rm_c00 (by decide)) (As := [.int (nI (sLen g p1))]) rfl rfl (Nat.le_of_ble_eq_true rfl) dL_text_70) (fun H locs hW => ?_)
  refine W.widen (k := 0) (n := 600 * 0) (by omega) (by omega) ?_
  obtain ⟨hz, hf⟩ := ck_t hf
  obtain rfl := Option.some.inj hf
  exact z_zret C hW hz dL_text_73 () rfl (fun _ q => q)
set_option maxRecDepth 20000 in
set_option maxHeartbeats 1000000 in
theorem l_L_text_2 {l : Launch} {Z : ZT} {a : Nat → Nat} {g : PL} {p1 : Nat} {p : Program} {e : Env} {s : State} {m : MethodId} {args : Array Value} {below : List Frame} {meth : Method} {c : Code} (C : CQ p s m args meth c cL_text RL 3 (some .boolean) Z) {out : Int32 × Hp} (hlt : l.stackTraces = false) : ∀ (n : Nat) (x2 : Int32) (h : Hp) (ls : Array Slot) (H : Heap) (locs : List Loc), XG Z h a g s.heap H locs → lv_has ls 3 [(0, .ref (Z.1 0)), (1, .ref (ra Z a p1)), (2, .int x2)] → Lp (Fp_L_text_2 g p1) n (x2, h) = some out → W p l e (rmP 5 0) s m args below meth c H locs 0 (600 * 0) (MQ below (va_Qi (fun r (_ : Unit) => r = out.1) (fun _ => WdP Z out.2 a g) (FR Z)) args s 0 (600 * 0) (FR Z)) (F0 m 2 ls []) := by
  intro n
  induction n with
  | zero => intro x2 h ls H locs hW hl hf; cases hf
  | succ n ih =>
    intro x2 h ls H locs hW hl hf
    rw [Lp_s] at hf
    rw [Fp_L_text_2] at hf
    try dsimp only at hf
    refine lv_iload_n C.1 C.2.1 dL_text_2 rfl (lv_at hl 2 rfl) ?_
    refine lv_aload_n C.1 C.2.1 dL_text_3 rfl (lv_at hl 1 rfl) ?_
    obtain ⟨hs, hf⟩ := ck_t hf
    rw [Bool.and_eq_true, decide_eq_true_eq] at hs
    obtain ⟨hs, hs2⟩ := hs
    refine z_calli hW (z_runT C hW hl hs rfl (k_length hs hs2) cw_L_84 tin_length tse_length (rm_okP (by decide) (by decide)) (rm_cs (by decide)) (As := []) rfl rfl (Nat.le_of_ble_eq_true rfl) dL_text_4) (fun H locs hW => ?_)
    refine W.widen (k := 0) (n := 600 * 0) (by omega) (by omega) ?_
    refine z_cmpge (tgt := 65) C hf dL_text_7 (by decide) (fun hf => ?_) (fun hf => ?_)
    · exact q_L_text_65 C hlt hW (lv_sub hl [0, 1] rfl) hf
    · refine lv_aload_n C.1 C.2.1 dL_text_10 rfl (lv_at hl 0 rfl) ?_
      refine lv_aload_n C.1 C.2.1 dL_text_11 rfl (lv_at hl 1 rfl) ?_
      refine lv_iload_n C.1 C.2.1 dL_text_12 rfl (lv_at hl 2 rfl) ?_
      obtain ⟨u2, hu2, hf⟩ := bnd_t hf
      refine z_calli hW (z_runS C hW hl (c_L_four hu2) cw_L_89 ct_L_four (rm_okP (by decide) (by decide)) (rm_cs (by decide)) (As := [.ref (ra Z a p1), .int x2]) rfl rfl (Nat.le_of_ble_eq_true rfl) dL_text_13) (fun H locs hW => ?_)
      refine W.widen (k := 0) (n := 600 * 0) (by omega) (by omega) ?_
      refine lv_aload_n C.1 C.2.1 dL_text_16 rfl (lv_at hl 1 rfl) ?_
      refine lv_iload_n C.1 C.2.1 dL_text_17 rfl (lv_at hl 2 rfl) ?_
      refine lv_iconst (v := 4) C.1 C.2.1 dL_text_18 (by decide) ?_
      refine lv_iadd C.1 C.2.1 dL_text_19 ?_
      obtain ⟨u3, hu3, hf⟩ := bnd_t hf
      refine z_calli hW (z_runS C hW hl (c_L_four hu3) cw_L_89 ct_L_four (rm_okP (by decide) (by decide)) (rm_cs (by decide)) (As := [.ref (ra Z a p1), .int (x2 + (4 : Int32))]) rfl rfl (Nat.le_of_ble_eq_true rfl) dL_text_20) (fun H locs hW => ?_)
      refine W.widen (k := 0) (n := 600 * 0) (by omega) (by omega) ?_
      refine lv_aload_n C.1 C.2.1 dL_text_23 rfl (lv_at hl 1 rfl) ?_
      refine lv_iload_n C.1 C.2.1 dL_text_24 rfl (lv_at hl 2 rfl) ?_
      refine lv_bipush (v := 8) C.1 C.2.1 dL_text_25 (by decide) ?_
      refine lv_iadd C.1 C.2.1 dL_text_27 ?_
      obtain ⟨u4, hu4, hf⟩ := bnd_t hf
      refine z_calli hW (z_runS C hW hl (c_L_four hu4) cw_L_89 ct_L_four (rm_okP (by decide) (by decide)) (rm_cs (by decide)) (As := [.ref (ra Z a p1), .int (x2 + (8 : Int32))]) rfl rfl (Nat.le_of_ble_eq_true rfl) dL_text_28) (fun H locs hW => ?_)
      refine W.widen (k := 0) (n := 600 * 0) (by omega) (by omega) ?_
      refine lv_aload_n C.1 C.2.1 dL_text_31 rfl (lv_at hl 1 rfl) ?_
      refine lv_iload_n C.1 C.2.1 dL_text_32 rfl (lv_at hl 2 rfl) ?_
      refine lv_bipush (v := 12) C.1 C.2.1 dL_text_33 (by decide) ?_
      refine lv_iadd C.1 C.2.1 dL_text_35 ?_
      obtain ⟨u5, hu5, hf⟩ := bnd_t hf
      refine z_calli hW (z_runS C hW hl (c_L_four hu5) cw_L_89 ct_L_four (rm_okP (by decide) (by decide)) (rm_cs (by decide)) (As := [.ref (ra Z a p1), .int (x2 + (12 : Int32))]) rfl rfl (Nat.le_of_ble_eq_true rfl) dL_text_36) (fun H locs hW => ?_)
      refine W.widen (k := 0) (n := 600 * 0) (by omega) (by omega) ?_
      refine lv_aload_n C.1 C.2.1 dL_text_39 rfl (lv_at hl 1 rfl) ?_
      refine lv_iload_n C.1 C.2.1 dL_text_40 rfl (lv_at hl 2 rfl) ?_
      refine lv_bipush (v := 16) C.1 C.2.1 dL_text_41 (by decide) ?_
      refine lv_iadd C.1 C.2.1 dL_text_43 ?_
      obtain ⟨u6, hu6, hf⟩ := bnd_t hf
      refine z_calli hW (z_runS C hW hl (c_L_four hu6) cw_L_89 ct_L_four (rm_okP (by decide) (by decide)) (rm_cs (by decide)) (As := [.ref (ra Z a p1), .int (x2 + (16 : Int32))]) rfl rfl (Nat.le_of_ble_eq_true rfl) dL_text_44) (fun H locs hW => ?_)
      refine W.widen (k := 0) (n := 600 * 0) (by omega) (by omega) ?_
      obtain ⟨u7, hu7, hf⟩ := bnd_t hf
      refine z_calli0 hW (z_run0 C hW hl rfl (c_X10_append hu7) cw_L_95 ci_X10_append cs_X10_append (rm_okD (by decide) (by decide)) (rm_c00 (by decide)) (As := [.int u2, .int u3, .int u4, .int u5, .int u6]) rfl rfl (Nat.le_of_ble_eq_true rfl) dL_text_47) (fun H locs hW => ?_)
      refine W.widen (k := 0) (n := 600 * 0) (by omega) (by omega) ?_
      refine lv_iload_n C.1 C.2.1 dL_text_50 rfl (lv_at hl 2 rfl) ?_
      refine lv_bipush (v := 20) C.1 C.2.1 dL_text_51 (by decide) ?_
      refine lv_iadd C.1 C.2.1 dL_text_53 ?_
      refine z_cmpeq (tgt := 59) C hf dL_text_54 (by decide) (fun hf => ?_) (fun hf => ?_)
      · refine z_iinc (w := 20) C hf dL_text_59 hl (k := 2) rfl (by decide) (by decide) (fun v8 => [(2, .int v8), (0, .ref (Z.1 0)), (1, .ref (ra Z a p1))]) (fun _ => rfl) (fun v8 ls hf hl => ?_)
        refine lv_goto (tgt := 2) C.1 C.2.1 dL_text_62 (by decide) ?_
        exact ih v8 u7.2 ls _ _ hW (lv_sub hl [1, 2, 0] rfl) hf
      · refine lv_iconst (v := 0) C.1 C.2.1 dL_text_57 (by decide) ?_
        obtain rfl := Option.some.inj hf
        exact z_zret C hW (by decide) dL_text_58 () rfl (fun _ q => q)
set_option maxRecDepth 20000 in
set_option maxHeartbeats 1000000 in
theorem c_L_text {l : Launch} (hlt : l.stackTraces = false) {Z : ZT} {a : Nat → Nat} {h : Hp} {g : PL} {p1 : Nat} {out : Int32 × Hp} (hf : fp_L_text h g p1 = some out) : Met l yL_text (wY yL_text cL_text 3 (some .boolean)) (rmP 5 0) (va_Pc [.ref (Z.1 0), .ref (ra Z a p1)] (WdP Z h a g)) (va_Qi (fun r (_ : Unit) => r = out.1) (fun _ => WdP Z out.2 a g) (FR Z)) 0 (600 * 0) (FR Z) := by
  refine metZ RL rfl (by decide +kernel) (Nat.le_of_ble_eq_true rfl) ?_
  intro p e s m args below meth c C hin hW ls hl
  have hl : lv_has ls 3 [(0, .ref (Z.1 0)), (1, .ref (ra Z a p1))] := hl
  unfold fp_L_text at hf
  refine W.widen (k := 0) (n := 600 * 0) (Nat.le_refl _) (Nat.le_refl _) ?_
  refine lv_iconst (v := 0) C.1 C.2.1 dL_text_0 (by decide) ?_
  refine lv_istore_n (lv' := [(2, .int (0 : Int32)), (0, .ref (Z.1 0)), (1, .ref (ra Z a p1))]) C.1 C.2.1 dL_text_1 rfl hl (by decide) rfl (fun ls hl => ?_)
  exact l_L_text_2 C hlt FU (0 : Int32) h ls _ _ hW (lv_sub hl [1, 2, 0] rfl) hf
set_option maxRecDepth 20000 in
set_option maxHeartbeats 1000000 in
theorem q_L_isAs_282 {l : Launch} {Z : ZT} {a : Nat → Nat} {h : Hp} {g : PL} {p1 : Nat} {p : Program} {e : Env} {s : State} {m : MethodId} {args : Array Value} {below : List Frame} {meth : Method} {c : Code} (C : CQ p s m args meth c cL_isAs RL 5 (some .boolean) Z) {out : Int32} (hlt : l.stackTraces = false) {ls : Array Slot} {H : Heap} {locs : List Loc} (hW : XG Z h a g s.heap H locs) (hl : lv_has ls 5 [(0, .ref (Z.1 0)), (1, .ref (ra Z a p1))]) (hf : Jp_L_isAs_282 h g p1 = some out) : W p l e (rmP 13 1) s m args below meth c H locs 0 (600 * 0) (MQ below (va_Qi (fun r (_ : Unit) => r = out) (fun _ => WdP Z h a g) (FR Z)) args s 1 (600 * 1) (FR Z)) (F0 m 282 ls []) := by
  rw [Jp_L_isAs_282] at hf
  refine lv_aload_n C.1 C.2.1 dL_isAs_282 rfl (lv_at hl 0 rfl) ?_
  refine lv_iconst (v := 3) C.1 C.2.1 dL_isAs_283 (by decide) ?_
  refine lv_aload_n C.1 C.2.1 dL_isAs_284 rfl (lv_at hl 1 rfl) ?_
  refine zg_L_166 C hW hf dL_isAs_285 (fun q1 hf => ?_)
  refine z_alenI C hW hf dL_isAs_288 (fun hf => ?_)
  refine lv_iconst (v := 0) C.1 C.2.1 dL_isAs_289 (by decide) ?_
  refine lv_iconst (v := 0) C.1 C.2.1 dL_isAs_290 (by decide) ?_
  obtain ⟨u2, hu2, hf⟩ := bnd_t hf
  have hhu2 := ask3_h hu2
  refine z_calli hW (z_runSW C hW hl (k_ask3 hlt hu2) cX_asks ct_asks cwL_L_121 (rm_okA (by decide)) (rm_a1 (by decide)) (As := [.ref (Z.1 0), .int (3 : Int32), .int (nI (gl g q1)), .int (0 : Int32), .int (0 : Int32)]) rfl rfl (Nat.le_of_ble_eq_true rfl) dL_isAs_291) (fun H locs hW => ?_)
  refine W.widen (k := 1) (n := 600 * 1) kn_v0 kn_v1 ?_
  rw [hhu2] at hW
  refine lv_ldc (v := -2000000050) C.1 C.2.1 C.2.2.2.1 (C.2.2.1 _ mc_L_77) dL_isAs_294 ?_
  refine z_cmpne (tgt := 303) C hf dL_isAs_296 (by decide) (fun hf => ?_) (fun hf => ?_)
  · refine lv_iconst (v := 0) C.1 C.2.1 dL_isAs_303 (by decide) ?_
    obtain rfl := Option.some.inj hf
    exact z_zret C hW (by decide) dL_isAs_304 () rfl (fun _ q => q)
  · refine lv_iconst (v := 1) C.1 C.2.1 dL_isAs_299 (by decide) ?_
    refine lv_goto (tgt := 304) C.1 C.2.1 dL_isAs_300 (by decide) ?_
    obtain rfl := Option.some.inj hf
    exact z_zret C hW (by decide) dL_isAs_304 () rfl (fun _ q => q)
set_option maxRecDepth 20000 in
set_option maxHeartbeats 1000000 in
theorem q_L_isAs_271 {l : Launch} {Z : ZT} {a : Nat → Nat} {h : Hp} {g : PL} {p1 : Nat} {r143 : Int32 → Option (Int32)} {x3 : Int32} {s0 : Int32} {s1 : Int32} {p : Program} {e : Env} {s : State} {m : MethodId} {args : Array Value} {below : List Frame} {meth : Method} {c : Code} (C : CQ p s m args meth c cL_isAs RL 5 (some .boolean) Z) {out : Int32} (hlt : l.stackTraces = false) (hr143 : ∀ (x3 : Int32) (ls : Array Slot) (H : Heap) (locs : List Loc), XG Z h a g s.heap H locs → lv_has ls 5 [(0, .ref (Z.1 0)), (1, .ref (ra Z a p1)), (3, .int x3)] → r143 x3 = some out → W p l e (rmP 13 1) s m args below meth c H locs 0 (600 * 0) (MQ below (va_Qi (fun r (_ : Unit) => r = out) (fun _ => WdP Z h a g) (FR Z)) args s 1 (600 * 1) (FR Z)) (F0 m 143 ls [])) {ls : Array Slot} {H : Heap} {locs : List Loc} (hW : XG Z h a g s.heap H locs) (hl : lv_has ls 5 [(0, .ref (Z.1 0)), (1, .ref (ra Z a p1)), (3, .int x3)]) (hf : Jp_L_isAs_271 h g p1 r143 x3 s0 s1 = some out) : W p l e (rmP 13 1) s m args below meth c H locs 0 (600 * 0) (MQ below (va_Qi (fun r (_ : Unit) => r = out) (fun _ => WdP Z h a g) (FR Z)) args s 1 (600 * 1) (FR Z)) (F0 m 271 ls [.int s1, .int s0]) := by
  refine z_cmpeq (tgt := 276) C hf dL_isAs_271 (by decide) (fun hf => ?_) (fun hf => ?_)
  · refine z_iinc (w := 1) C hf dL_isAs_276 hl (k := 2) rfl (by decide) (by decide) (fun v3 => [(3, .int v3), (0, .ref (Z.1 0)), (1, .ref (ra Z a p1))]) (fun _ => rfl) (fun v3 ls hf hl => ?_)
    refine lv_goto (tgt := 143) C.1 C.2.1 dL_isAs_279 (by decide) ?_
    exact hr143 v3 ls _ _ hW (lv_sub hl [1, 2, 0] rfl) hf
  · refine lv_iconst (v := 0) C.1 C.2.1 dL_isAs_274 (by decide) ?_
    obtain rfl := Option.some.inj hf
    refine W.widen (k := 1) (n := 600 * 1) (by omega) (by omega) ?_
    exact z_zret C hW (by decide) dL_isAs_275 () rfl (fun _ q => q)
set_option maxRecDepth 20000 in
set_option maxHeartbeats 1000000 in
theorem l_L_isAs_143 {l : Launch} {Z : ZT} {a : Nat → Nat} {h : Hp} {g : PL} {p1 : Nat} {p : Program} {e : Env} {s : State} {m : MethodId} {args : Array Value} {below : List Frame} {meth : Method} {c : Code} (C : CQ p s m args meth c cL_isAs RL 5 (some .boolean) Z) {out : Int32} (hlt : l.stackTraces = false) : ∀ (n : Nat) (x3 : Int32) (ls : Array Slot) (H : Heap) (locs : List Loc), XG Z h a g s.heap H locs → lv_has ls 5 [(0, .ref (Z.1 0)), (1, .ref (ra Z a p1)), (3, .int x3)] → Lp (Fp_L_isAs_143 h g p1) n x3 = some out → W p l e (rmP 13 1) s m args below meth c H locs 0 (600 * 0) (MQ below (va_Qi (fun r (_ : Unit) => r = out) (fun _ => WdP Z h a g) (FR Z)) args s 1 (600 * 1) (FR Z)) (F0 m 143 ls []) := by
  intro n
  induction n with
  | zero => intro x3 ls H locs hW hl hf; cases hf
  | succ n ih =>
    intro x3 ls H locs hW hl hf
    rw [Lp_s] at hf
    rw [Fp_L_isAs_143] at hf
    try dsimp only at hf
    refine lv_iload_n C.1 C.2.1 dL_isAs_143 rfl (lv_at hl 2 rfl) ?_
    refine lv_aload_n C.1 C.2.1 dL_isAs_144 rfl (lv_at hl 1 rfl) ?_
    refine zg_L_147 C hW hf dL_isAs_145 (fun hf => ?_)
    refine z_cmpge (tgt := 282) C hf dL_isAs_148 (by decide) (fun hf => ?_) (fun hf => ?_)
    · exact q_L_isAs_282 C hlt hW (lv_sub hl [0, 1] rfl) hf
    · refine lv_aload_n C.1 C.2.1 dL_isAs_151 rfl (lv_at hl 0 rfl) ?_
      refine lv_iconst (v := 2) C.1 C.2.1 dL_isAs_152 (by decide) ?_
      refine lv_iload_n C.1 C.2.1 dL_isAs_153 rfl (lv_at hl 2 rfl) ?_
      refine lv_iconst (v := 0) C.1 C.2.1 dL_isAs_154 (by decide) ?_
      refine lv_iconst (v := 0) C.1 C.2.1 dL_isAs_155 (by decide) ?_
      obtain ⟨u4, hu4, hf⟩ := bnd_t hf
      have hhu4 := ask2_h hu4
      obtain ⟨htu4, hf⟩ := ck_t hf
      have htu4 := of_decide_eq_true htu4
      refine z_calli hW (z_runSW C hW hl (k_ask2 hlt hu4) cX_asks ct_asks cwL_L_121 (rm_okA (by decide)) (rm_a0 htu4 (by decide)) (As := [.ref (Z.1 0), .int (2 : Int32), .int x3, .int (0 : Int32), .int (0 : Int32)]) rfl rfl (Nat.le_of_ble_eq_true rfl) dL_isAs_156) (fun H locs hW => ?_)
      refine W.widen (k := 0) (n := 600 * 0) (kn_w0 htu4) (kn_w1 htu4) ?_
      rw [hhu4] at hW
      refine lv_aload_n C.1 C.2.1 dL_isAs_159 rfl (lv_at hl 1 rfl) ?_
      refine zg_L_204 C hW hf dL_isAs_160 (fun q5 hf => ?_)
      refine lv_iload_n C.1 C.2.1 dL_isAs_163 rfl (lv_at hl 2 rfl) ?_
      refine z_iald C hW hf dL_isAs_164 (fun hf => ?_)
      refine z_cmpne (tgt := 238) C hf dL_isAs_165 (by decide) (fun hf => ?_) (fun hf => ?_)
      · refine lv_iconst (v := 0) C.1 C.2.1 dL_isAs_238 (by decide) ?_
        obtain rfl := Option.some.inj hf
        refine W.widen (k := 1) (n := 600 * 1) (by omega) (by omega) ?_
        exact z_zret C hW (by decide) dL_isAs_239 () rfl (fun _ q => q)
      · refine lv_aload_n C.1 C.2.1 dL_isAs_168 rfl (lv_at hl 0 rfl) ?_
        refine lv_iconst (v := 2) C.1 C.2.1 dL_isAs_169 (by decide) ?_
        refine lv_iload_n C.1 C.2.1 dL_isAs_170 rfl (lv_at hl 2 rfl) ?_
        refine lv_iconst (v := 1) C.1 C.2.1 dL_isAs_171 (by decide) ?_
        refine lv_iconst (v := 0) C.1 C.2.1 dL_isAs_172 (by decide) ?_
        obtain ⟨u6, hu6, hf⟩ := bnd_t hf
        have hhu6 := ask2_h hu6
        obtain ⟨htu6, hf⟩ := ck_t hf
        have htu6 := of_decide_eq_true htu6
        refine z_calli hW (z_runSW C hW hl (k_ask2 hlt hu6) cX_asks ct_asks cwL_L_121 (rm_okA (by decide)) (rm_a0 htu6 (by decide)) (As := [.ref (Z.1 0), .int (2 : Int32), .int x3, .int (1 : Int32), .int (0 : Int32)]) rfl rfl (Nat.le_of_ble_eq_true rfl) dL_isAs_173) (fun H locs hW => ?_)
        refine W.widen (k := 0) (n := 600 * 0) (kn_w0 htu6) (kn_w1 htu6) ?_
        rw [hhu6] at hW
        refine lv_aload_n C.1 C.2.1 dL_isAs_176 rfl (lv_at hl 1 rfl) ?_
        refine zg_L_207 C hW hf dL_isAs_177 (fun q7 hf => ?_)
        refine lv_iload_n C.1 C.2.1 dL_isAs_180 rfl (lv_at hl 2 rfl) ?_
        refine z_iald C hW hf dL_isAs_181 (fun hf => ?_)
        refine z_cmpne (tgt := 238) C hf dL_isAs_182 (by decide) (fun hf => ?_) (fun hf => ?_)
        · refine lv_iconst (v := 0) C.1 C.2.1 dL_isAs_238 (by decide) ?_
          obtain rfl := Option.some.inj hf
          refine W.widen (k := 1) (n := 600 * 1) (by omega) (by omega) ?_
          exact z_zret C hW (by decide) dL_isAs_239 () rfl (fun _ q => q)
        · refine lv_aload_n C.1 C.2.1 dL_isAs_185 rfl (lv_at hl 0 rfl) ?_
          refine lv_iconst (v := 2) C.1 C.2.1 dL_isAs_186 (by decide) ?_
          refine lv_iload_n C.1 C.2.1 dL_isAs_187 rfl (lv_at hl 2 rfl) ?_
          refine lv_bipush (v := 6) C.1 C.2.1 dL_isAs_188 (by decide) ?_
          refine lv_iconst (v := 0) C.1 C.2.1 dL_isAs_190 (by decide) ?_
          obtain ⟨u8, hu8, hf⟩ := bnd_t hf
          have hhu8 := ask2_h hu8
          obtain ⟨htu8, hf⟩ := ck_t hf
          have htu8 := of_decide_eq_true htu8
          refine z_calli hW (z_runSW C hW hl (k_ask2 hlt hu8) cX_asks ct_asks cwL_L_121 (rm_okA (by decide)) (rm_a0 htu8 (by decide)) (As := [.ref (Z.1 0), .int (2 : Int32), .int x3, .int (6 : Int32), .int (0 : Int32)]) rfl rfl (Nat.le_of_ble_eq_true rfl) dL_isAs_191) (fun H locs hW => ?_)
          refine W.widen (k := 0) (n := 600 * 0) (kn_w0 htu8) (kn_w1 htu8) ?_
          rw [hhu8] at hW
          refine lv_aload_n C.1 C.2.1 dL_isAs_194 rfl (lv_at hl 1 rfl) ?_
          refine zg_L_150 C hW hf dL_isAs_195 (fun q9 hf => ?_)
          refine lv_iload_n C.1 C.2.1 dL_isAs_198 rfl (lv_at hl 2 rfl) ?_
          refine z_iald C hW hf dL_isAs_199 (fun hf => ?_)
          refine z_cmpne (tgt := 238) C hf dL_isAs_200 (by decide) (fun hf => ?_) (fun hf => ?_)
          · refine lv_iconst (v := 0) C.1 C.2.1 dL_isAs_238 (by decide) ?_
            obtain rfl := Option.some.inj hf
            refine W.widen (k := 1) (n := 600 * 1) (by omega) (by omega) ?_
            exact z_zret C hW (by decide) dL_isAs_239 () rfl (fun _ q => q)
          · refine lv_aload_n C.1 C.2.1 dL_isAs_203 rfl (lv_at hl 0 rfl) ?_
            refine lv_iconst (v := 2) C.1 C.2.1 dL_isAs_204 (by decide) ?_
            refine lv_iload_n C.1 C.2.1 dL_isAs_205 rfl (lv_at hl 2 rfl) ?_
            refine lv_bipush (v := 7) C.1 C.2.1 dL_isAs_206 (by decide) ?_
            refine lv_iconst (v := 0) C.1 C.2.1 dL_isAs_208 (by decide) ?_
            obtain ⟨u10, hu10, hf⟩ := bnd_t hf
            have hhu10 := ask2_h hu10
            obtain ⟨htu10, hf⟩ := ck_t hf
            have htu10 := of_decide_eq_true htu10
            refine z_calli hW (z_runSW C hW hl (k_ask2 hlt hu10) cX_asks ct_asks cwL_L_121 (rm_okA (by decide)) (rm_a0 htu10 (by decide)) (As := [.ref (Z.1 0), .int (2 : Int32), .int x3, .int (7 : Int32), .int (0 : Int32)]) rfl rfl (Nat.le_of_ble_eq_true rfl) dL_isAs_209) (fun H locs hW => ?_)
            refine W.widen (k := 0) (n := 600 * 0) (kn_w0 htu10) (kn_w1 htu10) ?_
            rw [hhu10] at hW
            refine lv_aload_n C.1 C.2.1 dL_isAs_212 rfl (lv_at hl 1 rfl) ?_
            refine zg_L_154 C hW hf dL_isAs_213 (fun q11 hf => ?_)
            refine lv_iload_n C.1 C.2.1 dL_isAs_216 rfl (lv_at hl 2 rfl) ?_
            refine z_iald C hW hf dL_isAs_217 (fun hf => ?_)
            refine z_cmpne (tgt := 238) C hf dL_isAs_218 (by decide) (fun hf => ?_) (fun hf => ?_)
            · refine lv_iconst (v := 0) C.1 C.2.1 dL_isAs_238 (by decide) ?_
              obtain rfl := Option.some.inj hf
              refine W.widen (k := 1) (n := 600 * 1) (by omega) (by omega) ?_
              exact z_zret C hW (by decide) dL_isAs_239 () rfl (fun _ q => q)
            · refine lv_aload_n C.1 C.2.1 dL_isAs_221 rfl (lv_at hl 0 rfl) ?_
              refine lv_iconst (v := 2) C.1 C.2.1 dL_isAs_222 (by decide) ?_
              refine lv_iload_n C.1 C.2.1 dL_isAs_223 rfl (lv_at hl 2 rfl) ?_
              refine lv_bipush (v := 8) C.1 C.2.1 dL_isAs_224 (by decide) ?_
              refine lv_iconst (v := 0) C.1 C.2.1 dL_isAs_226 (by decide) ?_
              obtain ⟨u12, hu12, hf⟩ := bnd_t hf
              have hhu12 := ask2_h hu12
              obtain ⟨htu12, hf⟩ := ck_t hf
              have htu12 := of_decide_eq_true htu12
              refine z_calli hW (z_runSW C hW hl (k_ask2 hlt hu12) cX_asks ct_asks cwL_L_121 (rm_okA (by decide)) (rm_a0 htu12 (by decide)) (As := [.ref (Z.1 0), .int (2 : Int32), .int x3, .int (8 : Int32), .int (0 : Int32)]) rfl rfl (Nat.le_of_ble_eq_true rfl) dL_isAs_227) (fun H locs hW => ?_)
              refine W.widen (k := 0) (n := 600 * 0) (kn_w0 htu12) (kn_w1 htu12) ?_
              rw [hhu12] at hW
              refine lv_aload_n C.1 C.2.1 dL_isAs_230 rfl (lv_at hl 1 rfl) ?_
              refine lv_iload_n C.1 C.2.1 dL_isAs_231 rfl (lv_at hl 2 rfl) ?_
              obtain ⟨hb, hf⟩ := ck_t hf
              obtain ⟨u13, hu13, hf⟩ := bnd_t hf
              refine z_calli hW (z_runV C hW hl hb (ci := 9) (fs := fl_X11 Z a (g.2.2 p1)) rfl rfl rfl (c_X11_shotOf hu13) cw_L_157 ci_X11_shotOf cs_X11_shotOf (rm_okP (by decide) (by decide)) (rm_cs (by decide)) (As := [.int x3]) rfl rfl (Nat.le_of_ble_eq_true rfl) dL_isAs_232) (fun H locs hW => ?_)
              refine W.widen (k := 0) (n := 600 * 0) (by omega) (by omega) ?_
              refine z_cmpeq (tgt := 240) C hf dL_isAs_235 (by decide) (fun hf => ?_) (fun hf => ?_)
              · refine lv_aload_n C.1 C.2.1 dL_isAs_240 rfl (lv_at hl 0 rfl) ?_
                refine lv_iconst (v := 2) C.1 C.2.1 dL_isAs_241 (by decide) ?_
                refine lv_iload_n C.1 C.2.1 dL_isAs_242 rfl (lv_at hl 2 rfl) ?_
                refine lv_iconst (v := 5) C.1 C.2.1 dL_isAs_243 (by decide) ?_
                refine lv_iconst (v := 0) C.1 C.2.1 dL_isAs_244 (by decide) ?_
                obtain ⟨u14, hu14, hf⟩ := bnd_t hf
                have hhu14 := ask2_h hu14
                obtain ⟨htu14, hf⟩ := ck_t hf
                have htu14 := of_decide_eq_true htu14
                refine z_calli hW (z_runSW C hW hl (k_ask2 hlt hu14) cX_asks ct_asks cwL_L_121 (rm_okA (by decide)) (rm_a0 htu14 (by decide)) (As := [.ref (Z.1 0), .int (2 : Int32), .int x3, .int (5 : Int32), .int (0 : Int32)]) rfl rfl (Nat.le_of_ble_eq_true rfl) dL_isAs_245) (fun H locs hW => ?_)
                refine W.widen (k := 0) (n := 600 * 0) (kn_w0 htu14) (kn_w1 htu14) ?_
                rw [hhu14] at hW
                refine lv_iload_n C.1 C.2.1 dL_isAs_248 rfl (lv_at hl 2 rfl) ?_
                refine lv_aload_n C.1 C.2.1 dL_isAs_249 rfl (lv_at hl 1 rfl) ?_
                refine zg_L_147 C hW hf dL_isAs_250 (fun hf => ?_)
                refine lv_iconst (v := 1) C.1 C.2.1 dL_isAs_253 (by decide) ?_
                refine lv_isub C.1 C.2.1 dL_isAs_254 ?_
                refine z_cmpne (tgt := 265) C hf dL_isAs_255 (by decide) (fun hf => ?_) (fun hf => ?_)
                · refine lv_aload_n C.1 C.2.1 dL_isAs_265 rfl (lv_at hl 1 rfl) ?_
                  refine zg_L_212 C hW hf dL_isAs_266 (fun q15 hf => ?_)
                  refine lv_iload_n C.1 C.2.1 dL_isAs_269 rfl (lv_at hl 2 rfl) ?_
                  refine z_iald C hW hf dL_isAs_270 (fun hf => ?_)
                  exact q_L_isAs_271 C hlt ih hW (lv_sub hl [0, 1, 2] rfl) hf
                · refine lv_aload_n C.1 C.2.1 dL_isAs_258 rfl (lv_at hl 1 rfl) ?_
                  refine zg_L_210 C hW hf dL_isAs_259 (fun hf => ?_)
                  refine lv_goto (tgt := 271) C.1 C.2.1 dL_isAs_262 (by decide) ?_
                  exact q_L_isAs_271 C hlt ih hW (lv_sub hl [0, 1, 2] rfl) hf
              · refine lv_iconst (v := 0) C.1 C.2.1 dL_isAs_238 (by decide) ?_
                obtain rfl := Option.some.inj hf
                refine W.widen (k := 1) (n := 600 * 1) (by omega) (by omega) ?_
                exact z_zret C hW (by decide) dL_isAs_239 () rfl (fun _ q => q)
set_option maxRecDepth 20000 in
set_option maxHeartbeats 1000000 in
theorem q_L_isAs_141 {l : Launch} {Z : ZT} {a : Nat → Nat} {h : Hp} {g : PL} {p1 : Nat} {p : Program} {e : Env} {s : State} {m : MethodId} {args : Array Value} {below : List Frame} {meth : Method} {c : Code} (C : CQ p s m args meth c cL_isAs RL 5 (some .boolean) Z) {out : Int32} (hlt : l.stackTraces = false) {ls : Array Slot} {H : Heap} {locs : List Loc} (hW : XG Z h a g s.heap H locs) (hl : lv_has ls 5 [(0, .ref (Z.1 0)), (1, .ref (ra Z a p1))]) (hf : Jp_L_isAs_141 h g p1 = some out) : W p l e (rmP 13 1) s m args below meth c H locs 0 (600 * 0) (MQ below (va_Qi (fun r (_ : Unit) => r = out) (fun _ => WdP Z h a g) (FR Z)) args s 1 (600 * 1) (FR Z)) (F0 m 141 ls []) := by
  refine lv_iconst (v := 0) C.1 C.2.1 dL_isAs_141 (by decide) ?_
  refine lv_istore_n (lv' := [(3, .int (0 : Int32)), (0, .ref (Z.1 0)), (1, .ref (ra Z a p1))]) C.1 C.2.1 dL_isAs_142 rfl hl (by decide) rfl (fun ls hl => ?_)
  exact l_L_isAs_143 C hlt FU (0 : Int32) ls _ _ hW (lv_sub hl [1, 2, 0] rfl) hf
set_option maxRecDepth 20000 in
set_option maxHeartbeats 1000000 in
theorem l_L_isAs_41 {l : Launch} {Z : ZT} {a : Nat → Nat} {h : Hp} {g : PL} {p1 : Nat} {p : Program} {e : Env} {s : State} {m : MethodId} {args : Array Value} {below : List Frame} {meth : Method} {c : Code} (C : CQ p s m args meth c cL_isAs RL 5 (some .boolean) Z) {out : Int32} (hlt : l.stackTraces = false) : ∀ (n : Nat) (x2 : Int32) (x3 : Int32) (ls : Array Slot) (H : Heap) (locs : List Loc), XG Z h a g s.heap H locs → lv_has ls 5 [(0, .ref (Z.1 0)), (1, .ref (ra Z a p1)), (2, .int x2), (3, .int x3)] → Lp (Fp_L_isAs_41 h g p1) n (x2, x3) = some out → W p l e (rmP 13 1) s m args below meth c H locs 0 (600 * 0) (MQ below (va_Qi (fun r (_ : Unit) => r = out) (fun _ => WdP Z h a g) (FR Z)) args s 1 (600 * 1) (FR Z)) (F0 m 41 ls []) := by
  intro n
  induction n with
  | zero => intro x2 x3 ls H locs hW hl hf; cases hf
  | succ n ih =>
    intro x2 x3 ls H locs hW hl hf
    rw [Lp_s] at hf
    rw [Fp_L_isAs_41] at hf
    try dsimp only at hf
    refine lv_iload_n C.1 C.2.1 dL_isAs_41 rfl (lv_at hl 3 rfl) ?_
    refine lv_aload_n C.1 C.2.1 dL_isAs_42 rfl (lv_at hl 1 rfl) ?_
    refine zg_L_166 C hW hf dL_isAs_43 (fun q16 hf => ?_)
    refine z_alenI C hW hf dL_isAs_46 (fun hf => ?_)
    refine z_cmpge (tgt := 141) C hf dL_isAs_47 (by decide) (fun hf => ?_) (fun hf => ?_)
    · exact q_L_isAs_141 C hlt hW (lv_sub hl [0, 1] rfl) hf
    · refine lv_aload_n C.1 C.2.1 dL_isAs_50 rfl (lv_at hl 1 rfl) ?_
      refine zg_L_166 C hW hf dL_isAs_51 (fun q17 hf => ?_)
      refine lv_iload_n C.1 C.2.1 dL_isAs_54 rfl (lv_at hl 3 rfl) ?_
      refine z_iald C hW hf dL_isAs_55 (fun hf => ?_)
      refine z_ist C hf dL_isAs_56 hl (by decide) (fun v18 => [(4, .int v18), (0, .ref (Z.1 0)), (1, .ref (ra Z a p1)), (2, .int x2), (3, .int x3)]) (fun _ => rfl) (fun v18 ls hf hl => ?_)
      refine lv_aload_n C.1 C.2.1 dL_isAs_58 rfl (lv_at hl 1 rfl) ?_
      refine lv_iconst (v := 3) C.1 C.2.1 dL_isAs_59 (by decide) ?_
      refine lv_iload_n C.1 C.2.1 dL_isAs_60 rfl (lv_at hl 4 rfl) ?_
      refine lv_iconst (v := 0) C.1 C.2.1 dL_isAs_61 (by decide) ?_
      refine lv_iconst (v := 0) C.1 C.2.1 dL_isAs_62 (by decide) ?_
      obtain ⟨u19, hu19, hf⟩ := bnd_t hf
      have hhu19 := ask3_h hu19
      obtain ⟨htu19, hf⟩ := ck_t hf
      have htu19 := of_decide_eq_true htu19
      refine z_calli hW (z_runSW C hW hl (k_ask3 hlt hu19) cX_asks ct_asks cwL_L_121 (rm_okA (by decide)) (rm_a0 htu19 (by decide)) (As := [.ref (Z.1 0), .int (3 : Int32), .int x3, .int (0 : Int32), .int (0 : Int32)]) rfl rfl (Nat.le_of_ble_eq_true rfl) dL_isAs_63) (fun H locs hW => ?_)
      refine W.widen (k := 0) (n := 600 * 0) (kn_w0 htu19) (kn_w1 htu19) ?_
      rw [hhu19] at hW
      refine lv_iload C.1 C.2.1 dL_isAs_66 (lv_at hl 0 rfl) ?_
      refine z_cmpne (tgt := 117) C hf dL_isAs_68 (by decide) (fun hf => ?_) (fun hf => ?_)
      · refine lv_iconst (v := 0) C.1 C.2.1 dL_isAs_117 (by decide) ?_
        obtain rfl := Option.some.inj hf
        refine W.widen (k := 1) (n := 600 * 1) (by omega) (by omega) ?_
        exact z_zret C hW (by decide) dL_isAs_118 () rfl (fun _ q => q)
      · refine lv_aload_n C.1 C.2.1 dL_isAs_71 rfl (lv_at hl 1 rfl) ?_
        refine lv_iconst (v := 4) C.1 C.2.1 dL_isAs_72 (by decide) ?_
        refine lv_iload_n C.1 C.2.1 dL_isAs_73 rfl (lv_at hl 4 rfl) ?_
        refine lv_iconst (v := 0) C.1 C.2.1 dL_isAs_74 (by decide) ?_
        refine lv_iconst (v := 0) C.1 C.2.1 dL_isAs_75 (by decide) ?_
        obtain ⟨u20, hu20, hf⟩ := bnd_t hf
        have hhu20 := ask4_h hu20
        obtain ⟨htu20, hf⟩ := ck_t hf
        have htu20 := of_decide_eq_true htu20
        refine z_calli hW (z_runSW C hW hl (k_ask4 hlt hu20) cX_asks ct_asks cwL_L_121 (rm_okA (by decide)) (rm_a0 htu20 (by decide)) (As := [.ref (Z.1 0), .int (4 : Int32), .int x3, .int (0 : Int32), .int (0 : Int32)]) rfl rfl (Nat.le_of_ble_eq_true rfl) dL_isAs_76) (fun H locs hW => ?_)
        refine W.widen (k := 0) (n := 600 * 0) (kn_w0 htu20) (kn_w1 htu20) ?_
        rw [hhu20] at hW
        refine lv_aload_n C.1 C.2.1 dL_isAs_79 rfl (lv_at hl 2 rfl) ?_
        refine lv_iload C.1 C.2.1 dL_isAs_80 (lv_at hl 0 rfl) ?_
        obtain ⟨hb, hf⟩ := ck_t hf
        obtain ⟨u21, hu21, hf⟩ := bnd_t hf
        refine z_calli hW (z_runV C hW hl hb (ci := 9) (fs := fl_X11 Z a (g.2.2 p1)) rfl rfl rfl (c_X11_from hu21) cw_L_163 ci_X11_from cs_X11_from (rm_okP (by decide) (by decide)) (rm_cs (by decide)) (As := [.int v18]) rfl rfl (Nat.le_of_ble_eq_true rfl) dL_isAs_82) (fun H locs hW => ?_)
        refine W.widen (k := 0) (n := 600 * 0) (by omega) (by omega) ?_
        refine z_cmpne (tgt := 117) C hf dL_isAs_85 (by decide) (fun hf => ?_) (fun hf => ?_)
        · refine lv_iconst (v := 0) C.1 C.2.1 dL_isAs_117 (by decide) ?_
          obtain rfl := Option.some.inj hf
          refine W.widen (k := 1) (n := 600 * 1) (by omega) (by omega) ?_
          exact z_zret C hW (by decide) dL_isAs_118 () rfl (fun _ q => q)
        · refine lv_aload_n C.1 C.2.1 dL_isAs_88 rfl (lv_at hl 1 rfl) ?_
          refine lv_iconst (v := 4) C.1 C.2.1 dL_isAs_89 (by decide) ?_
          refine lv_iload_n C.1 C.2.1 dL_isAs_90 rfl (lv_at hl 4 rfl) ?_
          refine lv_iconst (v := 1) C.1 C.2.1 dL_isAs_91 (by decide) ?_
          refine lv_iconst (v := 0) C.1 C.2.1 dL_isAs_92 (by decide) ?_
          obtain ⟨u22, hu22, hf⟩ := bnd_t hf
          have hhu22 := ask4_h hu22
          obtain ⟨htu22, hf⟩ := ck_t hf
          have htu22 := of_decide_eq_true htu22
          refine z_calli hW (z_runSW C hW hl (k_ask4 hlt hu22) cX_asks ct_asks cwL_L_121 (rm_okA (by decide)) (rm_a0 htu22 (by decide)) (As := [.ref (Z.1 0), .int (4 : Int32), .int x3, .int (1 : Int32), .int (0 : Int32)]) rfl rfl (Nat.le_of_ble_eq_true rfl) dL_isAs_93) (fun H locs hW => ?_)
          refine W.widen (k := 0) (n := 600 * 0) (kn_w0 htu22) (kn_w1 htu22) ?_
          rw [hhu22] at hW
          refine lv_aload_n C.1 C.2.1 dL_isAs_96 rfl (lv_at hl 2 rfl) ?_
          refine lv_iload C.1 C.2.1 dL_isAs_97 (lv_at hl 0 rfl) ?_
          obtain ⟨hb, hf⟩ := ck_t hf
          obtain ⟨u23, hu23, hf⟩ := bnd_t hf
          refine z_calli hW (z_runV C hW hl hb (ci := 9) (fs := fl_X11 Z a (g.2.2 p1)) rfl rfl rfl (c_X11_to hu23) cw_L_160 ci_X11_to cs_X11_to (rm_okP (by decide) (by decide)) (rm_cs (by decide)) (As := [.int v18]) rfl rfl (Nat.le_of_ble_eq_true rfl) dL_isAs_99) (fun H locs hW => ?_)
          refine W.widen (k := 0) (n := 600 * 0) (by omega) (by omega) ?_
          refine z_cmpne (tgt := 117) C hf dL_isAs_102 (by decide) (fun hf => ?_) (fun hf => ?_)
          · refine lv_iconst (v := 0) C.1 C.2.1 dL_isAs_117 (by decide) ?_
            obtain rfl := Option.some.inj hf
            refine W.widen (k := 1) (n := 600 * 1) (by omega) (by omega) ?_
            exact z_zret C hW (by decide) dL_isAs_118 () rfl (fun _ q => q)
          · refine lv_aload_n C.1 C.2.1 dL_isAs_105 rfl (lv_at hl 1 rfl) ?_
            refine lv_iconst (v := 4) C.1 C.2.1 dL_isAs_106 (by decide) ?_
            refine lv_iload_n C.1 C.2.1 dL_isAs_107 rfl (lv_at hl 4 rfl) ?_
            refine lv_iconst (v := 2) C.1 C.2.1 dL_isAs_108 (by decide) ?_
            refine lv_iconst (v := 0) C.1 C.2.1 dL_isAs_109 (by decide) ?_
            obtain ⟨u24, hu24, hf⟩ := bnd_t hf
            have hhu24 := ask4_h hu24
            obtain ⟨htu24, hf⟩ := ck_t hf
            have htu24 := of_decide_eq_true htu24
            refine z_calli hW (z_runSW C hW hl (k_ask4 hlt hu24) cX_asks ct_asks cwL_L_121 (rm_okA (by decide)) (rm_a0 htu24 (by decide)) (As := [.ref (Z.1 0), .int (4 : Int32), .int x3, .int (2 : Int32), .int (0 : Int32)]) rfl rfl (Nat.le_of_ble_eq_true rfl) dL_isAs_110) (fun H locs hW => ?_)
            refine W.widen (k := 0) (n := 600 * 0) (kn_w0 htu24) (kn_w1 htu24) ?_
            rw [hhu24] at hW
            refine lv_iload_n C.1 C.2.1 dL_isAs_113 rfl (lv_at hl 3 rfl) ?_
            refine z_cmpeq (tgt := 119) C hf dL_isAs_114 (by decide) (fun hf => ?_) (fun hf => ?_)
            · refine lv_iload_n C.1 C.2.1 dL_isAs_119 rfl (lv_at hl 3 rfl) ?_
              refine lv_aload_n C.1 C.2.1 dL_isAs_120 rfl (lv_at hl 2 rfl) ?_
              refine lv_iload C.1 C.2.1 dL_isAs_121 (lv_at hl 0 rfl) ?_
              obtain ⟨hb, hf⟩ := ck_t hf
              obtain ⟨u25, hu25, hf⟩ := bnd_t hf
              refine z_calli hW (z_runV C hW hl hb (ci := 9) (fs := fl_X11 Z a (g.2.2 p1)) rfl rfl rfl (c_X11_to hu25) cw_L_160 ci_X11_to cs_X11_to (rm_okP (by decide) (by decide)) (rm_cs (by decide)) (As := [.int v18]) rfl rfl (Nat.le_of_ble_eq_true rfl) dL_isAs_123) (fun H locs hW => ?_)
              refine W.widen (k := 0) (n := 600 * 0) (by omega) (by omega) ?_
              refine lv_aload_n C.1 C.2.1 dL_isAs_126 rfl (lv_at hl 2 rfl) ?_
              refine lv_iload C.1 C.2.1 dL_isAs_127 (lv_at hl 0 rfl) ?_
              obtain ⟨hb, hf⟩ := ck_t hf
              obtain ⟨u26, hu26, hf⟩ := bnd_t hf
              refine z_calli hW (z_runV C hW hl hb (ci := 9) (fs := fl_X11 Z a (g.2.2 p1)) rfl rfl rfl (c_X11_from hu26) cw_L_163 ci_X11_from cs_X11_from (rm_okP (by decide) (by decide)) (rm_cs (by decide)) (As := [.int v18]) rfl rfl (Nat.le_of_ble_eq_true rfl) dL_isAs_129) (fun H locs hW => ?_)
              refine W.widen (k := 0) (n := 600 * 0) (by omega) (by omega) ?_
              refine lv_isub C.1 C.2.1 dL_isAs_132 ?_
              refine lv_iadd C.1 C.2.1 dL_isAs_133 ?_
              refine z_istn C hf dL_isAs_134 rfl hl (by decide) (fun v27 => [(2, .int v27), (4, .int v18), (0, .ref (Z.1 0)), (1, .ref (ra Z a p1)), (3, .int x3)]) (fun _ => rfl) (fun v27 ls hf hl => ?_)
              refine z_iinc (w := 1) C hf dL_isAs_135 hl (k := 4) rfl (by decide) (by decide) (fun v28 => [(3, .int v28), (2, .int v27), (4, .int v18), (0, .ref (Z.1 0)), (1, .ref (ra Z a p1))]) (fun _ => rfl) (fun v28 ls hf hl => ?_)
              refine lv_goto (tgt := 41) C.1 C.2.1 dL_isAs_138 (by decide) ?_
              exact ih v27 v28 ls _ _ hW (lv_sub hl [3, 4, 1, 0] rfl) hf
            · refine lv_iconst (v := 0) C.1 C.2.1 dL_isAs_117 (by decide) ?_
              obtain rfl := Option.some.inj hf
              refine W.widen (k := 1) (n := 600 * 1) (by omega) (by omega) ?_
              exact z_zret C hW (by decide) dL_isAs_118 () rfl (fun _ q => q)
set_option maxRecDepth 20000 in
set_option maxHeartbeats 1000000 in
theorem c_L_isAs {l : Launch} (hlt : l.stackTraces = false) {Z : ZT} {a : Nat → Nat} {h : Hp} {g : PL} {p1 : Nat} {out : Int32} (hf : fp_L_isAs h g p1 = some out) : Met l yL_isAs (wY yL_isAs cL_isAs 5 (some .boolean)) (rmP 13 1) (va_Pc [.ref (Z.1 0), .ref (ra Z a p1)] (WdP Z h a g)) (va_Qi (fun r (_ : Unit) => r = out) (fun _ => WdP Z h a g) (FR Z)) 1 (600 * 1) (FR Z) := by
  refine metZ RL rfl (by decide +kernel) (Nat.le_of_ble_eq_true rfl) ?_
  intro p e s m args below meth c C hin hW ls hl
  have hl : lv_has ls 5 [(0, .ref (Z.1 0)), (1, .ref (ra Z a p1))] := hl
  unfold fp_L_isAs at hf
  refine W.widen (k := 0) (n := 600 * 0) (Nat.le_refl _) (Nat.le_refl _) ?_
  refine lv_aload_n C.1 C.2.1 dL_isAs_0 rfl (lv_at hl 0 rfl) ?_
  obtain ⟨u29, hu29, hf⟩ := bnd_t hf
  refine z_calli0 hW (z_run0 C hW hl rfl (c_X10_shots hu29) cw_L_197 ci_X10_shots cs_X10_shots (rm_okD (by decide) (by decide)) (rm_c00 (by decide)) (As := []) rfl rfl (Nat.le_of_ble_eq_true rfl) dL_isAs_1) (fun H locs hW => ?_)
  refine W.widen (k := 0) (n := 600 * 0) (by omega) (by omega) ?_
  refine lv_aload_n C.1 C.2.1 dL_isAs_4 rfl (lv_at hl 1 rfl) ?_
  refine zg_L_166 C hW hf dL_isAs_5 (fun q30 hf => ?_)
  refine z_alenI C hW hf dL_isAs_8 (fun hf => ?_)
  refine z_cmpne (tgt := 35) C hf dL_isAs_9 (by decide) (fun hf => ?_) (fun hf => ?_)
  · refine lv_iconst (v := 0) C.1 C.2.1 dL_isAs_35 (by decide) ?_
    obtain rfl := Option.some.inj hf
    refine W.widen (k := 1) (n := 600 * 1) (by omega) (by omega) ?_
    exact z_zret C hW (by decide) dL_isAs_36 () rfl (fun _ q => q)
  · refine lv_aload_n C.1 C.2.1 dL_isAs_12 rfl (lv_at hl 0 rfl) ?_
    obtain ⟨u31, hu31, hf⟩ := bnd_t hf
    refine z_calli0 hW (z_run0 C hW hl rfl (c_X10_filmLength hu31) cw_L_200 ci_X10_filmLength cs_X10_filmLength (rm_okD (by decide) (by decide)) (rm_c00 (by decide)) (As := []) rfl rfl (Nat.le_of_ble_eq_true rfl) dL_isAs_13) (fun H locs hW => ?_)
    refine W.widen (k := 0) (n := 600 * 0) (by omega) (by omega) ?_
    refine lv_aload_n C.1 C.2.1 dL_isAs_16 rfl (lv_at hl 1 rfl) ?_
    obtain ⟨hb, hf⟩ := ck_t hf
    obtain ⟨u32, hu32, hf⟩ := bnd_t hf
    refine z_calli hW (z_runV C hW hl hb (ci := 9) (fs := fl_X11 Z a (g.2.2 p1)) rfl rfl rfl (c_X11_filmLength hu32) cw_L_130 ci_X11_filmLength cs_X11_filmLength (rm_okP (by decide) (by decide)) (rm_cs (by decide)) (As := []) rfl rfl (Nat.le_of_ble_eq_true rfl) dL_isAs_17) (fun H locs hW => ?_)
    refine W.widen (k := 0) (n := 600 * 0) (by omega) (by omega) ?_
    refine z_cmpne (tgt := 35) C hf dL_isAs_20 (by decide) (fun hf => ?_) (fun hf => ?_)
    · refine lv_iconst (v := 0) C.1 C.2.1 dL_isAs_35 (by decide) ?_
      obtain rfl := Option.some.inj hf
      refine W.widen (k := 1) (n := 600 * 1) (by omega) (by omega) ?_
      exact z_zret C hW (by decide) dL_isAs_36 () rfl (fun _ q => q)
    · refine lv_aload_n C.1 C.2.1 dL_isAs_23 rfl (lv_at hl 0 rfl) ?_
      refine lv_iconst (v := 3) C.1 C.2.1 dL_isAs_24 (by decide) ?_
      obtain ⟨u33, hu33, hf⟩ := bnd_t hf
      refine z_calli0 hW (z_run0 C hW hl rfl (c_X10_count hu33) cw_L_201 ci_X10_count cs_X10_count (rm_okD (by decide) (by decide)) (rm_c00 (by decide)) (As := [.int (3 : Int32)]) rfl rfl (Nat.le_of_ble_eq_true rfl) dL_isAs_25) (fun H locs hW => ?_)
      refine W.widen (k := 0) (n := 600 * 0) (by omega) (by omega) ?_
      refine lv_aload_n C.1 C.2.1 dL_isAs_28 rfl (lv_at hl 1 rfl) ?_
      refine zg_L_147 C hW hf dL_isAs_29 (fun hf => ?_)
      refine z_cmpeq (tgt := 37) C hf dL_isAs_32 (by decide) (fun hf => ?_) (fun hf => ?_)
      · refine lv_iconst (v := 0) C.1 C.2.1 dL_isAs_37 (by decide) ?_
        refine lv_istore_n (lv' := [(2, .int (0 : Int32)), (0, .ref (Z.1 0)), (1, .ref (ra Z a p1))]) C.1 C.2.1 dL_isAs_38 rfl hl (by decide) rfl (fun ls hl => ?_)
        refine lv_iconst (v := 0) C.1 C.2.1 dL_isAs_39 (by decide) ?_
        refine lv_istore_n (lv' := [(3, .int (0 : Int32)), (2, .int (0 : Int32)), (0, .ref (Z.1 0)), (1, .ref (ra Z a p1))]) C.1 C.2.1 dL_isAs_40 rfl hl (by decide) rfl (fun ls hl => ?_)
        exact l_L_isAs_41 C hlt FU (0 : Int32) (0 : Int32) ls _ _ hW (lv_sub hl [2, 3, 1, 0] rfl) hf
      · refine lv_iconst (v := 0) C.1 C.2.1 dL_isAs_35 (by decide) ?_
        obtain rfl := Option.some.inj hf
        refine W.widen (k := 1) (n := 600 * 1) (by omega) (by omega) ?_
        exact z_zret C hW (by decide) dL_isAs_36 () rfl (fun _ q => q)
set_option maxRecDepth 20000 in
set_option maxHeartbeats 1000000 in
theorem q_L_areWords_165 {l : Launch} {Z : ZT} {a0 : Nat → Nat} {g0 : PL} {h : Hp} {p1 : Nat} {g : PL} {p : Program} {e : Env} {s : State} {m : MethodId} {args : Array Value} {below : List Frame} {meth : Method} {c : Code} (C : CQ p s m args meth c cL_areWords RL 4 (some .boolean) Z) {out : Int32 × PL} (hlt : l.stackTraces = false) {a : Nat → Nat} (hA : AG a0 g0 a g) {ls : Array Slot} {H : Heap} {locs : List Loc} (hW : XG Z h a g s.heap H locs) (hl : lv_has ls 4 [(0, .ref (Z.1 0)), (1, .ref (ra Z a p1))]) (hf : Jp_L_areWords_165 h p1 g = some out) : W p l e (rmP 13 3) s m args below meth c H locs 2 (600 * 2) (MQ below (va_Qi (fun r (a1 : Nat → Nat) => r = out.1 ∧ AG a0 g0 a1 out.2) (fun a1 => WdP Z h a1 out.2) (FR Z)) args s 3 (600 * 3) (FR Z)) (F0 m 165 ls []) := by
  rw [Jp_L_areWords_165] at hf
  refine lv_aload_n C.1 C.2.1 dL_areWords_165 rfl (lv_at hl 0 rfl) ?_
  refine lv_iconst (v := 1) C.1 C.2.1 dL_areWords_166 (by decide) ?_
  refine lv_aload_n C.1 C.2.1 dL_areWords_167 rfl (lv_at hl 1 rfl) ?_
  refine zg_L_106 C hW hf dL_areWords_168 (fun hf => ?_)
  refine lv_iconst (v := 0) C.1 C.2.1 dL_areWords_171 (by decide) ?_
  refine lv_iconst (v := 0) C.1 C.2.1 dL_areWords_172 (by decide) ?_
  obtain ⟨u1, hu1, hf⟩ := bnd_t hf
  have hhu1 := ask1_h hu1
  refine z_calli hW (z_runSW C hW hl (k_ask1 hlt hu1) cX_asks ct_asks cwL_L_121 (rm_okA (by decide)) (rm_a1 (by decide)) (As := [.ref (Z.1 0), .int (1 : Int32), .int (g.2.2 p1 5), .int (0 : Int32), .int (0 : Int32)]) rfl rfl (Nat.le_of_ble_eq_true rfl) dL_areWords_173) (fun H locs hW => ?_)
  refine W.widen (k := 3) (n := 600 * 3) kn_v0 kn_v1 ?_
  rw [hhu1] at hW
  refine lv_ldc (v := -2000000050) C.1 C.2.1 C.2.2.2.1 (C.2.2.1 _ mc_L_77) dL_areWords_176 ?_
  refine z_cmpne (tgt := 185) C hf dL_areWords_178 (by decide) (fun hf => ?_) (fun hf => ?_)
  · refine lv_iconst (v := 0) C.1 C.2.1 dL_areWords_185 (by decide) ?_
    obtain rfl := Option.some.inj hf
    exact z_zret C hW (by decide) dL_areWords_186 a ⟨rfl, hA⟩ (fun _ q => q)
  · refine lv_iconst (v := 1) C.1 C.2.1 dL_areWords_181 (by decide) ?_
    refine lv_goto (tgt := 186) C.1 C.2.1 dL_areWords_182 (by decide) ?_
    obtain rfl := Option.some.inj hf
    exact z_zret C hW (by decide) dL_areWords_186 a ⟨rfl, hA⟩ (fun _ q => q)
set_option maxRecDepth 20000 in
set_option maxHeartbeats 1000000 in
theorem l_L_areWords_125 {l : Launch} {Z : ZT} {a0 : Nat → Nat} {g0 : PL} {h : Hp} {p1 : Nat} {g : PL} {x2 : Nat} {p : Program} {e : Env} {s : State} {m : MethodId} {args : Array Value} {below : List Frame} {meth : Method} {c : Code} (C : CQ p s m args meth c cL_areWords RL 4 (some .boolean) Z) {out : Int32 × PL} (hlt : l.stackTraces = false) : ∀ (n : Nat) (x3 : Int32) (a : Nat → Nat) (ls : Array Slot) (H : Heap) (locs : List Loc), AG a0 g0 a g → XG Z h a g s.heap H locs → lv_has ls 4 [(0, .ref (Z.1 0)), (1, .ref (ra Z a p1)), (2, .ref (ra Z a x2)), (3, .int x3)] → Lp (Fp_L_areWords_125 h p1 g x2) n x3 = some out → W p l e (rmP 13 3) s m args below meth c H locs 2 (600 * 2) (MQ below (va_Qi (fun r (a1 : Nat → Nat) => r = out.1 ∧ AG a0 g0 a1 out.2) (fun a1 => WdP Z h a1 out.2) (FR Z)) args s 3 (600 * 3) (FR Z)) (F0 m 125 ls []) := by
  intro n
  induction n with
  | zero => intro x3 a ls H locs hA hW hl hf; cases hf
  | succ n ih =>
    intro x3 a ls H locs hA hW hl hf
    rw [Lp_s] at hf
    rw [Fp_L_areWords_125] at hf
    try dsimp only at hf
    refine lv_iload_n C.1 C.2.1 dL_areWords_125 rfl (lv_at hl 3 rfl) ?_
    refine lv_aload_n C.1 C.2.1 dL_areWords_126 rfl (lv_at hl 2 rfl) ?_
    refine z_alenI C hW hf dL_areWords_127 (fun hf => ?_)
    refine z_cmpge (tgt := 165) C hf dL_areWords_128 (by decide) (fun hf => ?_) (fun hf => ?_)
    · exact q_L_areWords_165 C hlt hA hW (lv_sub hl [0, 1] rfl) hf
    · refine lv_aload_n C.1 C.2.1 dL_areWords_131 rfl (lv_at hl 0 rfl) ?_
      refine lv_iload_n C.1 C.2.1 dL_areWords_132 rfl (lv_at hl 3 rfl) ?_
      obtain ⟨u2, hu2, hf⟩ := bnd_t hf
      refine z_calli0 hW (z_run0 C hW hl rfl (c_X10_transcriptWord hu2) cw_L_221 ci_X10_transcriptWord cs_X10_transcriptWord (rm_okD (by decide) (by decide)) (rm_c00 (by decide)) (As := [.int x3]) rfl rfl (Nat.le_of_ble_eq_true rfl) dL_areWords_133) (fun H locs hW => ?_)
      refine W.widen (k := 2) (n := 600 * 2) (by omega) (by omega) ?_
      refine lv_aload_n C.1 C.2.1 dL_areWords_136 rfl (lv_at hl 2 rfl) ?_
      refine lv_iload_n C.1 C.2.1 dL_areWords_137 rfl (lv_at hl 3 rfl) ?_
      refine z_iald C hW hf dL_areWords_138 (fun hf => ?_)
      refine z_cmpne (tgt := 157) C hf dL_areWords_139 (by decide) (fun hf => ?_) (fun hf => ?_)
      · refine lv_iconst (v := 0) C.1 C.2.1 dL_areWords_157 (by decide) ?_
        obtain rfl := Option.some.inj hf
        refine W.widen (k := 3) (n := 600 * 3) (by omega) (by omega) ?_
        exact z_zret C hW (by decide) dL_areWords_158 a ⟨rfl, hA⟩ (fun _ q => q)
      · refine lv_aload_n C.1 C.2.1 dL_areWords_142 rfl (lv_at hl 0 rfl) ?_
        refine lv_bipush (v := 7) C.1 C.2.1 dL_areWords_143 (by decide) ?_
        refine lv_aload_n C.1 C.2.1 dL_areWords_145 rfl (lv_at hl 2 rfl) ?_
        refine lv_iload_n C.1 C.2.1 dL_areWords_146 rfl (lv_at hl 3 rfl) ?_
        refine z_iald C hW hf dL_areWords_147 (fun hf => ?_)
        refine lv_iconst (v := 0) C.1 C.2.1 dL_areWords_148 (by decide) ?_
        refine lv_iconst (v := 0) C.1 C.2.1 dL_areWords_149 (by decide) ?_
        obtain ⟨u3, hu3, hf⟩ := bnd_t hf
        have hhu3 := ask7_h hu3
        obtain ⟨htu3, hf⟩ := ck_t hf
        have htu3 := of_decide_eq_true htu3
        refine z_calli hW (z_runSW C hW hl (k_ask7 hlt hu3) cX_asks ct_asks cwL_L_121 (rm_okA (by decide)) (rm_a0 htu3 (by decide)) (As := [.ref (Z.1 0), .int (7 : Int32), .int (g.2.2 x2 (ix x3)), .int (0 : Int32), .int (0 : Int32)]) rfl rfl (Nat.le_of_ble_eq_true rfl) dL_areWords_150) (fun H locs hW => ?_)
        refine W.widen (k := 2) (n := 600 * 2) (kn_w0 htu3) (kn_w1 htu3) ?_
        rw [hhu3] at hW
        refine lv_iload_n C.1 C.2.1 dL_areWords_153 rfl (lv_at hl 3 rfl) ?_
        refine z_cmpeq (tgt := 159) C hf dL_areWords_154 (by decide) (fun hf => ?_) (fun hf => ?_)
        · refine z_iinc (w := 1) C hf dL_areWords_159 hl (k := 3) rfl (by decide) (by decide) (fun v4 => [(3, .int v4), (0, .ref (Z.1 0)), (1, .ref (ra Z a p1)), (2, .ref (ra Z a x2))]) (fun _ => rfl) (fun v4 ls hf hl => ?_)
          refine lv_goto (tgt := 125) C.1 C.2.1 dL_areWords_162 (by decide) ?_
          exact ih v4 _ ls _ _ hA hW (lv_sub hl [1, 2, 3, 0] rfl) hf
        · refine lv_iconst (v := 0) C.1 C.2.1 dL_areWords_157 (by decide) ?_
          obtain rfl := Option.some.inj hf
          refine W.widen (k := 3) (n := 600 * 3) (by omega) (by omega) ?_
          exact z_zret C hW (by decide) dL_areWords_158 a ⟨rfl, hA⟩ (fun _ q => q)
set_option maxRecDepth 20000 in
set_option maxHeartbeats 1000000 in
theorem q_L_areWords_97 {l : Launch} {Z : ZT} {a0 : Nat → Nat} {g0 : PL} {h : Hp} {p1 : Nat} {g : PL} {p : Program} {e : Env} {s : State} {m : MethodId} {args : Array Value} {below : List Frame} {meth : Method} {c : Code} (C : CQ p s m args meth c cL_areWords RL 4 (some .boolean) Z) {out : Int32 × PL} (hlt : l.stackTraces = false) {a : Nat → Nat} (hA : AG a0 g0 a g) {ls : Array Slot} {H : Heap} {locs : List Loc} (hW : XG Z h a g s.heap H locs) (hl : lv_has ls 4 [(0, .ref (Z.1 0)), (1, .ref (ra Z a p1))]) (hf : Jp_L_areWords_97 h p1 g = some out) : W p l e (rmP 13 3) s m args below meth c H locs 0 (600 * 0) (MQ below (va_Qi (fun r (a1 : Nat → Nat) => r = out.1 ∧ AG a0 g0 a1 out.2) (fun a1 => WdP Z h a1 out.2) (FR Z)) args s 3 (600 * 3) (FR Z)) (F0 m 97 ls []) := by
  rw [Jp_L_areWords_97] at hf
  refine lv_aload_n C.1 C.2.1 dL_areWords_97 rfl (lv_at hl 1 rfl) ?_
  obtain ⟨hx0, hf⟩ := ck_t hf
  have hpw := hW.2.2.2
  have hl : lv_has ls 4 [(0, .ref (Z.1 0)), (1, .ref (ra Z a p1))] := lv_sub hl [0, 1] rfl
  obtain ⟨hb, hf⟩ := ck_t hf
  obtain ⟨u5, hu5, hf⟩ := bnd_t hf
  refine z_callrA hW (z_runV C hW hl hb (ci := 9) (fs := fl_X11 Z a (g.2.2 p1)) rfl rfl rfl (c_X11_transcript hu5) cw_L_117 ci_X11_transcript cs_X11_transcript (rm_okP (by decide) (by decide)) (rm_cs (by decide)) (As := []) rfl rfl (Nat.le_of_ble_eq_true rfl) dL_areWords_98) (fun a6 H locs hg hW => ?_)
  have e0 := ra_to (Z := Z) hpw hg hx0
  rw [← e0] at hl
  have hA := hA.tr hg
  refine W.widen (k := 2) (n := 600 * 2) (by omega) (by omega) ?_
  refine lv_astore_n (lv' := [(2, .ref (ra Z a6 u5.1)), (0, .ref (Z.1 0)), (1, .ref (ra Z a6 p1))]) C.1 C.2.1 dL_areWords_101 rfl hl (by decide) rfl (fun ls hl => ?_)
  refine lv_aload_n C.1 C.2.1 dL_areWords_102 rfl (lv_at hl 1 rfl) ?_
  obtain ⟨u7, hu7, hf⟩ := bnd_t hf
  refine z_calli0 hW (z_run0 C hW hl rfl (c_X10_transcriptSize hu7) cw_L_218 ci_X10_transcriptSize cs_X10_transcriptSize (rm_okD (by decide) (by decide)) (rm_c00 (by decide)) (As := []) rfl rfl (Nat.le_of_ble_eq_true rfl) dL_areWords_103) (fun H locs hW => ?_)
  refine W.widen (k := 2) (n := 600 * 2) (by omega) (by omega) ?_
  refine lv_aload_n C.1 C.2.1 dL_areWords_106 rfl (lv_at hl 0 rfl) ?_
  refine z_alenI C hW hf dL_areWords_107 (fun hf => ?_)
  refine z_cmpne (tgt := 121) C hf dL_areWords_108 (by decide) (fun hf => ?_) (fun hf => ?_)
  · refine lv_iconst (v := 0) C.1 C.2.1 dL_areWords_121 (by decide) ?_
    obtain rfl := Option.some.inj hf
    refine W.widen (k := 3) (n := 600 * 3) (by omega) (by omega) ?_
    exact z_zret C hW (by decide) dL_areWords_122 a6 ⟨rfl, hA⟩ (fun _ q => q)
  · refine lv_aload_n C.1 C.2.1 dL_areWords_111 rfl (lv_at hl 1 rfl) ?_
    refine lv_aload_n C.1 C.2.1 dL_areWords_112 rfl (lv_at hl 0 rfl) ?_
    refine z_alenI C hW hf dL_areWords_113 (fun hf => ?_)
    obtain ⟨u8, hu8, hf⟩ := bnd_t hf
    refine z_calli0 hW (z_run0 C hW hl rfl (c_X10_transcriptWord hu8) cw_L_221 ci_X10_transcriptWord cs_X10_transcriptWord (rm_okD (by decide) (by decide)) (rm_c00 (by decide)) (As := [.int (nI (gl u5.2 u5.1))]) rfl rfl (Nat.le_of_ble_eq_true rfl) dL_areWords_114) (fun H locs hW => ?_)
    refine W.widen (k := 2) (n := 600 * 2) (by omega) (by omega) ?_
    refine lv_iconst (v := -1) C.1 C.2.1 dL_areWords_117 (by decide) ?_
    refine z_cmpeq (tgt := 123) C hf dL_areWords_118 (by decide) (fun hf => ?_) (fun hf => ?_)
    · refine lv_iconst (v := 0) C.1 C.2.1 dL_areWords_123 (by decide) ?_
      refine lv_istore_n (lv' := [(3, .int (0 : Int32)), (2, .ref (ra Z a6 u5.1)), (0, .ref (Z.1 0)), (1, .ref (ra Z a6 p1))]) C.1 C.2.1 dL_areWords_124 rfl hl (by decide) rfl (fun ls hl => ?_)
      exact l_L_areWords_125 C hlt FU (0 : Int32) _ ls _ _ hA hW (lv_sub hl [2, 3, 1, 0] rfl) hf
    · refine lv_iconst (v := 0) C.1 C.2.1 dL_areWords_121 (by decide) ?_
      obtain rfl := Option.some.inj hf
      refine W.widen (k := 3) (n := 600 * 3) (by omega) (by omega) ?_
      exact z_zret C hW (by decide) dL_areWords_122 a6 ⟨rfl, hA⟩ (fun _ q => q)
set_option maxRecDepth 20000 in
set_option maxHeartbeats 1000000 in
theorem l_L_areWords_2 {l : Launch} {Z : ZT} {a0 : Nat → Nat} {g0 : PL} {h : Hp} {p1 : Nat} {g : PL} {p : Program} {e : Env} {s : State} {m : MethodId} {args : Array Value} {below : List Frame} {meth : Method} {c : Code} (C : CQ p s m args meth c cL_areWords RL 4 (some .boolean) Z) {out : Int32 × PL} (hlt : l.stackTraces = false) : ∀ (n : Nat) (x2 : Int32) (a : Nat → Nat) (ls : Array Slot) (H : Heap) (locs : List Loc), AG a0 g0 a g → XG Z h a g s.heap H locs → lv_has ls 4 [(0, .ref (Z.1 0)), (1, .ref (ra Z a p1)), (2, .int x2)] → Lp (Fp_L_areWords_2 h p1 g) n x2 = some out → W p l e (rmP 13 3) s m args below meth c H locs 0 (600 * 0) (MQ below (va_Qi (fun r (a1 : Nat → Nat) => r = out.1 ∧ AG a0 g0 a1 out.2) (fun a1 => WdP Z h a1 out.2) (FR Z)) args s 3 (600 * 3) (FR Z)) (F0 m 2 ls []) := by
  intro n
  induction n with
  | zero => intro x2 a ls H locs hA hW hl hf; cases hf
  | succ n ih =>
    intro x2 a ls H locs hA hW hl hf
    rw [Lp_s] at hf
    rw [Fp_L_areWords_2] at hf
    try dsimp only at hf
    refine lv_iload_n C.1 C.2.1 dL_areWords_2 rfl (lv_at hl 2 rfl) ?_
    refine lv_aload_n C.1 C.2.1 dL_areWords_3 rfl (lv_at hl 1 rfl) ?_
    refine zg_L_106 C hW hf dL_areWords_4 (fun hf => ?_)
    refine z_cmpge (tgt := 97) C hf dL_areWords_7 (by decide) (fun hf => ?_) (fun hf => ?_)
    · exact q_L_areWords_97 C hlt hA hW (lv_sub hl [0, 1] rfl) hf
    · refine lv_aload_n C.1 C.2.1 dL_areWords_10 rfl (lv_at hl 1 rfl) ?_
      refine zg_L_214 C hW hf dL_areWords_11 (fun q9 hf => ?_)
      refine lv_iload_n C.1 C.2.1 dL_areWords_14 rfl (lv_at hl 2 rfl) ?_
      refine z_aald C hW hf dL_areWords_15 (fun q10 hf => ?_)
      refine lv_astore_n (lv' := [(3, .ref (ra Z a q10)), (0, .ref (Z.1 0)), (1, .ref (ra Z a p1)), (2, .int x2)]) C.1 C.2.1 dL_areWords_16 rfl hl (by decide) rfl (fun ls hl => ?_)
      refine lv_aload_n C.1 C.2.1 dL_areWords_17 rfl (lv_at hl 1 rfl) ?_
      refine lv_iconst (v := 1) C.1 C.2.1 dL_areWords_18 (by decide) ?_
      refine lv_iload_n C.1 C.2.1 dL_areWords_19 rfl (lv_at hl 3 rfl) ?_
      refine lv_iconst (v := 0) C.1 C.2.1 dL_areWords_20 (by decide) ?_
      refine lv_iconst (v := 0) C.1 C.2.1 dL_areWords_21 (by decide) ?_
      obtain ⟨u11, hu11, hf⟩ := bnd_t hf
      have hhu11 := ask1_h hu11
      obtain ⟨htu11, hf⟩ := ck_t hf
      have htu11 := of_decide_eq_true htu11
      refine z_calli hW (z_runSW C hW hl (k_ask1 hlt hu11) cX_asks ct_asks cwL_L_121 (rm_okA (by decide)) (rm_a0 htu11 (by decide)) (As := [.ref (Z.1 0), .int (1 : Int32), .int x2, .int (0 : Int32), .int (0 : Int32)]) rfl rfl (Nat.le_of_ble_eq_true rfl) dL_areWords_22) (fun H locs hW => ?_)
      refine W.widen (k := 0) (n := 600 * 0) (kn_w0 htu11) (kn_w1 htu11) ?_
      rw [hhu11] at hW
      refine lv_aload_n C.1 C.2.1 dL_areWords_25 rfl (lv_at hl 0 rfl) ?_
      refine lv_iconst (v := 0) C.1 C.2.1 dL_areWords_26 (by decide) ?_
      refine z_iald C hW hf dL_areWords_27 (fun hf => ?_)
      refine z_cmpne (tgt := 89) C hf dL_areWords_28 (by decide) (fun hf => ?_) (fun hf => ?_)
      · refine lv_iconst (v := 0) C.1 C.2.1 dL_areWords_89 (by decide) ?_
        obtain rfl := Option.some.inj hf
        refine W.widen (k := 3) (n := 600 * 3) (by omega) (by omega) ?_
        exact z_zret C hW (by decide) dL_areWords_90 a ⟨rfl, hA⟩ (fun _ q => q)
      · refine lv_aload_n C.1 C.2.1 dL_areWords_31 rfl (lv_at hl 1 rfl) ?_
        refine lv_iconst (v := 1) C.1 C.2.1 dL_areWords_32 (by decide) ?_
        refine lv_iload_n C.1 C.2.1 dL_areWords_33 rfl (lv_at hl 3 rfl) ?_
        refine lv_iconst (v := 1) C.1 C.2.1 dL_areWords_34 (by decide) ?_
        refine lv_iconst (v := 0) C.1 C.2.1 dL_areWords_35 (by decide) ?_
        obtain ⟨u12, hu12, hf⟩ := bnd_t hf
        have hhu12 := ask1_h hu12
        obtain ⟨htu12, hf⟩ := ck_t hf
        have htu12 := of_decide_eq_true htu12
        refine z_calli hW (z_runSW C hW hl (k_ask1 hlt hu12) cX_asks ct_asks cwL_L_121 (rm_okA (by decide)) (rm_a0 htu12 (by decide)) (As := [.ref (Z.1 0), .int (1 : Int32), .int x2, .int (1 : Int32), .int (0 : Int32)]) rfl rfl (Nat.le_of_ble_eq_true rfl) dL_areWords_36) (fun H locs hW => ?_)
        refine W.widen (k := 0) (n := 600 * 0) (kn_w0 htu12) (kn_w1 htu12) ?_
        rw [hhu12] at hW
        refine lv_aload_n C.1 C.2.1 dL_areWords_39 rfl (lv_at hl 0 rfl) ?_
        refine lv_iconst (v := 2) C.1 C.2.1 dL_areWords_40 (by decide) ?_
        refine z_iald C hW hf dL_areWords_41 (fun hf => ?_)
        refine z_cmpne (tgt := 89) C hf dL_areWords_42 (by decide) (fun hf => ?_) (fun hf => ?_)
        · refine lv_iconst (v := 0) C.1 C.2.1 dL_areWords_89 (by decide) ?_
          obtain rfl := Option.some.inj hf
          refine W.widen (k := 3) (n := 600 * 3) (by omega) (by omega) ?_
          exact z_zret C hW (by decide) dL_areWords_90 a ⟨rfl, hA⟩ (fun _ q => q)
        · refine lv_aload_n C.1 C.2.1 dL_areWords_45 rfl (lv_at hl 1 rfl) ?_
          refine lv_iconst (v := 1) C.1 C.2.1 dL_areWords_46 (by decide) ?_
          refine lv_iload_n C.1 C.2.1 dL_areWords_47 rfl (lv_at hl 3 rfl) ?_
          refine lv_iconst (v := 2) C.1 C.2.1 dL_areWords_48 (by decide) ?_
          refine lv_iconst (v := 0) C.1 C.2.1 dL_areWords_49 (by decide) ?_
          obtain ⟨u13, hu13, hf⟩ := bnd_t hf
          have hhu13 := ask1_h hu13
          obtain ⟨htu13, hf⟩ := ck_t hf
          have htu13 := of_decide_eq_true htu13
          refine z_calli hW (z_runSW C hW hl (k_ask1 hlt hu13) cX_asks ct_asks cwL_L_121 (rm_okA (by decide)) (rm_a0 htu13 (by decide)) (As := [.ref (Z.1 0), .int (1 : Int32), .int x2, .int (2 : Int32), .int (0 : Int32)]) rfl rfl (Nat.le_of_ble_eq_true rfl) dL_areWords_50) (fun H locs hW => ?_)
          refine W.widen (k := 0) (n := 600 * 0) (kn_w0 htu13) (kn_w1 htu13) ?_
          rw [hhu13] at hW
          refine lv_aload_n C.1 C.2.1 dL_areWords_53 rfl (lv_at hl 0 rfl) ?_
          refine lv_iconst (v := 3) C.1 C.2.1 dL_areWords_54 (by decide) ?_
          refine z_iald C hW hf dL_areWords_55 (fun hf => ?_)
          refine z_cmpne (tgt := 89) C hf dL_areWords_56 (by decide) (fun hf => ?_) (fun hf => ?_)
          · refine lv_iconst (v := 0) C.1 C.2.1 dL_areWords_89 (by decide) ?_
            obtain rfl := Option.some.inj hf
            refine W.widen (k := 3) (n := 600 * 3) (by omega) (by omega) ?_
            exact z_zret C hW (by decide) dL_areWords_90 a ⟨rfl, hA⟩ (fun _ q => q)
          · refine lv_aload_n C.1 C.2.1 dL_areWords_59 rfl (lv_at hl 1 rfl) ?_
            refine lv_iconst (v := 1) C.1 C.2.1 dL_areWords_60 (by decide) ?_
            refine lv_iload_n C.1 C.2.1 dL_areWords_61 rfl (lv_at hl 3 rfl) ?_
            refine lv_iconst (v := 3) C.1 C.2.1 dL_areWords_62 (by decide) ?_
            refine lv_iconst (v := 0) C.1 C.2.1 dL_areWords_63 (by decide) ?_
            obtain ⟨u14, hu14, hf⟩ := bnd_t hf
            have hhu14 := ask1_h hu14
            obtain ⟨htu14, hf⟩ := ck_t hf
            have htu14 := of_decide_eq_true htu14
            refine z_calli hW (z_runSW C hW hl (k_ask1 hlt hu14) cX_asks ct_asks cwL_L_121 (rm_okA (by decide)) (rm_a0 htu14 (by decide)) (As := [.ref (Z.1 0), .int (1 : Int32), .int x2, .int (3 : Int32), .int (0 : Int32)]) rfl rfl (Nat.le_of_ble_eq_true rfl) dL_areWords_64) (fun H locs hW => ?_)
            refine W.widen (k := 0) (n := 600 * 0) (kn_w0 htu14) (kn_w1 htu14) ?_
            rw [hhu14] at hW
            refine lv_aload_n C.1 C.2.1 dL_areWords_67 rfl (lv_at hl 0 rfl) ?_
            refine lv_iconst (v := 4) C.1 C.2.1 dL_areWords_68 (by decide) ?_
            refine z_iald C hW hf dL_areWords_69 (fun hf => ?_)
            refine z_cmpne (tgt := 89) C hf dL_areWords_70 (by decide) (fun hf => ?_) (fun hf => ?_)
            · refine lv_iconst (v := 0) C.1 C.2.1 dL_areWords_89 (by decide) ?_
              obtain rfl := Option.some.inj hf
              refine W.widen (k := 3) (n := 600 * 3) (by omega) (by omega) ?_
              exact z_zret C hW (by decide) dL_areWords_90 a ⟨rfl, hA⟩ (fun _ q => q)
            · refine lv_aload_n C.1 C.2.1 dL_areWords_73 rfl (lv_at hl 1 rfl) ?_
              refine lv_iconst (v := 1) C.1 C.2.1 dL_areWords_74 (by decide) ?_
              refine lv_iload_n C.1 C.2.1 dL_areWords_75 rfl (lv_at hl 3 rfl) ?_
              refine lv_iconst (v := 4) C.1 C.2.1 dL_areWords_76 (by decide) ?_
              refine lv_iconst (v := 0) C.1 C.2.1 dL_areWords_77 (by decide) ?_
              obtain ⟨u15, hu15, hf⟩ := bnd_t hf
              have hhu15 := ask1_h hu15
              obtain ⟨htu15, hf⟩ := ck_t hf
              have htu15 := of_decide_eq_true htu15
              refine z_calli hW (z_runSW C hW hl (k_ask1 hlt hu15) cX_asks ct_asks cwL_L_121 (rm_okA (by decide)) (rm_a0 htu15 (by decide)) (As := [.ref (Z.1 0), .int (1 : Int32), .int x2, .int (4 : Int32), .int (0 : Int32)]) rfl rfl (Nat.le_of_ble_eq_true rfl) dL_areWords_78) (fun H locs hW => ?_)
              refine W.widen (k := 0) (n := 600 * 0) (kn_w0 htu15) (kn_w1 htu15) ?_
              rw [hhu15] at hW
              refine lv_aload_n C.1 C.2.1 dL_areWords_81 rfl (lv_at hl 2 rfl) ?_
              refine lv_iload_n C.1 C.2.1 dL_areWords_82 rfl (lv_at hl 3 rfl) ?_
              obtain ⟨hb, hf⟩ := ck_t hf
              obtain ⟨u16, hu16, hf⟩ := bnd_t hf
              refine z_calli hW (z_runV C hW hl hb (ci := 9) (fs := fl_X11 Z a (g.2.2 p1)) rfl rfl rfl (c_X11_state hu16) cw_L_141 ci_X11_state cs_X11_state (rm_okP (by decide) (by decide)) (rm_cs (by decide)) (As := [.int x2]) rfl rfl (Nat.le_of_ble_eq_true rfl) dL_areWords_83) (fun H locs hW => ?_)
              refine W.widen (k := 0) (n := 600 * 0) (by omega) (by omega) ?_
              refine z_cmpeq (tgt := 91) C hf dL_areWords_86 (by decide) (fun hf => ?_) (fun hf => ?_)
              · refine z_iinc (w := 1) C hf dL_areWords_91 hl (k := 3) rfl (by decide) (by decide) (fun v17 => [(2, .int v17), (3, .ref (ra Z a q10)), (0, .ref (Z.1 0)), (1, .ref (ra Z a p1))]) (fun _ => rfl) (fun v17 ls hf hl => ?_)
                refine lv_goto (tgt := 2) C.1 C.2.1 dL_areWords_94 (by decide) ?_
                exact ih v17 _ ls _ _ hA hW (lv_sub hl [2, 3, 0] rfl) hf
              · refine lv_iconst (v := 0) C.1 C.2.1 dL_areWords_89 (by decide) ?_
                obtain rfl := Option.some.inj hf
                refine W.widen (k := 3) (n := 600 * 3) (by omega) (by omega) ?_
                exact z_zret C hW (by decide) dL_areWords_90 a ⟨rfl, hA⟩ (fun _ q => q)
set_option maxRecDepth 20000 in
set_option maxHeartbeats 1000000 in
theorem c_L_areWords {l : Launch} (hlt : l.stackTraces = false) {Z : ZT} {a : Nat → Nat} {h : Hp} {g : PL} {p1 : Nat} {out : Int32 × PL} (hf : fp_L_areWords h g p1 = some out) : Met l yL_areWords (wY yL_areWords cL_areWords 4 (some .boolean)) (rmP 13 3) (va_Pc [.ref (Z.1 0), .ref (ra Z a p1)] (WdP Z h a g)) (va_Qi (fun r (a1 : Nat → Nat) => r = out.1 ∧ AG a g a1 out.2) (fun a1 => WdP Z h a1 out.2) (FR Z)) 3 (600 * 3) (FR Z) := by
  refine metZ RL rfl (by decide +kernel) (Nat.le_of_ble_eq_true rfl) ?_
  intro p e s m args below meth c C hin hW ls hl
  have hl : lv_has ls 4 [(0, .ref (Z.1 0)), (1, .ref (ra Z a p1))] := hl
  have hA := AG.rf a g
  unfold fp_L_areWords at hf
  refine W.widen (k := 0) (n := 600 * 0) (Nat.le_refl _) (Nat.le_refl _) ?_
  refine lv_iconst (v := 0) C.1 C.2.1 dL_areWords_0 (by decide) ?_
  refine lv_istore_n (lv' := [(2, .int (0 : Int32)), (0, .ref (Z.1 0)), (1, .ref (ra Z a p1))]) C.1 C.2.1 dL_areWords_1 rfl hl (by decide) rfl (fun ls hl => ?_)
  exact l_L_areWords_2 C hlt FU (0 : Int32) _ ls _ _ hA hW (lv_sub hl [1, 2, 0] rfl) hf
set_option maxRecDepth 20000 in
set_option maxHeartbeats 1000000 in
theorem q_L_does_137 {l : Launch} {Z : ZT} {a0 : Nat → Nat} {g0 : PL} {p1 : Nat} {p2 : Nat} {h : Hp} {g : PL} {x5 : Int32} {x6 : Int32} {x7 : Int32} {p : Program} {e : Env} {s : State} {m : MethodId} {args : Array Value} {below : List Frame} {meth : Method} {c : Code} (C : CQ p s m args meth c cL_does RL 10 (some .boolean) Z) {out : Int32 × (Hp × PL)} (hlt : l.stackTraces = false) {a : Nat → Nat} (hA : AG a0 g0 a g) {ls : Array Slot} {H : Heap} {locs : List Loc} (hW : XG Z h a g s.heap H locs) (hl : lv_has ls 10 [(0, .ref (Z.1 0)), (1, .ref (ra Z a p1)), (5, .int x5), (6, .int x6), (7, .int x7)]) (hf : Jp_L_does_137 p1 p2 h g x5 x6 x7 = some out) : W p l e (rmP 13 9) s m args below meth c H locs 7 (600 * 7) (MQ below (va_Qi (fun r (a1 : Nat → Nat) => r = out.1 ∧ AG a0 g0 a1 out.2.2) (fun a1 => WdP Z out.2.1 a1 out.2.2) (FR Z)) args s 9 (600 * 9) (FR Z)) (F0 m 137 ls []) := by
  rw [Jp_L_does_137] at hf
  refine lv_aload_n C.1 C.2.1 dL_does_137 rfl (lv_at hl 0 rfl) ?_
  refine lv_bipush (v := 12) C.1 C.2.1 dL_does_138 (by decide) ?_
  refine lv_iload C.1 C.2.1 dL_does_140 (lv_at hl 2 rfl) ?_
  refine lv_iload C.1 C.2.1 dL_does_142 (lv_at hl 3 rfl) ?_
  refine lv_iconst (v := 0) C.1 C.2.1 dL_does_144 (by decide) ?_
  obtain ⟨u1, hu1, hf⟩ := bnd_t hf
  obtain ⟨htu1, hf⟩ := ck_t hf
  have htu1 := of_decide_eq_true htu1
  refine z_calli hW (z_runSW C hW hl (k_ask12 hlt hu1) cX_asks ct_asks cwL_L_121 (rm_okA (by decide)) (rm_a0 htu1 (by decide)) (As := [.ref (Z.1 0), .int (12 : Int32), .int x5, .int x6, .int (0 : Int32)]) rfl rfl (Nat.le_of_ble_eq_true rfl) dL_does_145) (fun H locs hW => ?_)
  refine W.widen (k := 7) (n := 600 * 7) (kn_w0 htu1) (kn_w1 htu1) ?_
  refine lv_iload C.1 C.2.1 dL_does_148 (lv_at hl 4 rfl) ?_
  refine lv_aload_n C.1 C.2.1 dL_does_150 rfl (lv_at hl 1 rfl) ?_
  obtain ⟨hb, hf⟩ := ck_t hf
  obtain ⟨u2, hu2, hf⟩ := bnd_t hf
  refine z_calli hW (z_runV C hW hl hb (ci := 9) (fs := fl_X11 Z a (g.2.2 p1)) rfl rfl rfl (c_X11_filmLength hu2) cw_L_130 ci_X11_filmLength cs_X11_filmLength (rm_okP (by decide) (by decide)) (rm_cs (by decide)) (As := []) rfl rfl (Nat.le_of_ble_eq_true rfl) dL_does_151) (fun H locs hW => ?_)
  refine W.widen (k := 7) (n := 600 * 7) (by omega) (by omega) ?_
  refine lv_isub C.1 C.2.1 dL_does_154 ?_
  refine z_cmpne (tgt := 162) C hf dL_does_155 (by decide) (fun hf => ?_) (fun hf => ?_)
  · refine lv_iconst (v := 0) C.1 C.2.1 dL_does_162 (by decide) ?_
    obtain rfl := Option.some.inj hf
    refine W.widen (k := 9) (n := 600 * 9) (by omega) (by omega) ?_
    exact z_zret C hW (by decide) dL_does_163 a ⟨rfl, hA⟩ (fun _ q => q)
  · refine lv_iconst (v := 1) C.1 C.2.1 dL_does_158 (by decide) ?_
    refine lv_goto (tgt := 163) C.1 C.2.1 dL_does_159 (by decide) ?_
    obtain rfl := Option.some.inj hf
    refine W.widen (k := 9) (n := 600 * 9) (by omega) (by omega) ?_
    exact z_zret C hW (by decide) dL_does_163 a ⟨rfl, hA⟩ (fun _ q => q)
set_option maxRecDepth 20000 in
set_option maxHeartbeats 1000000 in
theorem l_L_does_115 {l : Launch} {Z : ZT} {a0 : Nat → Nat} {g0 : PL} {p1 : Nat} {p2 : Nat} {h : Hp} {x4 : Nat} {x5 : Int32} {x6 : Int32} {x7 : Int32} {p : Program} {e : Env} {s : State} {m : MethodId} {args : Array Value} {below : List Frame} {meth : Method} {c : Code} (C : CQ p s m args meth c cL_does RL 10 (some .boolean) Z) {out : Int32 × (Hp × PL)} (hlt : l.stackTraces = false) : ∀ (n : Nat) (x8 : Int32) (g : PL) (k : Nat) (a : Nat → Nat) (ls : Array Slot) (H : Heap) (locs : List Loc), AG a0 g0 a g → k ≤ 7 → XG Z h a g s.heap H locs → lv_has ls 10 [(0, .ref (Z.1 0)), (1, .ref (ra Z a p1)), (4, .ref (ra Z a x4)), (5, .int x5), (6, .int x6), (7, .int x7), (8, .int x8)] → Lp (Fp_L_does_115 p1 p2 h x4 x5 x6 x7) n (x8, g, k) = some out → W p l e (rmP 13 9) s m args below meth c H locs k (600 * k) (MQ below (va_Qi (fun r (a1 : Nat → Nat) => r = out.1 ∧ AG a0 g0 a1 out.2.2) (fun a1 => WdP Z out.2.1 a1 out.2.2) (FR Z)) args s 9 (600 * 9) (FR Z)) (F0 m 115 ls []) := by
  intro n
  induction n with
  | zero => intro x8 g k a ls H locs hA hk hW hl hf; cases hf
  | succ n ih =>
    intro x8 g k a ls H locs hA hk hW hl hf
    rw [Lp_s] at hf
    refine lv_iload C.1 C.2.1 dL_does_115 (lv_at hl 6 rfl) ?_
    refine lv_iload C.1 C.2.1 dL_does_117 (lv_at hl 4 rfl) ?_
    refine z_cmpgt (tgt := 137) C hf dL_does_119 (by decide) (fun hf => ?_) (fun hf => ?_)
    · refine W.widen (k := 7) (n := 600 * 7) (by omega) (by omega) ?_
      exact q_L_does_137 C hlt hA hW (lv_sub hl [0, 1, 3, 4, 5] rfl) hf
    · refine lv_aload_n C.1 C.2.1 dL_does_122 rfl (lv_at hl 1 rfl) ?_
      refine lv_aload C.1 C.2.1 dL_does_123 (lv_at hl 2 rfl) ?_
      refine lv_iload C.1 C.2.1 dL_does_125 (lv_at hl 6 rfl) ?_
      refine z_iald C hW hf dL_does_127 (fun hf => ?_)
      obtain ⟨hx0, hf⟩ := ck_t hf
      obtain ⟨hx1, hf⟩ := ck_t hf
      obtain ⟨hkc, hf⟩ := ck_t hf
      have hkc := of_decide_eq_true hkc
      have hpw := hW.2.2.2
      have hl : lv_has ls 10 [(0, .ref (Z.1 0)), (1, .ref (ra Z a p1)), (4, .ref (ra Z a x4)), (5, .int x5), (6, .int x6), (7, .int x7), (8, .int x8)] := lv_sub hl [0, 1, 2, 3, 4, 5, 6] rfl
      obtain ⟨hb, hf⟩ := ck_t hf
      obtain ⟨u3, hu3, hf⟩ := bnd_t hf
      refine z_callvA hW (z_runV C hW hl hb (ci := 9) (fs := fl_X11 Z a (g.2.2 p1)) rfl rfl rfl (c_X11_cutOne hu3) cw_L_133 ci_X11_cutOne cs_X11_cutOne (rm_okP (by decide) (by decide)) (rm_cs (by omega)) (As := [.int (g.2.2 x4 (ix x8))]) rfl rfl (Nat.le_of_ble_eq_true rfl) dL_does_128) (fun a4 H locs hg hW => ?_)
      have e0 := ra_to (Z := Z) hpw hg hx0
      have e1 := ra_to (Z := Z) hpw hg hx1
      rw [← e0] at hl
      rw [← e1] at hl
      have hA := hA.tr hg
      refine W.widen (k := (k + 1)) (n := 600 * (k + 1)) (by omega) (by omega) ?_
      refine z_iinc (w := 1) C hf dL_does_131 hl (k := 6) rfl (by decide) (by decide) (fun v5 => [(8, .int v5), (0, .ref (Z.1 0)), (1, .ref (ra Z a4 p1)), (4, .ref (ra Z a4 x4)), (5, .int x5), (6, .int x6), (7, .int x7)]) (fun _ => rfl) (fun v5 ls hf hl => ?_)
      refine lv_goto (tgt := 115) C.1 C.2.1 dL_does_134 (by decide) ?_
      obtain ⟨hkb, hf⟩ := ck_t hf
      have hkb := of_decide_eq_true hkb
      exact ih v5 u3 (k + 1) _ ls _ _ hA hkb hW (lv_sub hl [1, 2, 3, 4, 5, 6, 0] rfl) hf
set_option maxRecDepth 20000 in
set_option maxHeartbeats 1000000 in
theorem q_L_does_280 {l : Launch} {Z : ZT} {a0 : Nat → Nat} {g0 : PL} {p1 : Nat} {p2 : Nat} {h : Hp} {g : PL} {x3 : Int32} {x5 : Int32} {x6 : Int32} {p : Program} {e : Env} {s : State} {m : MethodId} {args : Array Value} {below : List Frame} {meth : Method} {c : Code} (C : CQ p s m args meth c cL_does RL 10 (some .boolean) Z) {out : Int32 × (Hp × PL)} (hlt : l.stackTraces = false) {a : Nat → Nat} (hA : AG a0 g0 a g) {ls : Array Slot} {H : Heap} {locs : List Loc} (hW : XG Z h a g s.heap H locs) (hl : lv_has ls 10 [(0, .ref (Z.1 0)), (3, .int x3), (5, .int x5), (6, .int x6)]) (hf : Jp_L_does_280 p1 p2 h g x3 x5 x6 = some out) : W p l e (rmP 13 9) s m args below meth c H locs 7 (600 * 7) (MQ below (va_Qi (fun r (a1 : Nat → Nat) => r = out.1 ∧ AG a0 g0 a1 out.2.2) (fun a1 => WdP Z out.2.1 a1 out.2.2) (FR Z)) args s 9 (600 * 9) (FR Z)) (F0 m 280 ls []) := by
  rw [Jp_L_does_280] at hf
  refine lv_aload_n C.1 C.2.1 dL_does_280 rfl (lv_at hl 0 rfl) ?_
  refine lv_bipush (v := 14) C.1 C.2.1 dL_does_281 (by decide) ?_
  refine lv_iload_n C.1 C.2.1 dL_does_283 rfl (lv_at hl 1 rfl) ?_
  refine lv_iload C.1 C.2.1 dL_does_284 (lv_at hl 2 rfl) ?_
  refine lv_iconst (v := 0) C.1 C.2.1 dL_does_286 (by decide) ?_
  obtain ⟨u6, hu6, hf⟩ := bnd_t hf
  obtain ⟨htu6, hf⟩ := ck_t hf
  have htu6 := of_decide_eq_true htu6
  refine z_calli hW (z_runSW C hW hl (k_ask14 hlt hu6) cX_asks ct_asks cwL_L_121 (rm_okA (by decide)) (rm_a0 htu6 (by decide)) (As := [.ref (Z.1 0), .int (14 : Int32), .int x3, .int x5, .int (0 : Int32)]) rfl rfl (Nat.le_of_ble_eq_true rfl) dL_does_287) (fun H locs hW => ?_)
  refine W.widen (k := 7) (n := 600 * 7) (kn_w0 htu6) (kn_w1 htu6) ?_
  refine lv_iload C.1 C.2.1 dL_does_290 (lv_at hl 3 rfl) ?_
  refine z_cmpne (tgt := 299) C hf dL_does_292 (by decide) (fun hf => ?_) (fun hf => ?_)
  · refine lv_iconst (v := 0) C.1 C.2.1 dL_does_299 (by decide) ?_
    obtain rfl := Option.some.inj hf
    refine W.widen (k := 9) (n := 600 * 9) (by omega) (by omega) ?_
    exact z_zret C hW (by decide) dL_does_300 a ⟨rfl, hA⟩ (fun _ q => q)
  · refine lv_iconst (v := 1) C.1 C.2.1 dL_does_295 (by decide) ?_
    refine lv_goto (tgt := 300) C.1 C.2.1 dL_does_296 (by decide) ?_
    obtain rfl := Option.some.inj hf
    refine W.widen (k := 9) (n := 600 * 9) (by omega) (by omega) ?_
    exact z_zret C hW (by decide) dL_does_300 a ⟨rfl, hA⟩ (fun _ q => q)
set_option maxRecDepth 20000 in
set_option maxHeartbeats 1000000 in
theorem q_L_does_274 {l : Launch} {Z : ZT} {a0 : Nat → Nat} {g0 : PL} {p1 : Nat} {p2 : Nat} {h : Hp} {g : PL} {r245 : Int32 × Int32 × PL × Nat → Option (Int32 × (Hp × PL))} {x3 : Int32} {x5 : Int32} {x6 : Int32} {x7 : Int32} {k : Nat} {p : Program} {e : Env} {s : State} {m : MethodId} {args : Array Value} {below : List Frame} {meth : Method} {c : Code} (C : CQ p s m args meth c cL_does RL 10 (some .boolean) Z) {out : Int32 × (Hp × PL)} (hlt : l.stackTraces = false) (hr245 : ∀ (x6 : Int32) (x7 : Int32) (g : PL) (k : Nat) (a : Nat → Nat) (ls : Array Slot) (H : Heap) (locs : List Loc), AG a0 g0 a g → k ≤ 7 → XG Z h a g s.heap H locs → lv_has ls 10 [(0, .ref (Z.1 0)), (1, .ref (ra Z a p1)), (3, .int x3), (5, .int x5), (6, .int x6), (7, .int x7)] → r245 (x6, x7, g, k) = some out → W p l e (rmP 13 9) s m args below meth c H locs k (600 * k) (MQ below (va_Qi (fun r (a1 : Nat → Nat) => r = out.1 ∧ AG a0 g0 a1 out.2.2) (fun a1 => WdP Z out.2.1 a1 out.2.2) (FR Z)) args s 9 (600 * 9) (FR Z)) (F0 m 245 ls [])) (hk : k ≤ 7) {a : Nat → Nat} (hA : AG a0 g0 a g) {ls : Array Slot} {H : Heap} {locs : List Loc} (hW : XG Z h a g s.heap H locs) (hl : lv_has ls 10 [(0, .ref (Z.1 0)), (1, .ref (ra Z a p1)), (3, .int x3), (5, .int x5), (6, .int x6), (7, .int x7)]) (hf : Jp_L_does_274 p1 p2 h g r245 x3 x5 x6 x7 k = some out) : W p l e (rmP 13 9) s m args below meth c H locs (k + 1) (600 * (k + 1)) (MQ below (va_Qi (fun r (a1 : Nat → Nat) => r = out.1 ∧ AG a0 g0 a1 out.2.2) (fun a1 => WdP Z out.2.1 a1 out.2.2) (FR Z)) args s 9 (600 * 9) (FR Z)) (F0 m 274 ls []) := by
  rw [Jp_L_does_274] at hf
  refine z_iinc (w := 1) C hf dL_does_274 hl (k := 5) rfl (by decide) (by decide) (fun v7 => [(7, .int v7), (0, .ref (Z.1 0)), (1, .ref (ra Z a p1)), (3, .int x3), (5, .int x5), (6, .int x6)]) (fun _ => rfl) (fun v7 ls hf hl => ?_)
  refine lv_goto (tgt := 245) C.1 C.2.1 dL_does_277 (by decide) ?_
  obtain ⟨hkb, hf⟩ := ck_t hf
  have hkb := of_decide_eq_true hkb
  exact hr245 x6 v7 g (k + 1) _ ls _ _ hA hkb hW (lv_sub hl [1, 2, 3, 4, 5, 0] rfl) hf
set_option maxRecDepth 20000 in
set_option maxHeartbeats 1000000 in
theorem l_L_does_245 {l : Launch} {Z : ZT} {a0 : Nat → Nat} {g0 : PL} {p1 : Nat} {p2 : Nat} {h : Hp} {x3 : Int32} {x5 : Int32} {p : Program} {e : Env} {s : State} {m : MethodId} {args : Array Value} {below : List Frame} {meth : Method} {c : Code} (C : CQ p s m args meth c cL_does RL 10 (some .boolean) Z) {out : Int32 × (Hp × PL)} (hlt : l.stackTraces = false) : ∀ (n : Nat) (x6 : Int32) (x7 : Int32) (g : PL) (k : Nat) (a : Nat → Nat) (ls : Array Slot) (H : Heap) (locs : List Loc), AG a0 g0 a g → k ≤ 7 → XG Z h a g s.heap H locs → lv_has ls 10 [(0, .ref (Z.1 0)), (1, .ref (ra Z a p1)), (3, .int x3), (5, .int x5), (6, .int x6), (7, .int x7)] → Lp (Fp_L_does_245 p1 p2 h x3 x5) n (x6, x7, g, k) = some out → W p l e (rmP 13 9) s m args below meth c H locs k (600 * k) (MQ below (va_Qi (fun r (a1 : Nat → Nat) => r = out.1 ∧ AG a0 g0 a1 out.2.2) (fun a1 => WdP Z out.2.1 a1 out.2.2) (FR Z)) args s 9 (600 * 9) (FR Z)) (F0 m 245 ls []) := by
  intro n
  induction n with
  | zero => intro x6 x7 g k a ls H locs hA hk hW hl hf; cases hf
  | succ n ih =>
    intro x6 x7 g k a ls H locs hA hk hW hl hf
    rw [Lp_s] at hf
    refine lv_iload C.1 C.2.1 dL_does_245 (lv_at hl 5 rfl) ?_
    refine lv_iload C.1 C.2.1 dL_does_247 (lv_at hl 3 rfl) ?_
    refine z_cmpgt (tgt := 280) C hf dL_does_249 (by decide) (fun hf => ?_) (fun hf => ?_)
    · refine W.widen (k := 7) (n := 600 * 7) (by omega) (by omega) ?_
      exact q_L_does_280 C hlt hA hW (lv_sub hl [0, 2, 3, 4] rfl) hf
    · refine lv_aload_n C.1 C.2.1 dL_does_252 rfl (lv_at hl 1 rfl) ?_
      refine zg_L_137 C hW hf dL_does_253 (fun q8 hf => ?_)
      refine lv_iload C.1 C.2.1 dL_does_256 (lv_at hl 5 rfl) ?_
      refine z_zald C hW hf dL_does_258 (fun hf => ?_)
      refine z_ifne (tgt := 265) C hf dL_does_259 (by decide) (fun hf => ?_) (fun hf => ?_)
      · refine lv_aload_n C.1 C.2.1 dL_does_265 rfl (lv_at hl 1 rfl) ?_
        refine lv_iload C.1 C.2.1 dL_does_266 (lv_at hl 5 rfl) ?_
        obtain ⟨hx0, hf⟩ := ck_t hf
        obtain ⟨hkc, hf⟩ := ck_t hf
        have hkc := of_decide_eq_true hkc
        have hpw := hW.2.2.2
        have hl : lv_has ls 10 [(0, .ref (Z.1 0)), (1, .ref (ra Z a p1)), (3, .int x3), (5, .int x5), (6, .int x6), (7, .int x7)] := lv_sub hl [0, 1, 2, 3, 4, 5] rfl
        obtain ⟨hb, hf⟩ := ck_t hf
        obtain ⟨u9, hu9, hf⟩ := bnd_t hf
        refine z_callvA hW (z_runV C hW hl hb (ci := 9) (fs := fl_X11 Z a (g.2.2 p1)) rfl rfl rfl (c_X11_restoreOne hu9) cw_L_144 ci_X11_restoreOne cs_X11_restoreOne (rm_okP (by decide) (by decide)) (rm_cs (by omega)) (As := [.int x7]) rfl rfl (Nat.le_of_ble_eq_true rfl) dL_does_268) (fun a10 H locs hg hW => ?_)
        have e0 := ra_to (Z := Z) hpw hg hx0
        rw [← e0] at hl
        have hA := hA.tr hg
        refine W.widen (k := (k + 1)) (n := 600 * (k + 1)) (by omega) (by omega) ?_
        refine z_iinc (w := 1) C hf dL_does_271 hl (k := 4) rfl (by decide) (by decide) (fun v11 => [(6, .int v11), (0, .ref (Z.1 0)), (1, .ref (ra Z a10 p1)), (3, .int x3), (5, .int x5), (7, .int x7)]) (fun _ => rfl) (fun v11 ls hf hl => ?_)
        exact q_L_does_274 C hlt ih hk hA hW (lv_sub hl [1, 2, 3, 4, 0, 5] rfl) hf
      · refine lv_goto (tgt := 274) C.1 C.2.1 dL_does_262 (by decide) ?_
        refine W.widen (k := (k + 1)) (n := 600 * (k + 1)) (by omega) (by omega) ?_
        exact q_L_does_274 C hlt ih hk hA hW (lv_sub hl [0, 1, 2, 3, 4, 5] rfl) hf
set_option maxRecDepth 20000 in
set_option maxHeartbeats 1000000 in
theorem q_L_does_385 {l : Launch} {Z : ZT} {a0 : Nat → Nat} {g0 : PL} {p1 : Nat} {p2 : Nat} {h : Hp} {g : PL} {s0 : Int32} {s1 : Int32} {p : Program} {e : Env} {s : State} {m : MethodId} {args : Array Value} {below : List Frame} {meth : Method} {c : Code} (C : CQ p s m args meth c cL_does RL 10 (some .boolean) Z) {out : Int32 × (Hp × PL)} (hlt : l.stackTraces = false) {a : Nat → Nat} (hA : AG a0 g0 a g) {ls : Array Slot} {H : Heap} {locs : List Loc} (hW : XG Z h a g s.heap H locs) (hl : lv_has ls 10 [(0, .ref (Z.1 0))]) (hf : Jp_L_does_385 p1 p2 h g s0 s1 = some out) : W p l e (rmP 13 9) s m args below meth c H locs 2 (600 * 2) (MQ below (va_Qi (fun r (a1 : Nat → Nat) => r = out.1 ∧ AG a0 g0 a1 out.2.2) (fun a1 => WdP Z out.2.1 a1 out.2.2) (FR Z)) args s 9 (600 * 9) (FR Z)) (F0 m 385 ls [.int s1, .int s0]) := by
  refine z_cmpne (tgt := 392) C hf dL_does_385 (by decide) (fun hf => ?_) (fun hf => ?_)
  · refine lv_iconst (v := 0) C.1 C.2.1 dL_does_392 (by decide) ?_
    obtain rfl := Option.some.inj hf
    refine W.widen (k := 9) (n := 600 * 9) (by omega) (by omega) ?_
    exact z_zret C hW (by decide) dL_does_393 a ⟨rfl, hA⟩ (fun _ q => q)
  · refine lv_iconst (v := 1) C.1 C.2.1 dL_does_388 (by decide) ?_
    refine lv_goto (tgt := 393) C.1 C.2.1 dL_does_389 (by decide) ?_
    obtain rfl := Option.some.inj hf
    refine W.widen (k := 9) (n := 600 * 9) (by omega) (by omega) ?_
    exact z_zret C hW (by decide) dL_does_393 a ⟨rfl, hA⟩ (fun _ q => q)
set_option maxRecDepth 20000 in
set_option maxHeartbeats 1000000 in
theorem q_L_does_500 {l : Launch} {Z : ZT} {a0 : Nat → Nat} {g0 : PL} {p1 : Nat} {p2 : Nat} {h : Hp} {g : PL} {x6 : Int32} {x7 : Int32} {x8 : Int32} {p : Program} {e : Env} {s : State} {m : MethodId} {args : Array Value} {below : List Frame} {meth : Method} {c : Code} (C : CQ p s m args meth c cL_does RL 10 (some .boolean) Z) {out : Int32 × (Hp × PL)} (hlt : l.stackTraces = false) {a : Nat → Nat} (hA : AG a0 g0 a g) {ls : Array Slot} {H : Heap} {locs : List Loc} (hW : XG Z h a g s.heap H locs) (hl : lv_has ls 10 [(0, .ref (Z.1 0)), (1, .ref (ra Z a p1)), (6, .int x6), (7, .int x7), (8, .int x8)]) (hf : Jp_L_does_500 p1 p2 h g x6 x7 x8 = some out) : W p l e (rmP 13 9) s m args below meth c H locs 2 (600 * 2) (MQ below (va_Qi (fun r (a1 : Nat → Nat) => r = out.1 ∧ AG a0 g0 a1 out.2.2) (fun a1 => WdP Z out.2.1 a1 out.2.2) (FR Z)) args s 9 (600 * 9) (FR Z)) (F0 m 500 ls []) := by
  rw [Jp_L_does_500] at hf
  refine lv_aload_n C.1 C.2.1 dL_does_500 rfl (lv_at hl 1 rfl) ?_
  refine lv_iload C.1 C.2.1 dL_does_501 (lv_at hl 2 rfl) ?_
  refine lv_iload C.1 C.2.1 dL_does_503 (lv_at hl 3 rfl) ?_
  refine lv_iload C.1 C.2.1 dL_does_505 (lv_at hl 4 rfl) ?_
  have hpw := hW.2.2.2
  have hl : lv_has ls 10 [(0, .ref (Z.1 0)), (6, .int x6), (7, .int x7), (8, .int x8)] := lv_sub hl [0, 2, 3, 4] rfl
  obtain ⟨hb, hf⟩ := ck_t hf
  obtain ⟨u12, hu12, hf⟩ := bnd_t hf
  refine z_calliA hW (z_runV C hW hl hb (ci := 9) (fs := fl_X11 Z a (g.2.2 p1)) rfl rfl rfl (c_X11_move hu12) cw_L_169 ci_X11_move cs_X11_move (rm_okP (by decide) (by decide)) (rm_cs (by decide)) (As := [.int x6, .int x7, .int x8]) rfl rfl (Nat.le_of_ble_eq_true rfl) dL_does_507) (fun a13 H locs hg hW => ?_)
  have hA := hA.tr hg
  refine W.widen (k := 9) (n := 600 * 9) (by omega) (by omega) ?_
  refine lv_istore (lv' := [(9, .int u12.1), (0, .ref (Z.1 0)), (6, .int x6), (7, .int x7), (8, .int x8)]) C.1 C.2.1 dL_does_510 hl (by decide) rfl (fun ls hl => ?_)
  refine lv_aload_n C.1 C.2.1 dL_does_512 rfl (lv_at hl 1 rfl) ?_
  refine lv_bipush (v := 15) C.1 C.2.1 dL_does_513 (by decide) ?_
  refine lv_iload C.1 C.2.1 dL_does_515 (lv_at hl 2 rfl) ?_
  refine lv_iload C.1 C.2.1 dL_does_517 (lv_at hl 3 rfl) ?_
  refine lv_iload C.1 C.2.1 dL_does_519 (lv_at hl 4 rfl) ?_
  obtain ⟨u14, hu14, hf⟩ := bnd_t hf
  obtain ⟨htu14, hf⟩ := ck_t hf
  have htu14 := of_decide_eq_true htu14
  refine z_calli hW (z_runSW C hW hl (k_ask15 hlt hu14) cX_asks ct_asks cwL_L_121 (rm_okA (by decide)) (rm_a0 htu14 (by decide)) (As := [.ref (Z.1 0), .int (15 : Int32), .int x6, .int x7, .int x8]) rfl rfl (Nat.le_of_ble_eq_true rfl) dL_does_521) (fun H locs hW => ?_)
  refine W.widen (k := 9) (n := 600 * 9) (kn_w0 htu14) (kn_w1 htu14) ?_
  refine lv_iload C.1 C.2.1 dL_does_524 (lv_at hl 0 rfl) ?_
  refine z_cmpne (tgt := 533) C hf dL_does_526 (by decide) (fun hf => ?_) (fun hf => ?_)
  · refine lv_iconst (v := 0) C.1 C.2.1 dL_does_533 (by decide) ?_
    obtain rfl := Option.some.inj hf
    exact z_zret C hW (by decide) dL_does_534 a13 ⟨rfl, hA⟩ (fun _ q => q)
  · refine lv_iconst (v := 1) C.1 C.2.1 dL_does_529 (by decide) ?_
    refine lv_goto (tgt := 534) C.1 C.2.1 dL_does_530 (by decide) ?_
    obtain rfl := Option.some.inj hf
    exact z_zret C hW (by decide) dL_does_534 a13 ⟨rfl, hA⟩ (fun _ q => q)
set_option maxRecDepth 20000 in
set_option maxHeartbeats 1000000 in
theorem c_L_does {l : Launch} (hlt : l.stackTraces = false) {Z : ZT} {a : Nat → Nat} {h : Hp} {g : PL} {p1 : Nat} {p2 : Nat} {out : Int32 × (Hp × PL)} (hf : fp_L_does h g p1 p2 = some out) : Met l yL_does (wY yL_does cL_does 10 (some .boolean)) (rmP 13 9) (va_Pc [.ref (Z.1 0), .ref (ra Z a p1), .ref (ra Z a p2)] (WdP Z h a g)) (va_Qi (fun r (a1 : Nat → Nat) => r = out.1 ∧ AG a g a1 out.2.2) (fun a1 => WdP Z out.2.1 a1 out.2.2) (FR Z)) 9 (600 * 9) (FR Z) := by
  refine metZ RL rfl (by decide +kernel) (Nat.le_of_ble_eq_true rfl) ?_
  intro p e s m args below meth c C hin hW ls hl
  have hl : lv_has ls 10 [(0, .ref (Z.1 0)), (1, .ref (ra Z a p1)), (2, .ref (ra Z a p2))] := hl
  have hA := AG.rf a g
  unfold fp_L_does at hf
  refine W.widen (k := 0) (n := 600 * 0) (Nat.le_refl _) (Nat.le_refl _) ?_
  refine lv_aload_n C.1 C.2.1 dL_does_0 rfl (lv_at hl 2 rfl) ?_
  refine lv_aload_n C.1 C.2.1 dL_does_1 rfl (lv_at hl 1 rfl) ?_
  refine zg_L_106 C hW hf dL_does_2 (fun hf => ?_)
  obtain ⟨hb, hf⟩ := ck_t hf
  obtain ⟨u15, hu15, hf⟩ := bnd_t hf
  obtain ⟨hgn, hf⟩ := ck_t hf
  have hgn := of_decide_eq_true hgn
  refine z_calli hW (z_runV C hW hl hb (ci := 10) (fs := fl_X12 Z a (g.2.2 p2)) rfl rfl rfl (c_X12_next hu15) cw_L_112 ci_X12_next cs_X12_next (rm_okP (by decide) (by decide)) (rm_cs (by decide)) (As := [.int (g.2.2 p1 5)]) rfl rfl (Nat.le_of_ble_eq_true rfl) dL_does_5) (fun H locs hW => ?_)
  refine W.widen (k := 0) (n := 600 * 0) (by omega) (by omega) ?_
  have hA := hA.w hgn
  refine lv_istore_n (lv' := [(3, .int u15.1), (0, .ref (Z.1 0)), (1, .ref (ra Z a p1)), (2, .ref (ra Z a p2))]) C.1 C.2.1 dL_does_8 rfl hl (by decide) rfl (fun ls hl => ?_)
  refine lv_aload_n C.1 C.2.1 dL_does_9 rfl (lv_at hl 2 rfl) ?_
  obtain ⟨hx0, hf⟩ := ck_t hf
  obtain ⟨hx1, hf⟩ := ck_t hf
  have hpw := hW.2.2.2
  have hl : lv_has ls 10 [(3, .int u15.1), (0, .ref (Z.1 0)), (1, .ref (ra Z a p1)), (2, .ref (ra Z a p2))] := lv_sub hl [0, 1, 2, 3] rfl
  obtain ⟨hb, hf⟩ := ck_t hf
  obtain ⟨u16, hu16, hf⟩ := bnd_t hf
  refine z_callrA hW (z_runV C hW hl hb (ci := 9) (fs := fl_X11 Z a (u15.2.2.2 p1)) rfl rfl rfl (c_X11_transcript hu16) cw_L_117 ci_X11_transcript cs_X11_transcript (rm_okP (by decide) (by decide)) (rm_cs (by decide)) (As := []) rfl rfl (Nat.le_of_ble_eq_true rfl) dL_does_10) (fun a17 H locs hg hW => ?_)
  have e0 := ra_to (Z := Z) hpw hg hx0
  have e1 := ra_to (Z := Z) hpw hg hx1
  rw [← e0] at hl
  rw [← e1] at hl
  have hA := hA.tr hg
  refine W.widen (k := 2) (n := 600 * 2) (by omega) (by omega) ?_
  refine lv_astore (lv' := [(4, .ref (ra Z a17 u16.1)), (3, .int u15.1), (0, .ref (Z.1 0)), (1, .ref (ra Z a17 p1)), (2, .ref (ra Z a17 p2))]) C.1 C.2.1 dL_does_13 hl (by decide) rfl (fun ls hl => ?_)
  refine lv_aload_n C.1 C.2.1 dL_does_15 rfl (lv_at hl 4 rfl) ?_
  refine lv_bipush (v := 6) C.1 C.2.1 dL_does_16 (by decide) ?_
  obtain ⟨hb, hf⟩ := ck_t hf
  obtain ⟨u18, hu18, hf⟩ := bnd_t hf
  obtain ⟨hgn, hf⟩ := ck_t hf
  have hgn := of_decide_eq_true hgn
  refine z_calli hW (z_runV C hW hl hb (ci := 10) (fs := fl_X12 Z a17 (u16.2.2.2 p2)) rfl rfl rfl (c_X12_next hu18) cw_L_112 ci_X12_next cs_X12_next (rm_okP (by decide) (by decide)) (rm_cs (by decide)) (As := [.int (6 : Int32)]) rfl rfl (Nat.le_of_ble_eq_true rfl) dL_does_18) (fun H locs hW => ?_)
  refine W.widen (k := 2) (n := 600 * 2) (by omega) (by omega) ?_
  have hA := hA.w hgn
  rcases Classical.em (u18.1 = 0) with q0 | q0
  · rw [if_pos q0] at hf
    refine z_swin (tgt := 52) C q0 dL_does_21 (by decide) (by decide) rfl (by decide) ?_
    refine lv_aload C.1 C.2.1 dL_does_52 (lv_at hl 0 rfl) ?_
    refine z_alenI C hW hf dL_does_54 (fun hf => ?_)
    refine z_ifne (tgt := 78) C hf dL_does_55 (by decide) (fun hf => ?_) (fun hf => ?_)
    · refine lv_aload_n C.1 C.2.1 dL_does_78 rfl (lv_at hl 4 rfl) ?_
      refine lv_aload C.1 C.2.1 dL_does_79 (lv_at hl 0 rfl) ?_
      refine z_alenI C hW hf dL_does_81 (fun hf => ?_)
      obtain ⟨hb, hf⟩ := ck_t hf
      obtain ⟨u19, hu19, hf⟩ := bnd_t hf
      obtain ⟨hgn, hf⟩ := ck_t hf
      have hgn := of_decide_eq_true hgn
      refine z_calli hW (z_runV C hW hl hb (ci := 10) (fs := fl_X12 Z a17 (u18.2.2.2 p2)) rfl rfl rfl (c_X12_next hu19) cw_L_112 ci_X12_next cs_X12_next (rm_okP (by decide) (by decide)) (rm_cs (by decide)) (As := [.int (nI (gl u18.2 u16.1))]) rfl rfl (Nat.le_of_ble_eq_true rfl) dL_does_82) (fun H locs hW => ?_)
      refine W.widen (k := 2) (n := 600 * 2) (by omega) (by omega) ?_
      have hA := hA.w hgn
      refine lv_istore (lv' := [(5, .int u19.1), (4, .ref (ra Z a17 u16.1)), (3, .int u15.1), (0, .ref (Z.1 0)), (1, .ref (ra Z a17 p1)), (2, .ref (ra Z a17 p2))]) C.1 C.2.1 dL_does_85 hl (by decide) rfl (fun ls hl => ?_)
      refine lv_aload C.1 C.2.1 dL_does_87 (lv_at hl 1 rfl) ?_
      refine z_alenI C hW hf dL_does_89 (fun hf => ?_)
      refine lv_iconst (v := 1) C.1 C.2.1 dL_does_90 (by decide) ?_
      refine lv_isub C.1 C.2.1 dL_does_91 ?_
      refine lv_iload C.1 C.2.1 dL_does_92 (lv_at hl 0 rfl) ?_
      refine lv_aload_n C.1 C.2.1 dL_does_94 rfl (lv_at hl 5 rfl) ?_
      refine lv_iconst (v := 3) C.1 C.2.1 dL_does_95 (by decide) ?_
      obtain ⟨hb, hf⟩ := ck_t hf
      obtain ⟨u20, hu20, hf⟩ := bnd_t hf
      obtain ⟨hgn, hf⟩ := ck_t hf
      have hgn := of_decide_eq_true hgn
      refine z_calli hW (z_runV C hW hl hb (ci := 10) (fs := fl_X12 Z a17 (u19.2.2.2 p2)) rfl rfl rfl (c_X12_next hu20) cw_L_112 ci_X12_next cs_X12_next (rm_okP (by decide) (by decide)) (rm_cs (by decide)) (As := [.int (3 : Int32)]) rfl rfl (Nat.le_of_ble_eq_true rfl) dL_does_96) (fun H locs hW => ?_)
      refine W.widen (k := 2) (n := 600 * 2) (by omega) (by omega) ?_
      have hA := hA.w hgn
      refine lv_iadd C.1 C.2.1 dL_does_99 ?_
      refine z_min C hl (ml_L_125) (rm_m (by decide)) (rm_c0 (by decide)) (Nat.le_of_ble_eq_true rfl) dL_does_100 ?_
      refine z_ist C hf dL_does_103 hl (by decide) (fun v21 => [(6, .int v21), (5, .int u19.1), (4, .ref (ra Z a17 u16.1)), (3, .int u15.1), (0, .ref (Z.1 0)), (1, .ref (ra Z a17 p1)), (2, .ref (ra Z a17 p2))]) (fun _ => rfl) (fun v21 ls hf hl => ?_)
      refine lv_aload_n C.1 C.2.1 dL_does_105 rfl (lv_at hl 5 rfl) ?_
      obtain ⟨hb, hf⟩ := ck_t hf
      obtain ⟨u22, hu22, hf⟩ := bnd_t hf
      refine z_calli hW (z_runV C hW hl hb (ci := 9) (fs := fl_X11 Z a17 (u20.2.2.2 p1)) rfl rfl rfl (c_X11_filmLength hu22) cw_L_130 ci_X11_filmLength cs_X11_filmLength (rm_okP (by decide) (by decide)) (rm_cs (by decide)) (As := []) rfl rfl (Nat.le_of_ble_eq_true rfl) dL_does_106) (fun H locs hW => ?_)
      refine W.widen (k := 2) (n := 600 * 2) (by omega) (by omega) ?_
      refine lv_istore (lv' := [(7, .int u22), (6, .int v21), (5, .int u19.1), (4, .ref (ra Z a17 u16.1)), (3, .int u15.1), (0, .ref (Z.1 0)), (1, .ref (ra Z a17 p1)), (2, .ref (ra Z a17 p2))]) C.1 C.2.1 dL_does_109 hl (by decide) rfl (fun ls hl => ?_)
      refine lv_iload C.1 C.2.1 dL_does_111 (lv_at hl 2 rfl) ?_
      refine lv_istore (lv' := [(8, .int u19.1), (7, .int u22), (6, .int v21), (5, .int u19.1), (4, .ref (ra Z a17 u16.1)), (3, .int u15.1), (0, .ref (Z.1 0)), (1, .ref (ra Z a17 p1)), (2, .ref (ra Z a17 p2))]) C.1 C.2.1 dL_does_113 hl (by decide) rfl (fun ls hl => ?_)
      exact l_L_does_115 C hlt FU u19.1 u20.2 2 _ ls _ _ hA (by decide) hW (lv_sub hl [6, 7, 4, 3, 2, 1, 0] rfl) hf
    · refine lv_aload_n C.1 C.2.1 dL_does_58 rfl (lv_at hl 2 rfl) ?_
      refine lv_bipush (v := 12) C.1 C.2.1 dL_does_59 (by decide) ?_
      refine lv_iconst (v := 0) C.1 C.2.1 dL_does_61 (by decide) ?_
      refine lv_iconst (v := 0) C.1 C.2.1 dL_does_62 (by decide) ?_
      refine lv_iconst (v := 0) C.1 C.2.1 dL_does_63 (by decide) ?_
      obtain ⟨u23, hu23, hf⟩ := bnd_t hf
      refine z_calli hW (z_runSW C hW hl (k_ask12 hlt hu23) cX_asks ct_asks cwL_L_121 (rm_okA (by decide)) (rm_a1 (by decide)) (As := [.ref (Z.1 0), .int (12 : Int32), .int (0 : Int32), .int (0 : Int32), .int (0 : Int32)]) rfl rfl (Nat.le_of_ble_eq_true rfl) dL_does_64) (fun H locs hW => ?_)
      refine W.widen (k := 3) (n := 600 * 3) kn_v0 kn_v1 ?_
      refine lv_ldc (v := -2000000053) C.1 C.2.1 C.2.2.2.1 (C.2.2.1 _ mc_L_80) dL_does_67 ?_
      refine z_cmpne (tgt := 76) C hf dL_does_69 (by decide) (fun hf => ?_) (fun hf => ?_)
      · refine lv_iconst (v := 0) C.1 C.2.1 dL_does_76 (by decide) ?_
        obtain rfl := Option.some.inj hf
        refine W.widen (k := 9) (n := 600 * 9) (by omega) (by omega) ?_
        exact z_zret C hW (by decide) dL_does_77 a17 ⟨rfl, hA⟩ (fun _ q => q)
      · refine lv_iconst (v := 1) C.1 C.2.1 dL_does_72 (by decide) ?_
        refine lv_goto (tgt := 77) C.1 C.2.1 dL_does_73 (by decide) ?_
        obtain rfl := Option.some.inj hf
        refine W.widen (k := 9) (n := 600 * 9) (by omega) (by omega) ?_
        exact z_zret C hW (by decide) dL_does_77 a17 ⟨rfl, hA⟩ (fun _ q => q)
  · rw [if_neg q0] at hf
    rcases Classical.em (u18.1 = 1) with q1 | q1
    · rw [if_pos q1] at hf
      refine z_swin (tgt := 164) C q1 dL_does_21 (by decide) (by decide) rfl (by decide) ?_
      refine lv_aload_n C.1 C.2.1 dL_does_164 rfl (lv_at hl 3 rfl) ?_
      refine zg_L_137 C hW hf dL_does_165 (fun q24 hf => ?_)
      refine lv_iload_n C.1 C.2.1 dL_does_168 rfl (lv_at hl 1 rfl) ?_
      refine z_zald C hW hf dL_does_169 (fun hf => ?_)
      refine z_ifeq (tgt := 193) C hf dL_does_170 (by decide) (fun hf => ?_) (fun hf => ?_)
      · refine lv_aload_n C.1 C.2.1 dL_does_193 rfl (lv_at hl 3 rfl) ?_
        refine lv_iload_n C.1 C.2.1 dL_does_194 rfl (lv_at hl 1 rfl) ?_
        obtain ⟨hx0, hf⟩ := ck_t hf
        have hpw := hW.2.2.2
        have hl : lv_has ls 10 [(3, .int u15.1), (0, .ref (Z.1 0)), (1, .ref (ra Z a17 p1))] := lv_sub hl [1, 2, 3] rfl
        obtain ⟨hb, hf⟩ := ck_t hf
        obtain ⟨u25, hu25, hf⟩ := bnd_t hf
        refine z_callvA hW (z_runV C hW hl hb (ci := 9) (fs := fl_X11 Z a17 (u18.2.2.2 p1)) rfl rfl rfl (c_X11_cutOne hu25) cw_L_133 ci_X11_cutOne cs_X11_cutOne (rm_okP (by decide) (by decide)) (rm_cs (by decide)) (As := [.int u15.1]) rfl rfl (Nat.le_of_ble_eq_true rfl) dL_does_195) (fun a26 H locs hg hW => ?_)
        have e0 := ra_to (Z := Z) hpw hg hx0
        rw [← e0] at hl
        have hA := hA.tr hg
        refine W.widen (k := 3) (n := 600 * 3) (by omega) (by omega) ?_
        refine lv_aload_n C.1 C.2.1 dL_does_198 rfl (lv_at hl 1 rfl) ?_
        refine lv_bipush (v := 13) C.1 C.2.1 dL_does_199 (by decide) ?_
        refine lv_iload_n C.1 C.2.1 dL_does_201 rfl (lv_at hl 0 rfl) ?_
        refine lv_iconst (v := 0) C.1 C.2.1 dL_does_202 (by decide) ?_
        refine lv_iconst (v := 0) C.1 C.2.1 dL_does_203 (by decide) ?_
        obtain ⟨u27, hu27, hf⟩ := bnd_t hf
        obtain ⟨htu27, hf⟩ := ck_t hf
        have htu27 := of_decide_eq_true htu27
        refine z_calli hW (z_runSW C hW hl (k_ask13 hlt hu27) cX_asks ct_asks cwL_L_121 (rm_okA (by decide)) (rm_a0 htu27 (by decide)) (As := [.ref (Z.1 0), .int (13 : Int32), .int u15.1, .int (0 : Int32), .int (0 : Int32)]) rfl rfl (Nat.le_of_ble_eq_true rfl) dL_does_204) (fun H locs hW => ?_)
        refine W.widen (k := 3) (n := 600 * 3) (kn_w0 htu27) (kn_w1 htu27) ?_
        refine lv_aload_n C.1 C.2.1 dL_does_207 rfl (lv_at hl 2 rfl) ?_
        refine lv_iload_n C.1 C.2.1 dL_does_208 rfl (lv_at hl 0 rfl) ?_
        obtain ⟨hb, hf⟩ := ck_t hf
        obtain ⟨u28, hu28, hf⟩ := bnd_t hf
        refine z_calli hW (z_runV C hW hl hb (ci := 9) (fs := fl_X11 Z a26 (u25.2.2 p1)) rfl rfl rfl (c_X11_state hu28) cw_L_141 ci_X11_state cs_X11_state (rm_okP (by decide) (by decide)) (rm_cs (by decide)) (As := [.int u15.1]) rfl rfl (Nat.le_of_ble_eq_true rfl) dL_does_209) (fun H locs hW => ?_)
        refine W.widen (k := 3) (n := 600 * 3) (by omega) (by omega) ?_
        refine z_cmpne (tgt := 219) C hf dL_does_212 (by decide) (fun hf => ?_) (fun hf => ?_)
        · refine lv_iconst (v := 0) C.1 C.2.1 dL_does_219 (by decide) ?_
          obtain rfl := Option.some.inj hf
          refine W.widen (k := 9) (n := 600 * 9) (by omega) (by omega) ?_
          exact z_zret C hW (by decide) dL_does_220 a26 ⟨rfl, hA⟩ (fun _ q => q)
        · refine lv_iconst (v := 1) C.1 C.2.1 dL_does_215 (by decide) ?_
          refine lv_goto (tgt := 220) C.1 C.2.1 dL_does_216 (by decide) ?_
          obtain rfl := Option.some.inj hf
          refine W.widen (k := 9) (n := 600 * 9) (by omega) (by omega) ?_
          exact z_zret C hW (by decide) dL_does_220 a26 ⟨rfl, hA⟩ (fun _ q => q)
      · refine lv_aload_n C.1 C.2.1 dL_does_173 rfl (lv_at hl 2 rfl) ?_
        refine lv_bipush (v := 13) C.1 C.2.1 dL_does_174 (by decide) ?_
        refine lv_iload_n C.1 C.2.1 dL_does_176 rfl (lv_at hl 1 rfl) ?_
        refine lv_iconst (v := 0) C.1 C.2.1 dL_does_177 (by decide) ?_
        refine lv_iconst (v := 0) C.1 C.2.1 dL_does_178 (by decide) ?_
        obtain ⟨u29, hu29, hf⟩ := bnd_t hf
        refine z_calli hW (z_runSW C hW hl (k_ask13 hlt hu29) cX_asks ct_asks cwL_L_121 (rm_okA (by decide)) (rm_a1 (by decide)) (As := [.ref (Z.1 0), .int (13 : Int32), .int u15.1, .int (0 : Int32), .int (0 : Int32)]) rfl rfl (Nat.le_of_ble_eq_true rfl) dL_does_179) (fun H locs hW => ?_)
        refine W.widen (k := 3) (n := 600 * 3) kn_v0 kn_v1 ?_
        refine lv_ldc (v := -2000000054) C.1 C.2.1 C.2.2.2.1 (C.2.2.1 _ mc_L_83) dL_does_182 ?_
        refine z_cmpne (tgt := 191) C hf dL_does_184 (by decide) (fun hf => ?_) (fun hf => ?_)
        · refine lv_iconst (v := 0) C.1 C.2.1 dL_does_191 (by decide) ?_
          obtain rfl := Option.some.inj hf
          refine W.widen (k := 9) (n := 600 * 9) (by omega) (by omega) ?_
          exact z_zret C hW (by decide) dL_does_192 a17 ⟨rfl, hA⟩ (fun _ q => q)
        · refine lv_iconst (v := 1) C.1 C.2.1 dL_does_187 (by decide) ?_
          refine lv_goto (tgt := 192) C.1 C.2.1 dL_does_188 (by decide) ?_
          obtain rfl := Option.some.inj hf
          refine W.widen (k := 9) (n := 600 * 9) (by omega) (by omega) ?_
          exact z_zret C hW (by decide) dL_does_192 a17 ⟨rfl, hA⟩ (fun _ q => q)
    · rw [if_neg q1] at hf
      rcases Classical.em (u18.1 = 2) with q2 | q2
      · rw [if_pos q2] at hf
        refine z_swin (tgt := 221) C q2 dL_does_21 (by decide) (by decide) rfl (by decide) ?_
        refine lv_aload_n C.1 C.2.1 dL_does_221 rfl (lv_at hl 3 rfl) ?_
        refine zg_L_106 C hW hf dL_does_222 (fun hf => ?_)
        refine lv_iconst (v := 1) C.1 C.2.1 dL_does_225 (by decide) ?_
        refine lv_isub C.1 C.2.1 dL_does_226 ?_
        refine lv_iload_n C.1 C.2.1 dL_does_227 rfl (lv_at hl 1 rfl) ?_
        refine lv_aload_n C.1 C.2.1 dL_does_228 rfl (lv_at hl 4 rfl) ?_
        refine lv_iconst (v := 4) C.1 C.2.1 dL_does_229 (by decide) ?_
        obtain ⟨hb, hf⟩ := ck_t hf
        obtain ⟨u30, hu30, hf⟩ := bnd_t hf
        obtain ⟨hgn, hf⟩ := ck_t hf
        have hgn := of_decide_eq_true hgn
        refine z_calli hW (z_runV C hW hl hb (ci := 10) (fs := fl_X12 Z a17 (u18.2.2.2 p2)) rfl rfl rfl (c_X12_next hu30) cw_L_112 ci_X12_next cs_X12_next (rm_okP (by decide) (by decide)) (rm_cs (by decide)) (As := [.int (4 : Int32)]) rfl rfl (Nat.le_of_ble_eq_true rfl) dL_does_230) (fun H locs hW => ?_)
        refine W.widen (k := 2) (n := 600 * 2) (by omega) (by omega) ?_
        have hA := hA.w hgn
        refine lv_iadd C.1 C.2.1 dL_does_233 ?_
        refine z_min C hl (ml_L_125) (rm_m (by decide)) (rm_c0 (by decide)) (Nat.le_of_ble_eq_true rfl) dL_does_234 ?_
        refine z_ist C hf dL_does_237 hl (by decide) (fun v31 => [(5, .int v31), (4, .ref (ra Z a17 u16.1)), (3, .int u15.1), (0, .ref (Z.1 0)), (1, .ref (ra Z a17 p1)), (2, .ref (ra Z a17 p2))]) (fun _ => rfl) (fun v31 ls hf hl => ?_)
        refine lv_iconst (v := 0) C.1 C.2.1 dL_does_239 (by decide) ?_
        refine lv_istore (lv' := [(6, .int (0 : Int32)), (5, .int v31), (4, .ref (ra Z a17 u16.1)), (3, .int u15.1), (0, .ref (Z.1 0)), (1, .ref (ra Z a17 p1)), (2, .ref (ra Z a17 p2))]) C.1 C.2.1 dL_does_240 hl (by decide) rfl (fun ls hl => ?_)
        refine lv_iload_n C.1 C.2.1 dL_does_242 rfl (lv_at hl 3 rfl) ?_
        refine lv_istore (lv' := [(7, .int u15.1), (6, .int (0 : Int32)), (5, .int v31), (4, .ref (ra Z a17 u16.1)), (3, .int u15.1), (0, .ref (Z.1 0)), (1, .ref (ra Z a17 p1)), (2, .ref (ra Z a17 p2))]) C.1 C.2.1 dL_does_243 hl (by decide) rfl (fun ls hl => ?_)
        exact l_L_does_245 C hlt FU (0 : Int32) u15.1 u30.2 2 _ ls _ _ hA (by decide) hW (lv_sub hl [5, 6, 4, 2, 1, 0] rfl) hf
      · rw [if_neg q2] at hf
        rcases Classical.em (u18.1 = 3) with q3 | q3
        · rw [if_pos q3] at hf
          refine z_swin (tgt := 301) C q3 dL_does_21 (by decide) (by decide) rfl (by decide) ?_
          refine lv_aload_n C.1 C.2.1 dL_does_301 rfl (lv_at hl 4 rfl) ?_
          refine lv_aload_n C.1 C.2.1 dL_does_302 rfl (lv_at hl 3 rfl) ?_
          refine zg_L_147 C hW hf dL_does_303 (fun hf => ?_)
          obtain ⟨hb, hf⟩ := ck_t hf
          obtain ⟨u32, hu32, hf⟩ := bnd_t hf
          obtain ⟨hgn, hf⟩ := ck_t hf
          have hgn := of_decide_eq_true hgn
          refine z_calli hW (z_runV C hW hl hb (ci := 10) (fs := fl_X12 Z a17 (u18.2.2.2 p2)) rfl rfl rfl (c_X12_next hu32) cw_L_112 ci_X12_next cs_X12_next (rm_okP (by decide) (by decide)) (rm_cs (by decide)) (As := [.int (u18.2.2.2 p1 7)]) rfl rfl (Nat.le_of_ble_eq_true rfl) dL_does_306) (fun H locs hW => ?_)
          refine W.widen (k := 2) (n := 600 * 2) (by omega) (by omega) ?_
          have hA := hA.w hgn
          refine lv_istore (lv' := [(5, .int u32.1), (4, .ref (ra Z a17 u16.1)), (3, .int u15.1), (0, .ref (Z.1 0)), (1, .ref (ra Z a17 p1)), (2, .ref (ra Z a17 p2))]) C.1 C.2.1 dL_does_309 hl (by decide) rfl (fun ls hl => ?_)
          refine lv_aload_n C.1 C.2.1 dL_does_311 rfl (lv_at hl 4 rfl) ?_
          refine zg_L_150 C hW hf dL_does_312 (fun q33 hf => ?_)
          refine lv_iload C.1 C.2.1 dL_does_315 (lv_at hl 0 rfl) ?_
          refine lv_aload_n C.1 C.2.1 dL_does_317 rfl (lv_at hl 5 rfl) ?_
          refine lv_bipush (v := 25) C.1 C.2.1 dL_does_318 (by decide) ?_
          obtain ⟨hb, hf⟩ := ck_t hf
          obtain ⟨u34, hu34, hf⟩ := bnd_t hf
          obtain ⟨hgn, hf⟩ := ck_t hf
          have hgn := of_decide_eq_true hgn
          refine z_calli hW (z_runV C hW hl hb (ci := 10) (fs := fl_X12 Z a17 (u32.2.2.2 p2)) rfl rfl rfl (c_X12_next hu34) cw_L_112 ci_X12_next cs_X12_next (rm_okP (by decide) (by decide)) (rm_cs (by decide)) (As := [.int (25 : Int32)]) rfl rfl (Nat.le_of_ble_eq_true rfl) dL_does_320) (fun H locs hW => ?_)
          refine W.widen (k := 2) (n := 600 * 2) (by omega) (by omega) ?_
          have hA := hA.w hgn
          refine z_iast C hW hf dL_does_323 (fun g35 H locs hf hgn hW => ?_)
          have hA := hA.w (show g35.1 = u34.2.1 from (congrArg (fun q : PL => q.1) hgn).trans rfl)
          refine lv_aload_n C.1 C.2.1 dL_does_324 rfl (lv_at hl 4 rfl) ?_
          refine zg_L_154 C hW hf dL_does_325 (fun q36 hf => ?_)
          refine lv_iload C.1 C.2.1 dL_does_328 (lv_at hl 0 rfl) ?_
          refine lv_aload_n C.1 C.2.1 dL_does_330 rfl (lv_at hl 5 rfl) ?_
          refine lv_bipush (v := 25) C.1 C.2.1 dL_does_331 (by decide) ?_
          obtain ⟨hb, hf⟩ := ck_t hf
          obtain ⟨u37, hu37, hf⟩ := bnd_t hf
          obtain ⟨hgn, hf⟩ := ck_t hf
          have hgn := of_decide_eq_true hgn
          refine z_calli hW (z_runV C hW hl hb (ci := 10) (fs := fl_X12 Z a17 (g35.2.2 p2)) rfl rfl rfl (c_X12_next hu37) cw_L_112 ci_X12_next cs_X12_next (rm_okP (by decide) (by decide)) (rm_cs (by decide)) (As := [.int (25 : Int32)]) rfl rfl (Nat.le_of_ble_eq_true rfl) dL_does_333) (fun H locs hW => ?_)
          refine W.widen (k := 2) (n := 600 * 2) (by omega) (by omega) ?_
          have hA := hA.w hgn
          refine z_iast C hW hf dL_does_336 (fun g38 H locs hf hgn hW => ?_)
          have hA := hA.w (show g38.1 = u37.2.1 from (congrArg (fun q : PL => q.1) hgn).trans rfl)
          refine lv_aload_n C.1 C.2.1 dL_does_337 rfl (lv_at hl 3 rfl) ?_
          refine lv_bipush (v := 16) C.1 C.2.1 dL_does_338 (by decide) ?_
          refine lv_iload C.1 C.2.1 dL_does_340 (lv_at hl 0 rfl) ?_
          refine lv_aload_n C.1 C.2.1 dL_does_342 rfl (lv_at hl 4 rfl) ?_
          refine zg_L_150 C hW hf dL_does_343 (fun q39 hf => ?_)
          refine lv_iload C.1 C.2.1 dL_does_346 (lv_at hl 0 rfl) ?_
          refine z_iald C hW hf dL_does_348 (fun hf => ?_)
          refine lv_aload_n C.1 C.2.1 dL_does_349 rfl (lv_at hl 4 rfl) ?_
          refine zg_L_154 C hW hf dL_does_350 (fun q40 hf => ?_)
          refine lv_iload C.1 C.2.1 dL_does_353 (lv_at hl 0 rfl) ?_
          refine z_iald C hW hf dL_does_355 (fun hf => ?_)
          obtain ⟨u41, hu41, hf⟩ := bnd_t hf
          obtain ⟨htu41, hf⟩ := ck_t hf
          have htu41 := of_decide_eq_true htu41
          refine z_calli hW (z_runSW C hW hl (k_ask16 hlt hu41) cX_asks ct_asks cwL_L_121 (rm_okA (by decide)) (rm_a0 htu41 (by decide)) (As := [.ref (Z.1 0), .int (16 : Int32), .int u32.1, .int (g38.2.2 q39 (ix u32.1)), .int (g38.2.2 q40 (ix u32.1))]) rfl rfl (Nat.le_of_ble_eq_true rfl) dL_does_356) (fun H locs hW => ?_)
          refine W.widen (k := 2) (n := 600 * 2) (kn_w0 htu41) (kn_w1 htu41) ?_
          refine lv_aload_n C.1 C.2.1 dL_does_359 rfl (lv_at hl 4 rfl) ?_
          refine lv_iload C.1 C.2.1 dL_does_360 (lv_at hl 0 rfl) ?_
          obtain ⟨hb, hf⟩ := ck_t hf
          obtain ⟨u42, hu42, hf⟩ := bnd_t hf
          refine z_calli hW (z_runV C hW hl hb (ci := 9) (fs := fl_X11 Z a17 (g38.2.2 p1)) rfl rfl rfl (c_X11_shotOf hu42) cw_L_157 ci_X11_shotOf cs_X11_shotOf (rm_okP (by decide) (by decide)) (rm_cs (by decide)) (As := [.int u32.1]) rfl rfl (Nat.le_of_ble_eq_true rfl) dL_does_362) (fun H locs hW => ?_)
          refine W.widen (k := 2) (n := 600 * 2) (by omega) (by omega) ?_
          refine z_ifge (tgt := 372) C hf dL_does_365 (by decide) (fun hf => ?_) (fun hf => ?_)
          · refine lv_aload_n C.1 C.2.1 dL_does_372 rfl (lv_at hl 4 rfl) ?_
            refine lv_iload C.1 C.2.1 dL_does_373 (lv_at hl 0 rfl) ?_
            obtain ⟨hb, hf⟩ := ck_t hf
            obtain ⟨u43, hu43, hf⟩ := bnd_t hf
            refine z_calli hW (z_runV C hW hl hb (ci := 9) (fs := fl_X11 Z a17 (g38.2.2 p1)) rfl rfl rfl (c_X11_to hu43) cw_L_160 ci_X11_to cs_X11_to (rm_okP (by decide) (by decide)) (rm_cs (by decide)) (As := [.int u32.1]) rfl rfl (Nat.le_of_ble_eq_true rfl) dL_does_375) (fun H locs hW => ?_)
            refine W.widen (k := 2) (n := 600 * 2) (by omega) (by omega) ?_
            refine lv_aload_n C.1 C.2.1 dL_does_378 rfl (lv_at hl 4 rfl) ?_
            refine lv_iload C.1 C.2.1 dL_does_379 (lv_at hl 0 rfl) ?_
            obtain ⟨hb, hf⟩ := ck_t hf
            obtain ⟨u44, hu44, hf⟩ := bnd_t hf
            refine z_calli hW (z_runV C hW hl hb (ci := 9) (fs := fl_X11 Z a17 (g38.2.2 p1)) rfl rfl rfl (c_X11_from hu44) cw_L_163 ci_X11_from cs_X11_from (rm_okP (by decide) (by decide)) (rm_cs (by decide)) (As := [.int u32.1]) rfl rfl (Nat.le_of_ble_eq_true rfl) dL_does_381) (fun H locs hW => ?_)
            refine W.widen (k := 2) (n := 600 * 2) (by omega) (by omega) ?_
            refine lv_isub C.1 C.2.1 dL_does_384 ?_
            exact q_L_does_385 C hlt hA hW (lv_sub hl [3] rfl) hf
          · refine lv_iconst (v := 0) C.1 C.2.1 dL_does_368 (by decide) ?_
            refine lv_goto (tgt := 385) C.1 C.2.1 dL_does_369 (by decide) ?_
            exact q_L_does_385 C hlt hA hW (lv_sub hl [3] rfl) hf
        · rw [if_neg q3] at hf
          refine lv_tableOut (tgt := 394) C.1 C.2.1 dL_does_21 (x_nN (n := 3) (fun k hk => by
            rcases (show k = 0 ∨ k = 1 ∨ k = 2 ∨ k = 3 by omega) with rfl | rfl | rfl | rfl
            · exact q0
            · exact q1
            · exact q2
            · exact q3
            ) (by decide)) (by decide) ?_
          refine lv_aload_n C.1 C.2.1 dL_does_394 rfl (lv_at hl 3 rfl) ?_
          refine zg_L_166 C hW hf dL_does_395 (fun q45 hf => ?_)
          refine z_alenI C hW hf dL_does_398 (fun hf => ?_)
          refine z_ist C hf dL_does_399 hl (by decide) (fun v46 => [(5, .int v46), (4, .ref (ra Z a17 u16.1)), (3, .int u15.1), (0, .ref (Z.1 0)), (1, .ref (ra Z a17 p1)), (2, .ref (ra Z a17 p2))]) (fun _ => rfl) (fun v46 ls hf hl => ?_)
          refine lv_iload C.1 C.2.1 dL_does_401 (lv_at hl 0 rfl) ?_
          refine z_ifne (tgt := 426) C hf dL_does_403 (by decide) (fun hf => ?_) (fun hf => ?_)
          · refine lv_aload_n C.1 C.2.1 dL_does_426 rfl (lv_at hl 5 rfl) ?_
            refine lv_iload C.1 C.2.1 dL_does_427 (lv_at hl 0 rfl) ?_
            obtain ⟨hb, hf⟩ := ck_t hf
            obtain ⟨u47, hu47, hf⟩ := bnd_t hf
            obtain ⟨hgn, hf⟩ := ck_t hf
            have hgn := of_decide_eq_true hgn
            refine z_calli hW (z_runV C hW hl hb (ci := 10) (fs := fl_X12 Z a17 (u18.2.2.2 p2)) rfl rfl rfl (c_X12_next hu47) cw_L_112 ci_X12_next cs_X12_next (rm_okP (by decide) (by decide)) (rm_cs (by decide)) (As := [.int v46]) rfl rfl (Nat.le_of_ble_eq_true rfl) dL_does_429) (fun H locs hW => ?_)
            refine W.widen (k := 2) (n := 600 * 2) (by omega) (by omega) ?_
            have hA := hA.w hgn
            refine lv_istore (lv' := [(6, .int u47.1), (5, .int v46), (4, .ref (ra Z a17 u16.1)), (3, .int u15.1), (0, .ref (Z.1 0)), (1, .ref (ra Z a17 p1)), (2, .ref (ra Z a17 p2))]) C.1 C.2.1 dL_does_432 hl (by decide) rfl (fun ls hl => ?_)
            refine lv_iload C.1 C.2.1 dL_does_434 (lv_at hl 1 rfl) ?_
            refine lv_iconst (v := 1) C.1 C.2.1 dL_does_436 (by decide) ?_
            refine lv_isub C.1 C.2.1 dL_does_437 ?_
            refine lv_iload C.1 C.2.1 dL_does_438 (lv_at hl 0 rfl) ?_
            refine lv_aload_n C.1 C.2.1 dL_does_440 rfl (lv_at hl 6 rfl) ?_
            refine lv_iconst (v := 2) C.1 C.2.1 dL_does_441 (by decide) ?_
            obtain ⟨hb, hf⟩ := ck_t hf
            obtain ⟨u48, hu48, hf⟩ := bnd_t hf
            obtain ⟨hgn, hf⟩ := ck_t hf
            have hgn := of_decide_eq_true hgn
            refine z_calli hW (z_runV C hW hl hb (ci := 10) (fs := fl_X12 Z a17 (u47.2.2.2 p2)) rfl rfl rfl (c_X12_next hu48) cw_L_112 ci_X12_next cs_X12_next (rm_okP (by decide) (by decide)) (rm_cs (by decide)) (As := [.int (2 : Int32)]) rfl rfl (Nat.le_of_ble_eq_true rfl) dL_does_442) (fun H locs hW => ?_)
            refine W.widen (k := 2) (n := 600 * 2) (by omega) (by omega) ?_
            have hA := hA.w hgn
            refine lv_iadd C.1 C.2.1 dL_does_445 ?_
            refine z_min C hl (ml_L_125) (rm_m (by decide)) (rm_c0 (by decide)) (Nat.le_of_ble_eq_true rfl) dL_does_446 ?_
            refine z_ist C hf dL_does_449 hl (by decide) (fun v49 => [(7, .int v49), (6, .int u47.1), (5, .int v46), (4, .ref (ra Z a17 u16.1)), (3, .int u15.1), (0, .ref (Z.1 0)), (1, .ref (ra Z a17 p1)), (2, .ref (ra Z a17 p2))]) (fun _ => rfl) (fun v49 ls hf hl => ?_)
            refine lv_aload_n C.1 C.2.1 dL_does_451 rfl (lv_at hl 7 rfl) ?_
            refine lv_iload C.1 C.2.1 dL_does_452 (lv_at hl 2 rfl) ?_
            refine lv_iconst (v := 1) C.1 C.2.1 dL_does_454 (by decide) ?_
            refine lv_iadd C.1 C.2.1 dL_does_455 ?_
            obtain ⟨hb, hf⟩ := ck_t hf
            obtain ⟨u50, hu50, hf⟩ := bnd_t hf
            obtain ⟨hgn, hf⟩ := ck_t hf
            have hgn := of_decide_eq_true hgn
            refine z_calli hW (z_runV C hW hl hb (ci := 10) (fs := fl_X12 Z a17 (u48.2.2.2 p2)) rfl rfl rfl (c_X12_next hu50) cw_L_112 ci_X12_next cs_X12_next (rm_okP (by decide) (by decide)) (rm_cs (by decide)) (As := [.int (v46 + (1 : Int32))]) rfl rfl (Nat.le_of_ble_eq_true rfl) dL_does_456) (fun H locs hW => ?_)
            refine W.widen (k := 2) (n := 600 * 2) (by omega) (by omega) ?_
            have hA := hA.w hgn
            refine lv_iconst (v := 1) C.1 C.2.1 dL_does_459 (by decide) ?_
            refine lv_isub C.1 C.2.1 dL_does_460 ?_
            refine z_ist C hf dL_does_461 hl (by decide) (fun v51 => [(8, .int v51), (7, .int v49), (6, .int u47.1), (5, .int v46), (4, .ref (ra Z a17 u16.1)), (3, .int u15.1), (0, .ref (Z.1 0)), (1, .ref (ra Z a17 p1)), (2, .ref (ra Z a17 p2))]) (fun _ => rfl) (fun v51 ls hf hl => ?_)
            refine lv_iload C.1 C.2.1 dL_does_463 (lv_at hl 0 rfl) ?_
            refine lv_iload C.1 C.2.1 dL_does_465 (lv_at hl 2 rfl) ?_
            refine z_cmplt (tgt := 500) C hf dL_does_467 (by decide) (fun hf => ?_) (fun hf => ?_)
            · exact q_L_does_500 C hlt hA hW (lv_sub hl [6, 7, 2, 1, 0] rfl) hf
            · refine lv_iload C.1 C.2.1 dL_does_470 (lv_at hl 0 rfl) ?_
              refine lv_iload C.1 C.2.1 dL_does_472 (lv_at hl 1 rfl) ?_
              refine z_cmpgt (tgt := 500) C hf dL_does_474 (by decide) (fun hf => ?_) (fun hf => ?_)
              · exact q_L_does_500 C hlt hA hW (lv_sub hl [6, 7, 2, 1, 0] rfl) hf
              · refine lv_aload_n C.1 C.2.1 dL_does_477 rfl (lv_at hl 6 rfl) ?_
                refine lv_bipush (v := 15) C.1 C.2.1 dL_does_478 (by decide) ?_
                refine lv_iload C.1 C.2.1 dL_does_480 (lv_at hl 2 rfl) ?_
                refine lv_iload C.1 C.2.1 dL_does_482 (lv_at hl 1 rfl) ?_
                refine lv_iload C.1 C.2.1 dL_does_484 (lv_at hl 0 rfl) ?_
                obtain ⟨u52, hu52, hf⟩ := bnd_t hf
                refine z_calli hW (z_runSW C hW hl (k_ask15 hlt hu52) cX_asks ct_asks cwL_L_121 (rm_okA (by decide)) (rm_a1 (by decide)) (As := [.ref (Z.1 0), .int (15 : Int32), .int u47.1, .int v49, .int v51]) rfl rfl (Nat.le_of_ble_eq_true rfl) dL_does_486) (fun H locs hW => ?_)
                refine W.widen (k := 3) (n := 600 * 3) kn_v0 kn_v1 ?_
                refine lv_ldc (v := -2000000053) C.1 C.2.1 C.2.2.2.1 (C.2.2.1 _ mc_L_80) dL_does_489 ?_
                refine z_cmpne (tgt := 498) C hf dL_does_491 (by decide) (fun hf => ?_) (fun hf => ?_)
                · refine lv_iconst (v := 0) C.1 C.2.1 dL_does_498 (by decide) ?_
                  obtain rfl := Option.some.inj hf
                  refine W.widen (k := 9) (n := 600 * 9) (by omega) (by omega) ?_
                  exact z_zret C hW (by decide) dL_does_499 a17 ⟨rfl, hA⟩ (fun _ q => q)
                · refine lv_iconst (v := 1) C.1 C.2.1 dL_does_494 (by decide) ?_
                  refine lv_goto (tgt := 499) C.1 C.2.1 dL_does_495 (by decide) ?_
                  obtain rfl := Option.some.inj hf
                  refine W.widen (k := 9) (n := 600 * 9) (by omega) (by omega) ?_
                  exact z_zret C hW (by decide) dL_does_499 a17 ⟨rfl, hA⟩ (fun _ q => q)
          · refine lv_aload_n C.1 C.2.1 dL_does_406 rfl (lv_at hl 3 rfl) ?_
            refine lv_bipush (v := 15) C.1 C.2.1 dL_does_407 (by decide) ?_
            refine lv_iconst (v := 0) C.1 C.2.1 dL_does_409 (by decide) ?_
            refine lv_iconst (v := 0) C.1 C.2.1 dL_does_410 (by decide) ?_
            refine lv_iconst (v := -1) C.1 C.2.1 dL_does_411 (by decide) ?_
            obtain ⟨u53, hu53, hf⟩ := bnd_t hf
            refine z_calli hW (z_runSW C hW hl (k_ask15 hlt hu53) cX_asks ct_asks cwL_L_121 (rm_okA (by decide)) (rm_a1 (by decide)) (As := [.ref (Z.1 0), .int (15 : Int32), .int (0 : Int32), .int (0 : Int32), .int (-1 : Int32)]) rfl rfl (Nat.le_of_ble_eq_true rfl) dL_does_412) (fun H locs hW => ?_)
            refine W.widen (k := 3) (n := 600 * 3) kn_v0 kn_v1 ?_
            refine lv_ldc (v := -2000000050) C.1 C.2.1 C.2.2.2.1 (C.2.2.1 _ mc_L_77) dL_does_415 ?_
            refine z_cmpne (tgt := 424) C hf dL_does_417 (by decide) (fun hf => ?_) (fun hf => ?_)
            · refine lv_iconst (v := 0) C.1 C.2.1 dL_does_424 (by decide) ?_
              obtain rfl := Option.some.inj hf
              refine W.widen (k := 9) (n := 600 * 9) (by omega) (by omega) ?_
              exact z_zret C hW (by decide) dL_does_425 a17 ⟨rfl, hA⟩ (fun _ q => q)
            · refine lv_iconst (v := 1) C.1 C.2.1 dL_does_420 (by decide) ?_
              refine lv_goto (tgt := 425) C.1 C.2.1 dL_does_421 (by decide) ?_
              obtain rfl := Option.some.inj hf
              refine W.widen (k := 9) (n := 600 * 9) (by omega) (by omega) ?_
              exact z_zret C hW (by decide) dL_does_425 a17 ⟨rfl, hA⟩ (fun _ q => q)
