set_option maxRecDepth 20000 in
set_option maxHeartbeats 1000000 in
theorem q_X11_init_549 {l : Launch} {Z : ZT} {h : Hp} {a0 : Nat → Nat} {g0 : PL} {p0 : Nat} {p1 : Nat} {g : PL} {p : Program} {e : Env} {s : State} {m : MethodId} {args : Array Value} {below : List Frame} {meth : Method} {c : Code} (C : CQ p s m args meth c cX11_init RX11 8 none Z) {out : PL} (hin : meth.name = "<init>") {a : Nat → Nat} (hA : AG a0 g0 a g) {ls : Array Slot} {H : Heap} {locs : List Loc} (hW : XG Z h a g s.heap H locs) (hl : lv_has ls 8 [(0, .ref (ra Z a p0))]) (hf : Jp_X11_init_549 p0 p1 g = some out) : W p l e (rmP 7 372) s m args below meth c H locs 361 (600 * 361) (MQ below (va_Qv (fun (a1 : Nat → Nat) => AG a0 g0 a1 out) (fun a1 => WdP Z h a1 out) (FR Z)) args s 372 (600 * 372) (FR Z)) (F0 m 549 ls []) := by
  rw [Jp_X11_init_549] at hf
  refine lv_aload_n C.1 C.2.1 dX11_init_549 rfl (lv_at hl 0 rfl) ?_
  obtain ⟨hx0, hf⟩ := ck_t hf
  have hpw := hW.2.2.2
  have hl : lv_has ls 8 [(0, .ref (ra Z a p0))] := lv_sub hl [0] rfl
  refine z_newo C hW (kd := 2) (ci := 11) (fs := nf_J4) rfl wsJ4_in tyJ4 tyJ4_ok df_J4 cl_X11_62 in_J4 iz_J4 (by decide) (by decide) ne_J4 hf ⟨by show _ + 1 ≤ 372; omega, by show _ + 600 ≤ 600 * 372; omega⟩ dX11_init_550 (fun a2 g1 H hf hg hW => ?_)
  have e0 := ra_to (Z := Z) hpw hg hx0
  rw [← e0] at hl
  rw [← e0]
  have hA := hA.tr hg
  refine W.widen (k := 362) (n := 600 * 362) (by omega) (by omega) ?_
  refine lv_dup C.1 C.2.1 dX11_init_553 rfl ?_
  obtain ⟨hx0, hf⟩ := ck_t hf
  obtain ⟨hx1, hf⟩ := ck_t hf
  have hpw := hW.2.2.2
  have hl : lv_has ls 8 [(0, .ref (ra Z a2 p0))] := lv_sub hl [0] rfl
  obtain ⟨u3, hu3, hf⟩ := bnd_t hf
  refine z_callvA hW (z_runI C hW hl (c_J4_init_da8c8 hu3) cw_X11_64 ci_J4_init_da8c8 rfl (rm_okP (by decide) (by decide)) (rm_cs (by decide)) (As := []) rfl rfl (Nat.le_of_ble_eq_true rfl) dX11_init_554) (fun a4 H locs hg hW => ?_)
  have e0 := ra_to (Z := Z) hpw hg hx0
  have e1 := ra_to (Z := Z) hpw hg hx1
  rw [← e0] at hl
  rw [← e0]
  rw [← e1]
  have hA := hA.tr hg
  refine W.widen (k := 363) (n := 600 * 363) (by omega) (by omega) ?_
  refine lv_aload_n C.1 C.2.1 dX11_init_557 rfl (lv_at hl 0 rfl) ?_
  refine zg_X11_45 C hW hf dX11_init_558 (fun q5 hf => ?_)
  obtain ⟨hx0, hf⟩ := ck_t hf
  have hpw := hW.2.2.2
  have hl : lv_has ls 8 [(0, .ref (ra Z a4 p0))] := lv_sub hl [0] rfl
  obtain ⟨hb, hf⟩ := ck_t hf
  obtain ⟨u6, hu6, hf⟩ := bnd_t hf
  refine z_callrA hW (z_runV C hW hl hb (ci := 11) (fs := fl_J4 Z a4 (u3.2.2 g.1)) rfl rfl rfl (c_J4_append_15ec4 hu6) cw_X11_65 ci_J4_append_15ec4 cs_J4_append_15ec4 (rm_okP (by decide) (by decide)) (rm_cs (by decide)) (As := [.ref (ra Z a4 q5)]) rfl rfl (Nat.le_of_ble_eq_true rfl) dX11_init_561) (fun a7 H locs hg hW => ?_)
  have e0 := ra_to (Z := Z) hpw hg hx0
  rw [← e0] at hl
  rw [← e0]
  have hA := hA.tr hg
  refine W.widen (k := 364) (n := 600 * 364) (by omega) (by omega) ?_
  refine z_ldcS (a := a7) C (x := 1000008) (i := 8) rfl ms_X11_114 dX11_init_564 ?_
  obtain ⟨hx0, hf⟩ := ck_t hf
  have hpw := hW.2.2.2
  have hl : lv_has ls 8 [(0, .ref (ra Z a7 p0))] := lv_sub hl [0] rfl
  obtain ⟨hb, hf⟩ := ck_t hf
  obtain ⟨u8, hu8, hf⟩ := bnd_t hf
  refine z_callrA hW (z_runV C hW hl hb (ci := 11) (fs := fl_J4 Z a7 (u6.2.2.2 u6.1)) rfl rfl rfl (c_J4_append_15ec4 hu8) cw_X11_65 ci_J4_append_15ec4 cs_J4_append_15ec4 (rm_okP (by decide) (by decide)) (rm_cs (by decide)) (As := [.ref (ra Z a7 1000008)]) rfl rfl (Nat.le_of_ble_eq_true rfl) dX11_init_566) (fun a9 H locs hg hW => ?_)
  have e0 := ra_to (Z := Z) hpw hg hx0
  rw [← e0] at hl
  rw [← e0]
  have hA := hA.tr hg
  refine W.widen (k := 365) (n := 600 * 365) (by omega) (by omega) ?_
  refine lv_aload_n C.1 C.2.1 dX11_init_569 rfl (lv_at hl 0 rfl) ?_
  refine zg_X11_106 C hW hf dX11_init_570 (fun hf => ?_)
  obtain ⟨hx0, hf⟩ := ck_t hf
  have hpw := hW.2.2.2
  have hl : lv_has ls 8 [(0, .ref (ra Z a9 p0))] := lv_sub hl [0] rfl
  obtain ⟨hb, hf⟩ := ck_t hf
  obtain ⟨u10, hu10, hf⟩ := bnd_t hf
  refine z_callrA hW (z_runV C hW hl hb (ci := 11) (fs := fl_J4 Z a9 (u8.2.2.2 u8.1)) rfl rfl rfl (c_J4_append_bf812 hu10) cw_X11_100 ci_J4_append_bf812 cs_J4_append_bf812 (rm_okP (by decide) (by decide)) (rm_cs (by decide)) (As := [.int (u8.2.2.2 p0 0)]) rfl rfl (Nat.le_of_ble_eq_true rfl) dX11_init_573) (fun a11 H locs hg hW => ?_)
  have e0 := ra_to (Z := Z) hpw hg hx0
  rw [← e0] at hl
  rw [← e0]
  have hA := hA.tr hg
  refine W.widen (k := 366) (n := 600 * 366) (by omega) (by omega) ?_
  refine z_ldcS (a := a11) C (x := 1000009) (i := 9) rfl ms_X11_116 dX11_init_576 ?_
  obtain ⟨hx0, hf⟩ := ck_t hf
  have hpw := hW.2.2.2
  have hl : lv_has ls 8 [(0, .ref (ra Z a11 p0))] := lv_sub hl [0] rfl
  obtain ⟨hb, hf⟩ := ck_t hf
  obtain ⟨u12, hu12, hf⟩ := bnd_t hf
  refine z_callrA hW (z_runV C hW hl hb (ci := 11) (fs := fl_J4 Z a11 (u10.2.2.2 u10.1)) rfl rfl rfl (c_J4_append_15ec4 hu12) cw_X11_65 ci_J4_append_15ec4 cs_J4_append_15ec4 (rm_okP (by decide) (by decide)) (rm_cs (by decide)) (As := [.ref (ra Z a11 1000009)]) rfl rfl (Nat.le_of_ble_eq_true rfl) dX11_init_578) (fun a13 H locs hg hW => ?_)
  have e0 := ra_to (Z := Z) hpw hg hx0
  rw [← e0] at hl
  rw [← e0]
  have hA := hA.tr hg
  refine W.widen (k := 367) (n := 600 * 367) (by omega) (by omega) ?_
  refine lv_aload_n C.1 C.2.1 dX11_init_581 rfl (lv_at hl 0 rfl) ?_
  refine zg_X11_55 C hW hf dX11_init_582 (fun hf => ?_)
  obtain ⟨hx0, hf⟩ := ck_t hf
  have hpw := hW.2.2.2
  have hl : lv_has ls 8 [(0, .ref (ra Z a13 p0))] := lv_sub hl [0] rfl
  obtain ⟨hb, hf⟩ := ck_t hf
  obtain ⟨u14, hu14, hf⟩ := bnd_t hf
  refine z_callrA hW (z_runV C hW hl hb (ci := 11) (fs := fl_J4 Z a13 (u12.2.2.2 u12.1)) rfl rfl rfl (c_J4_append_bf812 hu14) cw_X11_100 ci_J4_append_bf812 cs_J4_append_bf812 (rm_okP (by decide) (by decide)) (rm_cs (by decide)) (As := [.int (u12.2.2.2 p0 1)]) rfl rfl (Nat.le_of_ble_eq_true rfl) dX11_init_585) (fun a15 H locs hg hW => ?_)
  have e0 := ra_to (Z := Z) hpw hg hx0
  rw [← e0] at hl
  rw [← e0]
  have hA := hA.tr hg
  refine W.widen (k := 368) (n := 600 * 368) (by omega) (by omega) ?_
  refine z_ldcS (a := a15) C (x := 1000002) (i := 2) rfl ms_X11_74 dX11_init_588 ?_
  obtain ⟨hx0, hf⟩ := ck_t hf
  have hpw := hW.2.2.2
  have hl : lv_has ls 8 [(0, .ref (ra Z a15 p0))] := lv_sub hl [0] rfl
  obtain ⟨hb, hf⟩ := ck_t hf
  obtain ⟨u16, hu16, hf⟩ := bnd_t hf
  refine z_callrA hW (z_runV C hW hl hb (ci := 11) (fs := fl_J4 Z a15 (u14.2.2.2 u14.1)) rfl rfl rfl (c_J4_append_15ec4 hu16) cw_X11_65 ci_J4_append_15ec4 cs_J4_append_15ec4 (rm_okP (by decide) (by decide)) (rm_cs (by decide)) (As := [.ref (ra Z a15 1000002)]) rfl rfl (Nat.le_of_ble_eq_true rfl) dX11_init_590) (fun a17 H locs hg hW => ?_)
  have e0 := ra_to (Z := Z) hpw hg hx0
  rw [← e0] at hl
  rw [← e0]
  have hA := hA.tr hg
  refine W.widen (k := 369) (n := 600 * 369) (by omega) (by omega) ?_
  obtain ⟨hx0, hf⟩ := ck_t hf
  have hpw := hW.2.2.2
  have hl : lv_has ls 8 [(0, .ref (ra Z a17 p0))] := lv_sub hl [0] rfl
  obtain ⟨hb, hf⟩ := ck_t hf
  obtain ⟨u18, hu18, hf⟩ := bnd_t hf
  refine z_callrA hW (z_runV C hW hl hb (ci := 11) (fs := fl_J4 Z a17 (u16.2.2.2 u16.1)) rfl rfl rfl (c_J4_toString_0e30d hu18) cw_X11_76 ci_J4_toString_0e30d cs_J4_toString_0e30d (rm_okP (by decide) (by decide)) (rm_cs (by decide)) (As := []) rfl rfl (Nat.le_of_ble_eq_true rfl) dX11_init_593) (fun a19 H locs hg hW => ?_)
  have e0 := ra_to (Z := Z) hpw hg hx0
  rw [← e0] at hl
  rw [← e0]
  have hA := hA.tr hg
  refine W.widen (k := 371) (n := 600 * 371) (by omega) (by omega) ?_
  refine zp_X11_45 C hW hf dX11_init_596 (fun g20 H locs hf hgn hW => ?_)
  have hA := hA.w hgn
  refine lv_aload_n C.1 C.2.1 dX11_init_599 rfl (lv_at hl 0 rfl) ?_
  have hpw := hW.2.2.2
  have hl : lv_has ls 8 [] := lv_sub hl [] rfl
  obtain ⟨hb, hf⟩ := ck_t hf
  obtain ⟨u21, hu21, hf⟩ := bnd_t hf
  refine z_callvA hW (z_runV C hW hl hb (ci := 9) (fs := fl_X11 Z a19 (g20.2.2 p0)) rfl rfl rfl (c_X11_layBlocks hu21) cw_X11_118 ci_X11_layBlocks cs_X11_layBlocks (rm_okP (by decide) (by decide)) (rm_cs (by decide)) (As := []) rfl rfl (Nat.le_of_ble_eq_true rfl) dX11_init_600) (fun a22 H locs hg hW => ?_)
  have hA := hA.tr hg
  refine W.widen (k := 372) (n := 600 * 372) (by omega) (by omega) ?_
  obtain rfl := Option.some.inj hf
  exact z_vret C hW dX11_init_603 a22 hA (fun _ q => q)
set_option maxRecDepth 20000 in
set_option maxHeartbeats 1000000 in
theorem l_X11_init_432 {l : Launch} {Z : ZT} {h : Hp} {a0 : Nat → Nat} {g0 : PL} {p0 : Nat} {p1 : Nat} {x4 : Int32} {p : Program} {e : Env} {s : State} {m : MethodId} {args : Array Value} {below : List Frame} {meth : Method} {c : Code} (C : CQ p s m args meth c cX11_init RX11 8 none Z) {out : PL} (hin : meth.name = "<init>") : ∀ (n : Nat) (x5 : Int32) (g : PL) (k : Nat) (a : Nat → Nat) (ls : Array Slot) (H : Heap) (locs : List Loc), AG a0 g0 a g → k ≤ 361 → XG Z h a g s.heap H locs → lv_has ls 8 [(0, .ref (ra Z a p0)), (1, .ref (ra Z a p1)), (4, .int x4), (5, .int x5)] → Lp (Fp_X11_init_432 p0 p1 x4) n (x5, g, k) = some out → W p l e (rmP 7 372) s m args below meth c H locs k (600 * k) (MQ below (va_Qv (fun (a1 : Nat → Nat) => AG a0 g0 a1 out) (fun a1 => WdP Z h a1 out) (FR Z)) args s 372 (600 * 372) (FR Z)) (F0 m 432 ls []) := by
  intro n
  induction n with
  | zero => intro x5 g k a ls H locs hA hk hW hl hf; cases hf
  | succ n ih =>
    intro x5 g k a ls H locs hA hk hW hl hf
    rw [Lp_s] at hf
    refine lv_iload C.1 C.2.1 dX11_init_432 (lv_at hl 3 rfl) ?_
    refine z_ifle (tgt := 549) C hf dX11_init_434 (by decide) (fun hf => ?_) (fun hf => ?_)
    · refine W.widen (k := 361) (n := 600 * 361) (by omega) (by omega) ?_
      exact q_X11_init_549 C hin hA hW (lv_sub hl [0] rfl) hf
    · refine lv_aload_n C.1 C.2.1 dX11_init_437 rfl (lv_at hl 1 rfl) ?_
      refine lv_iload C.1 C.2.1 dX11_init_438 (lv_at hl 2 rfl) ?_
      refine lv_iconst (v := 1) C.1 C.2.1 dX11_init_440 (by decide) ?_
      refine lv_iadd C.1 C.2.1 dX11_init_441 ?_
      obtain ⟨hb, hf⟩ := ck_t hf
      obtain ⟨u23, hu23, hf⟩ := bnd_t hf
      obtain ⟨hgn, hf⟩ := ck_t hf
      have hgn := of_decide_eq_true hgn
      refine z_calli hW (z_runV C hW hl hb (ci := 10) (fs := fl_X12 Z a (g.2.2 p1)) rfl rfl rfl (c_X12_next hu23) cw_X11_49 ci_X12_next cs_X12_next (rm_okP (by decide) (by decide)) (rm_cs (by omega)) (As := [.int (x4 + (1 : Int32))]) rfl rfl (Nat.le_of_ble_eq_true rfl) dX11_init_442) (fun H locs hW => ?_)
      refine W.widen (k := k) (n := 600 * k) (by omega) (by omega) ?_
      have hA := hA.w hgn
      refine lv_istore (lv' := [(6, .int u23.1), (0, .ref (ra Z a p0)), (1, .ref (ra Z a p1)), (4, .int x4), (5, .int x5)]) C.1 C.2.1 dX11_init_445 hl (by decide) rfl (fun ls hl => ?_)
      refine lv_aload_n C.1 C.2.1 dX11_init_447 rfl (lv_at hl 1 rfl) ?_
      refine zg_X11_15 C hW hf dX11_init_448 (fun q24 hf => ?_)
      refine lv_aload_n C.1 C.2.1 dX11_init_451 rfl (lv_at hl 1 rfl) ?_
      refine zg_X11_109 C hW hf dX11_init_452 (fun hf => ?_)
      refine lv_iconst (v := 2) C.1 C.2.1 dX11_init_455 (by decide) ?_
      obtain ⟨hx0, hf⟩ := ck_t hf
      obtain ⟨hx1, hf⟩ := ck_t hf
      obtain ⟨hx2, hf⟩ := ck_t hf
      obtain ⟨hkc, hf⟩ := ck_t hf
      have hkc := of_decide_eq_true hkc
      have hpw := hW.2.2.2
      have hl : lv_has ls 8 [(6, .int u23.1), (0, .ref (ra Z a p0)), (1, .ref (ra Z a p1)), (4, .int x4), (5, .int x5)] := lv_sub hl [0, 1, 2, 3, 4] rfl
      refine z_newI C hW ac_int hf ⟨by show _ + 1 ≤ 372; omega, by show _ + 600 ≤ 600 * 372; omega⟩ dX11_init_456 (fun a26 g25 H hf hg hW => ?_)
      have e0 := ra_to (Z := Z) hpw hg hx0
      have e1 := ra_to (Z := Z) hpw hg hx1
      have e2 := ra_to (Z := Z) hpw hg hx2
      rw [← e0] at hl
      rw [← e1] at hl
      rw [← e2]
      have hA := hA.tr hg
      refine W.widen (k := (k + 1)) (n := 600 * (k + 1)) (by omega) (by omega) ?_
      refine lv_dup C.1 C.2.1 dX11_init_458 rfl ?_
      refine lv_iconst (v := 0) C.1 C.2.1 dX11_init_459 (by decide) ?_
      refine lv_iload C.1 C.2.1 dX11_init_460 (lv_at hl 0 rfl) ?_
      refine z_iast C hW hf dX11_init_462 (fun g27 H locs hf hgn hW => ?_)
      have hA := hA.w (show g27.1 = g25.1 from (congrArg (fun q : PL => q.1) hgn).trans rfl)
      refine lv_dup C.1 C.2.1 dX11_init_463 rfl ?_
      refine lv_iconst (v := 1) C.1 C.2.1 dX11_init_464 (by decide) ?_
      refine lv_iload C.1 C.2.1 dX11_init_465 (lv_at hl 0 rfl) ?_
      refine lv_iconst (v := 1) C.1 C.2.1 dX11_init_467 (by decide) ?_
      refine lv_iadd C.1 C.2.1 dX11_init_468 ?_
      refine lv_aload_n C.1 C.2.1 dX11_init_469 rfl (lv_at hl 2 rfl) ?_
      refine lv_bipush (v := 6) C.1 C.2.1 dX11_init_470 (by decide) ?_
      obtain ⟨hb, hf⟩ := ck_t hf
      obtain ⟨u28, hu28, hf⟩ := bnd_t hf
      obtain ⟨hgn, hf⟩ := ck_t hf
      have hgn := of_decide_eq_true hgn
      refine z_calli hW (z_runV C hW hl hb (ci := 10) (fs := fl_X12 Z a26 (g27.2.2 p1)) rfl rfl rfl (c_X12_next hu28) cw_X11_49 ci_X12_next cs_X12_next (rm_okP (by decide) (by decide)) (rm_cs (by omega)) (As := [.int (6 : Int32)]) rfl rfl (Nat.le_of_ble_eq_true rfl) dX11_init_472) (fun H locs hW => ?_)
      refine W.widen (k := (k + 1)) (n := 600 * (k + 1)) (by omega) (by omega) ?_
      have hA := hA.w hgn
      refine lv_iadd C.1 C.2.1 dX11_init_475 ?_
      refine z_iast C hW hf dX11_init_476 (fun g29 H locs hf hgn hW => ?_)
      have hA := hA.w (show g29.1 = u28.2.1 from (congrArg (fun q : PL => q.1) hgn).trans rfl)
      refine z_aast C hW hf dX11_init_477 (fun g30 H locs hf hgn hW => ?_)
      have hA := hA.w (show g30.1 = g29.1 from (congrArg (fun q : PL => q.1) hgn).trans rfl)
      refine lv_aload_n C.1 C.2.1 dX11_init_478 rfl (lv_at hl 1 rfl) ?_
      obtain ⟨hx0, hf⟩ := ck_t hf
      obtain ⟨hx1, hf⟩ := ck_t hf
      obtain ⟨hkc, hf⟩ := ck_t hf
      have hkc := of_decide_eq_true hkc
      have hpw := hW.2.2.2
      have hl : lv_has ls 8 [(6, .int u23.1), (0, .ref (ra Z a26 p0)), (1, .ref (ra Z a26 p1)), (4, .int x4), (5, .int x5)] := lv_sub hl [0, 1, 2, 3, 4] rfl
      refine z_newo C hW (kd := 2) (ci := 11) (fs := nf_J4) rfl wsJ4_in tyJ4 tyJ4_ok df_J4 cl_X11_62 in_J4 iz_J4 (by decide) (by decide) ne_J4 hf ⟨by show _ + 1 ≤ 372; omega, by show _ + 600 ≤ 600 * 372; omega⟩ dX11_init_479 (fun a32 g31 H hf hg hW => ?_)
      have e0 := ra_to (Z := Z) hpw hg hx0
      have e1 := ra_to (Z := Z) hpw hg hx1
      rw [← e0] at hl
      rw [← e1] at hl
      rw [← e0]
      have hA := hA.tr hg
      refine W.widen (k := (k + 2)) (n := 600 * (k + 2)) (by omega) (by omega) ?_
      refine lv_dup C.1 C.2.1 dX11_init_482 rfl ?_
      obtain ⟨hx0, hf⟩ := ck_t hf
      obtain ⟨hx1, hf⟩ := ck_t hf
      obtain ⟨hx2, hf⟩ := ck_t hf
      obtain ⟨hkc, hf⟩ := ck_t hf
      have hkc := of_decide_eq_true hkc
      have hpw := hW.2.2.2
      have hl : lv_has ls 8 [(6, .int u23.1), (0, .ref (ra Z a32 p0)), (1, .ref (ra Z a32 p1)), (4, .int x4), (5, .int x5)] := lv_sub hl [0, 1, 2, 3, 4] rfl
      obtain ⟨u33, hu33, hf⟩ := bnd_t hf
      refine z_callvA hW (z_runI C hW hl (c_J4_init_da8c8 hu33) cw_X11_64 ci_J4_init_da8c8 rfl (rm_okP (by decide) (by decide)) (rm_cs (by omega)) (As := []) rfl rfl (Nat.le_of_ble_eq_true rfl) dX11_init_483) (fun a34 H locs hg hW => ?_)
      have e0 := ra_to (Z := Z) hpw hg hx0
      have e1 := ra_to (Z := Z) hpw hg hx1
      have e2 := ra_to (Z := Z) hpw hg hx2
      rw [← e0] at hl
      rw [← e1] at hl
      rw [← e0]
      rw [← e2]
      have hA := hA.tr hg
      refine W.widen (k := (k + 3)) (n := 600 * (k + 3)) (by omega) (by omega) ?_
      refine lv_aload_n C.1 C.2.1 dX11_init_486 rfl (lv_at hl 1 rfl) ?_
      refine zg_X11_45 C hW hf dX11_init_487 (fun q35 hf => ?_)
      obtain ⟨hx0, hf⟩ := ck_t hf
      obtain ⟨hx1, hf⟩ := ck_t hf
      obtain ⟨hkc, hf⟩ := ck_t hf
      have hkc := of_decide_eq_true hkc
      have hpw := hW.2.2.2
      have hl : lv_has ls 8 [(6, .int u23.1), (0, .ref (ra Z a34 p0)), (1, .ref (ra Z a34 p1)), (4, .int x4), (5, .int x5)] := lv_sub hl [0, 1, 2, 3, 4] rfl
      obtain ⟨hb, hf⟩ := ck_t hf
      obtain ⟨u36, hu36, hf⟩ := bnd_t hf
      refine z_callrA hW (z_runV C hW hl hb (ci := 11) (fs := fl_J4 Z a34 (u33.2.2 g30.1)) rfl rfl rfl (c_J4_append_15ec4 hu36) cw_X11_65 ci_J4_append_15ec4 cs_J4_append_15ec4 (rm_okP (by decide) (by decide)) (rm_cs (by omega)) (As := [.ref (ra Z a34 q35)]) rfl rfl (Nat.le_of_ble_eq_true rfl) dX11_init_490) (fun a37 H locs hg hW => ?_)
      have e0 := ra_to (Z := Z) hpw hg hx0
      have e1 := ra_to (Z := Z) hpw hg hx1
      rw [← e0] at hl
      rw [← e1] at hl
      rw [← e0]
      have hA := hA.tr hg
      refine W.widen (k := (k + 4)) (n := 600 * (k + 4)) (by omega) (by omega) ?_
      refine z_ldcS (a := a37) C (x := 1000007) (i := 7) rfl ms_X11_112 dX11_init_493 ?_
      obtain ⟨hx0, hf⟩ := ck_t hf
      obtain ⟨hx1, hf⟩ := ck_t hf
      obtain ⟨hkc, hf⟩ := ck_t hf
      have hkc := of_decide_eq_true hkc
      have hpw := hW.2.2.2
      have hl : lv_has ls 8 [(6, .int u23.1), (0, .ref (ra Z a37 p0)), (1, .ref (ra Z a37 p1)), (4, .int x4), (5, .int x5)] := lv_sub hl [0, 1, 2, 3, 4] rfl
      obtain ⟨hb, hf⟩ := ck_t hf
      obtain ⟨u38, hu38, hf⟩ := bnd_t hf
      refine z_callrA hW (z_runV C hW hl hb (ci := 11) (fs := fl_J4 Z a37 (u36.2.2.2 u36.1)) rfl rfl rfl (c_J4_append_15ec4 hu38) cw_X11_65 ci_J4_append_15ec4 cs_J4_append_15ec4 (rm_okP (by decide) (by decide)) (rm_cs (by omega)) (As := [.ref (ra Z a37 1000007)]) rfl rfl (Nat.le_of_ble_eq_true rfl) dX11_init_495) (fun a39 H locs hg hW => ?_)
      have e0 := ra_to (Z := Z) hpw hg hx0
      have e1 := ra_to (Z := Z) hpw hg hx1
      rw [← e0] at hl
      rw [← e1] at hl
      rw [← e0]
      have hA := hA.tr hg
      refine W.widen (k := (k + 5)) (n := 600 * (k + 5)) (by omega) (by omega) ?_
      refine lv_iload C.1 C.2.1 dX11_init_498 (lv_at hl 0 rfl) ?_
      obtain ⟨hx0, hf⟩ := ck_t hf
      obtain ⟨hx1, hf⟩ := ck_t hf
      obtain ⟨hkc, hf⟩ := ck_t hf
      have hkc := of_decide_eq_true hkc
      have hpw := hW.2.2.2
      have hl : lv_has ls 8 [(6, .int u23.1), (0, .ref (ra Z a39 p0)), (1, .ref (ra Z a39 p1)), (4, .int x4), (5, .int x5)] := lv_sub hl [0, 1, 2, 3, 4] rfl
      obtain ⟨hb, hf⟩ := ck_t hf
      obtain ⟨u40, hu40, hf⟩ := bnd_t hf
      refine z_callrA hW (z_runV C hW hl hb (ci := 11) (fs := fl_J4 Z a39 (u38.2.2.2 u38.1)) rfl rfl rfl (c_J4_append_bf812 hu40) cw_X11_100 ci_J4_append_bf812 cs_J4_append_bf812 (rm_okP (by decide) (by decide)) (rm_cs (by omega)) (As := [.int u23.1]) rfl rfl (Nat.le_of_ble_eq_true rfl) dX11_init_500) (fun a41 H locs hg hW => ?_)
      have e0 := ra_to (Z := Z) hpw hg hx0
      have e1 := ra_to (Z := Z) hpw hg hx1
      rw [← e0] at hl
      rw [← e1] at hl
      rw [← e0]
      have hA := hA.tr hg
      refine W.widen (k := (k + 6)) (n := 600 * (k + 6)) (by omega) (by omega) ?_
      refine z_ldcS (a := a41) C (x := 1000006) (i := 6) rfl ms_X11_98 dX11_init_503 ?_
      obtain ⟨hx0, hf⟩ := ck_t hf
      obtain ⟨hx1, hf⟩ := ck_t hf
      obtain ⟨hkc, hf⟩ := ck_t hf
      have hkc := of_decide_eq_true hkc
      have hpw := hW.2.2.2
      have hl : lv_has ls 8 [(6, .int u23.1), (0, .ref (ra Z a41 p0)), (1, .ref (ra Z a41 p1)), (4, .int x4), (5, .int x5)] := lv_sub hl [0, 1, 2, 3, 4] rfl
      obtain ⟨hb, hf⟩ := ck_t hf
      obtain ⟨u42, hu42, hf⟩ := bnd_t hf
      refine z_callrA hW (z_runV C hW hl hb (ci := 11) (fs := fl_J4 Z a41 (u40.2.2.2 u40.1)) rfl rfl rfl (c_J4_append_15ec4 hu42) cw_X11_65 ci_J4_append_15ec4 cs_J4_append_15ec4 (rm_okP (by decide) (by decide)) (rm_cs (by omega)) (As := [.ref (ra Z a41 1000006)]) rfl rfl (Nat.le_of_ble_eq_true rfl) dX11_init_505) (fun a43 H locs hg hW => ?_)
      have e0 := ra_to (Z := Z) hpw hg hx0
      have e1 := ra_to (Z := Z) hpw hg hx1
      rw [← e0] at hl
      rw [← e1] at hl
      rw [← e0]
      have hA := hA.tr hg
      refine W.widen (k := (k + 7)) (n := 600 * (k + 7)) (by omega) (by omega) ?_
      refine lv_aload_n C.1 C.2.1 dX11_init_508 rfl (lv_at hl 1 rfl) ?_
      refine zg_X11_15 C hW hf dX11_init_509 (fun q44 hf => ?_)
      refine lv_aload_n C.1 C.2.1 dX11_init_512 rfl (lv_at hl 1 rfl) ?_
      refine zg_X11_109 C hW hf dX11_init_513 (fun hf => ?_)
      refine z_aald C hW hf dX11_init_516 (fun q45 hf => ?_)
      refine lv_iconst (v := 1) C.1 C.2.1 dX11_init_517 (by decide) ?_
      refine z_iald C hW hf dX11_init_518 (fun hf => ?_)
      obtain ⟨hx0, hf⟩ := ck_t hf
      obtain ⟨hx1, hf⟩ := ck_t hf
      obtain ⟨hkc, hf⟩ := ck_t hf
      have hkc := of_decide_eq_true hkc
      have hpw := hW.2.2.2
      have hl : lv_has ls 8 [(6, .int u23.1), (0, .ref (ra Z a43 p0)), (1, .ref (ra Z a43 p1)), (4, .int x4), (5, .int x5)] := lv_sub hl [0, 1, 2, 3, 4] rfl
      obtain ⟨hb, hf⟩ := ck_t hf
      obtain ⟨u46, hu46, hf⟩ := bnd_t hf
      refine z_callrA hW (z_runV C hW hl hb (ci := 11) (fs := fl_J4 Z a43 (u42.2.2.2 u42.1)) rfl rfl rfl (c_J4_append_bf812 hu46) cw_X11_100 ci_J4_append_bf812 cs_J4_append_bf812 (rm_okP (by decide) (by decide)) (rm_cs (by omega)) (As := [.int (u42.2.2.2 q45 (ix (1 : Int32)))]) rfl rfl (Nat.le_of_ble_eq_true rfl) dX11_init_519) (fun a47 H locs hg hW => ?_)
      have e0 := ra_to (Z := Z) hpw hg hx0
      have e1 := ra_to (Z := Z) hpw hg hx1
      rw [← e0] at hl
      rw [← e1] at hl
      rw [← e0]
      have hA := hA.tr hg
      refine W.widen (k := (k + 8)) (n := 600 * (k + 8)) (by omega) (by omega) ?_
      refine z_ldcS (a := a47) C (x := 1000002) (i := 2) rfl ms_X11_74 dX11_init_522 ?_
      obtain ⟨hx0, hf⟩ := ck_t hf
      obtain ⟨hx1, hf⟩ := ck_t hf
      obtain ⟨hkc, hf⟩ := ck_t hf
      have hkc := of_decide_eq_true hkc
      have hpw := hW.2.2.2
      have hl : lv_has ls 8 [(6, .int u23.1), (0, .ref (ra Z a47 p0)), (1, .ref (ra Z a47 p1)), (4, .int x4), (5, .int x5)] := lv_sub hl [0, 1, 2, 3, 4] rfl
      obtain ⟨hb, hf⟩ := ck_t hf
      obtain ⟨u48, hu48, hf⟩ := bnd_t hf
      refine z_callrA hW (z_runV C hW hl hb (ci := 11) (fs := fl_J4 Z a47 (u46.2.2.2 u46.1)) rfl rfl rfl (c_J4_append_15ec4 hu48) cw_X11_65 ci_J4_append_15ec4 cs_J4_append_15ec4 (rm_okP (by decide) (by decide)) (rm_cs (by omega)) (As := [.ref (ra Z a47 1000002)]) rfl rfl (Nat.le_of_ble_eq_true rfl) dX11_init_524) (fun a49 H locs hg hW => ?_)
      have e0 := ra_to (Z := Z) hpw hg hx0
      have e1 := ra_to (Z := Z) hpw hg hx1
      rw [← e0] at hl
      rw [← e1] at hl
      rw [← e0]
      have hA := hA.tr hg
      refine W.widen (k := (k + 9)) (n := 600 * (k + 9)) (by omega) (by omega) ?_
      obtain ⟨hx0, hf⟩ := ck_t hf
      obtain ⟨hx1, hf⟩ := ck_t hf
      obtain ⟨hkc, hf⟩ := ck_t hf
      have hkc := of_decide_eq_true hkc
      have hpw := hW.2.2.2
      have hl : lv_has ls 8 [(6, .int u23.1), (0, .ref (ra Z a49 p0)), (1, .ref (ra Z a49 p1)), (4, .int x4), (5, .int x5)] := lv_sub hl [0, 1, 2, 3, 4] rfl
      obtain ⟨hb, hf⟩ := ck_t hf
      obtain ⟨u50, hu50, hf⟩ := bnd_t hf
      refine z_callrA hW (z_runV C hW hl hb (ci := 11) (fs := fl_J4 Z a49 (u48.2.2.2 u48.1)) rfl rfl rfl (c_J4_toString_0e30d hu50) cw_X11_76 ci_J4_toString_0e30d cs_J4_toString_0e30d (rm_okP (by decide) (by decide)) (rm_cs (by omega)) (As := []) rfl rfl (Nat.le_of_ble_eq_true rfl) dX11_init_527) (fun a51 H locs hg hW => ?_)
      have e0 := ra_to (Z := Z) hpw hg hx0
      have e1 := ra_to (Z := Z) hpw hg hx1
      rw [← e0] at hl
      rw [← e1] at hl
      rw [← e0]
      have hA := hA.tr hg
      refine W.widen (k := (k + 11)) (n := 600 * (k + 11)) (by omega) (by omega) ?_
      refine zp_X11_45 C hW hf dX11_init_530 (fun g52 H locs hf hgn hW => ?_)
      have hA := hA.w hgn
      refine lv_aload_n C.1 C.2.1 dX11_init_533 rfl (lv_at hl 1 rfl) ?_
      refine lv_dup C.1 C.2.1 dX11_init_534 rfl ?_
      refine zg_X11_109 C hW hf dX11_init_535 (fun hf => ?_)
      refine lv_iconst (v := 1) C.1 C.2.1 dX11_init_538 (by decide) ?_
      refine lv_iadd C.1 C.2.1 dX11_init_539 ?_
      refine zp_X11_109 C hW hf dX11_init_540 (fun g53 H locs hf hgn hW => ?_)
      have hA := hA.w hgn
      refine z_iinc (w := -1) C hf dX11_init_543 hl (k := 4) rfl (by decide) (by decide) (fun v54 => [(5, .int v54), (6, .int u23.1), (0, .ref (ra Z a51 p0)), (1, .ref (ra Z a51 p1)), (4, .int x4)]) (fun _ => rfl) (fun v54 ls hf hl => ?_)
      refine lv_goto (tgt := 432) C.1 C.2.1 dX11_init_546 (by decide) ?_
      obtain ⟨hkb, hf⟩ := ck_t hf
      have hkb := of_decide_eq_true hkb
      exact ih v54 g53 (k + 11) _ ls _ _ hA hkb hW (lv_sub hl [2, 3, 4, 0] rfl) hf
set_option maxRecDepth 20000 in
set_option maxHeartbeats 1000000 in
theorem q_X11_init_412 {l : Launch} {Z : ZT} {h : Hp} {a0 : Nat → Nat} {g0 : PL} {p0 : Nat} {p1 : Nat} {g : PL} {x4 : Int32} {p : Program} {e : Env} {s : State} {m : MethodId} {args : Array Value} {below : List Frame} {meth : Method} {c : Code} (C : CQ p s m args meth c cX11_init RX11 8 none Z) {out : PL} (hin : meth.name = "<init>") {a : Nat → Nat} (hA : AG a0 g0 a g) {ls : Array Slot} {H : Heap} {locs : List Loc} (hW : XG Z h a g s.heap H locs) (hl : lv_has ls 8 [(0, .ref (ra Z a p0)), (1, .ref (ra Z a p1)), (4, .int x4)]) (hf : Jp_X11_init_412 p0 p1 g x4 = some out) : W p l e (rmP 7 372) s m args below meth c H locs 301 (600 * 301) (MQ below (va_Qv (fun (a1 : Nat → Nat) => AG a0 g0 a1 out) (fun a1 => WdP Z h a1 out) (FR Z)) args s 372 (600 * 372) (FR Z)) (F0 m 412 ls []) := by
  rw [Jp_X11_init_412] at hf
  refine lv_aload_n C.1 C.2.1 dX11_init_412 rfl (lv_at hl 0 rfl) ?_
  refine lv_iload C.1 C.2.1 dX11_init_413 (lv_at hl 2 rfl) ?_
  refine lv_aload_n C.1 C.2.1 dX11_init_415 rfl (lv_at hl 1 rfl) ?_
  refine lv_bipush (v := 9) C.1 C.2.1 dX11_init_416 (by decide) ?_
  obtain ⟨hb, hf⟩ := ck_t hf
  obtain ⟨u55, hu55, hf⟩ := bnd_t hf
  obtain ⟨hgn, hf⟩ := ck_t hf
  have hgn := of_decide_eq_true hgn
  refine z_calli hW (z_runV C hW hl hb (ci := 10) (fs := fl_X12 Z a (g.2.2 p1)) rfl rfl rfl (c_X12_next hu55) cw_X11_49 ci_X12_next cs_X12_next (rm_okP (by decide) (by decide)) (rm_cs (by decide)) (As := [.int (9 : Int32)]) rfl rfl (Nat.le_of_ble_eq_true rfl) dX11_init_418) (fun H locs hW => ?_)
  refine W.widen (k := 301) (n := 600 * 301) (by omega) (by omega) ?_
  have hA := hA.w hgn
  refine lv_iadd C.1 C.2.1 dX11_init_421 ?_
  refine zp_X11_106 C hW hin hf dX11_init_422 (fun g56 H locs hf hgn hW => ?_)
  have hA := hA.w hgn
  refine lv_aload_n C.1 C.2.1 dX11_init_425 rfl (lv_at hl 1 rfl) ?_
  refine lv_iconst (v := 4) C.1 C.2.1 dX11_init_426 (by decide) ?_
  obtain ⟨hb, hf⟩ := ck_t hf
  obtain ⟨u57, hu57, hf⟩ := bnd_t hf
  obtain ⟨hgn, hf⟩ := ck_t hf
  have hgn := of_decide_eq_true hgn
  refine z_calli hW (z_runV C hW hl hb (ci := 10) (fs := fl_X12 Z a (g56.2.2 p1)) rfl rfl rfl (c_X12_next hu57) cw_X11_49 ci_X12_next cs_X12_next (rm_okP (by decide) (by decide)) (rm_cs (by decide)) (As := [.int (4 : Int32)]) rfl rfl (Nat.le_of_ble_eq_true rfl) dX11_init_427) (fun H locs hW => ?_)
  refine W.widen (k := 301) (n := 600 * 301) (by omega) (by omega) ?_
  have hA := hA.w hgn
  refine lv_istore (lv' := [(5, .int u57.1), (0, .ref (ra Z a p0)), (1, .ref (ra Z a p1)), (4, .int x4)]) C.1 C.2.1 dX11_init_430 hl (by decide) rfl (fun ls hl => ?_)
  exact l_X11_init_432 C hin FU u57.1 u57.2 301 _ ls _ _ hA (by decide) hW (lv_sub hl [1, 2, 3, 0] rfl) hf
set_option maxRecDepth 20000 in
set_option maxHeartbeats 1000000 in
theorem l_X11_init_381 {l : Launch} {Z : ZT} {h : Hp} {a0 : Nat → Nat} {g0 : PL} {p0 : Nat} {p1 : Nat} {g : PL} {p : Program} {e : Env} {s : State} {m : MethodId} {args : Array Value} {below : List Frame} {meth : Method} {c : Code} (C : CQ p s m args meth c cX11_init RX11 8 none Z) {out : PL} (hin : meth.name = "<init>") : ∀ (n : Nat) (x4 : Int32) (x5 : Int32) (a : Nat → Nat) (ls : Array Slot) (H : Heap) (locs : List Loc), AG a0 g0 a g → XG Z h a g s.heap H locs → lv_has ls 8 [(0, .ref (ra Z a p0)), (1, .ref (ra Z a p1)), (4, .int x4), (5, .int x5)] → Lp (Fp_X11_init_381 p0 p1 g) n (x4, x5) = some out → W p l e (rmP 7 372) s m args below meth c H locs 301 (600 * 301) (MQ below (va_Qv (fun (a1 : Nat → Nat) => AG a0 g0 a1 out) (fun a1 => WdP Z h a1 out) (FR Z)) args s 372 (600 * 372) (FR Z)) (F0 m 381 ls []) := by
  intro n
  induction n with
  | zero => intro x4 x5 a ls H locs hA hW hl hf; cases hf
  | succ n ih =>
    intro x4 x5 a ls H locs hA hW hl hf
    rw [Lp_s] at hf
    rw [Fp_X11_init_381] at hf
    try dsimp only at hf
    refine lv_iload C.1 C.2.1 dX11_init_381 (lv_at hl 3 rfl) ?_
    refine lv_aload_n C.1 C.2.1 dX11_init_383 rfl (lv_at hl 0 rfl) ?_
    refine zg_X11_103 C hW hf dX11_init_384 (fun hf => ?_)
    refine z_cmpge (tgt := 412) C hf dX11_init_387 (by decide) (fun hf => ?_) (fun hf => ?_)
    · exact q_X11_init_412 C hin hA hW (lv_sub hl [0, 1, 2] rfl) hf
    · refine lv_iload C.1 C.2.1 dX11_init_390 (lv_at hl 2 rfl) ?_
      refine lv_aload_n C.1 C.2.1 dX11_init_392 rfl (lv_at hl 0 rfl) ?_
      refine zg_X11_9 C hW hf dX11_init_393 (fun q58 hf => ?_)
      refine lv_iload C.1 C.2.1 dX11_init_396 (lv_at hl 3 rfl) ?_
      refine z_aald C hW hf dX11_init_398 (fun q59 hf => ?_)
      refine lv_iconst (v := 3) C.1 C.2.1 dX11_init_399 (by decide) ?_
      refine z_iald C hW hf dX11_init_400 (fun hf => ?_)
      refine z_max C hl (ml_X11_80) (rm_m (by decide)) (rm_c0 (by decide)) (Nat.le_of_ble_eq_true rfl) dX11_init_401 ?_
      refine z_ist C hf dX11_init_404 hl (by decide) (fun v60 => [(4, .int v60), (0, .ref (ra Z a p0)), (1, .ref (ra Z a p1)), (5, .int x5)]) (fun _ => rfl) (fun v60 ls hf hl => ?_)
      refine z_iinc (w := 1) C hf dX11_init_406 hl (k := 3) rfl (by decide) (by decide) (fun v61 => [(5, .int v61), (4, .int v60), (0, .ref (ra Z a p0)), (1, .ref (ra Z a p1))]) (fun _ => rfl) (fun v61 ls hf hl => ?_)
      refine lv_goto (tgt := 381) C.1 C.2.1 dX11_init_409 (by decide) ?_
      exact ih v60 v61 _ ls _ _ hA hW (lv_sub hl [2, 3, 1, 0] rfl) hf
set_option maxRecDepth 20000 in
set_option maxHeartbeats 1000000 in
theorem q_X11_init_375 {l : Launch} {Z : ZT} {h : Hp} {a0 : Nat → Nat} {g0 : PL} {p0 : Nat} {p1 : Nat} {g : PL} {p : Program} {e : Env} {s : State} {m : MethodId} {args : Array Value} {below : List Frame} {meth : Method} {c : Code} (C : CQ p s m args meth c cX11_init RX11 8 none Z) {out : PL} (hin : meth.name = "<init>") {a : Nat → Nat} (hA : AG a0 g0 a g) {ls : Array Slot} {H : Heap} {locs : List Loc} (hW : XG Z h a g s.heap H locs) (hl : lv_has ls 8 [(0, .ref (ra Z a p0)), (1, .ref (ra Z a p1))]) (hf : Jp_X11_init_375 p0 p1 g = some out) : W p l e (rmP 7 372) s m args below meth c H locs 301 (600 * 301) (MQ below (va_Qv (fun (a1 : Nat → Nat) => AG a0 g0 a1 out) (fun a1 => WdP Z h a1 out) (FR Z)) args s 372 (600 * 372) (FR Z)) (F0 m 375 ls []) := by
  refine lv_iconst (v := 0) C.1 C.2.1 dX11_init_375 (by decide) ?_
  refine lv_istore (lv' := [(4, .int (0 : Int32)), (0, .ref (ra Z a p0)), (1, .ref (ra Z a p1))]) C.1 C.2.1 dX11_init_376 hl (by decide) rfl (fun ls hl => ?_)
  refine lv_iconst (v := 0) C.1 C.2.1 dX11_init_378 (by decide) ?_
  refine lv_istore (lv' := [(5, .int (0 : Int32)), (4, .int (0 : Int32)), (0, .ref (ra Z a p0)), (1, .ref (ra Z a p1))]) C.1 C.2.1 dX11_init_379 hl (by decide) rfl (fun ls hl => ?_)
  exact l_X11_init_381 C hin FU (0 : Int32) (0 : Int32) _ ls _ _ hA hW (lv_sub hl [2, 3, 1, 0] rfl) hf
set_option maxRecDepth 20000 in
set_option maxHeartbeats 1000000 in
theorem l_X11_init_183 {l : Launch} {Z : ZT} {h : Hp} {a0 : Nat → Nat} {g0 : PL} {p0 : Nat} {p1 : Nat} {x2 : Nat} {p : Program} {e : Env} {s : State} {m : MethodId} {args : Array Value} {below : List Frame} {meth : Method} {c : Code} (C : CQ p s m args meth c cX11_init RX11 8 none Z) {out : PL} (hin : meth.name = "<init>") : ∀ (n : Nat) (x3 : Int32) (x4 : Int32) (g : PL) (k : Nat) (a : Nat → Nat) (ls : Array Slot) (H : Heap) (locs : List Loc), AG a0 g0 a g → k ≤ 301 → XG Z h a g s.heap H locs → lv_has ls 8 [(0, .ref (ra Z a p0)), (1, .ref (ra Z a p1)), (2, .ref (ra Z a x2)), (3, .int x3), (4, .int x4)] → Lp (Fp_X11_init_183 p0 p1 x2) n (x3, x4, g, k) = some out → W p l e (rmP 7 372) s m args below meth c H locs k (600 * k) (MQ below (va_Qv (fun (a1 : Nat → Nat) => AG a0 g0 a1 out) (fun a1 => WdP Z h a1 out) (FR Z)) args s 372 (600 * 372) (FR Z)) (F0 m 183 ls []) := by
  intro n
  induction n with
  | zero => intro x3 x4 g k a ls H locs hA hk hW hl hf; cases hf
  | succ n ih =>
    intro x3 x4 g k a ls H locs hA hk hW hl hf
    rw [Lp_s] at hf
    refine lv_iload C.1 C.2.1 dX11_init_183 (lv_at hl 4 rfl) ?_
    refine z_ifle (tgt := 375) C hf dX11_init_185 (by decide) (fun hf => ?_) (fun hf => ?_)
    · refine W.widen (k := 301) (n := 600 * 301) (by omega) (by omega) ?_
      exact q_X11_init_375 C hin hA hW (lv_sub hl [0, 1] rfl) hf
    · refine lv_aload_n C.1 C.2.1 dX11_init_188 rfl (lv_at hl 1 rfl) ?_
      refine lv_aload_n C.1 C.2.1 dX11_init_189 rfl (lv_at hl 0 rfl) ?_
      refine zg_X11_59 C hW hf dX11_init_190 (fun hf => ?_)
      obtain ⟨hb, hf⟩ := ck_t hf
      obtain ⟨u62, hu62, hf⟩ := bnd_t hf
      obtain ⟨hgn, hf⟩ := ck_t hf
      have hgn := of_decide_eq_true hgn
      refine z_calli hW (z_runV C hW hl hb (ci := 10) (fs := fl_X12 Z a (g.2.2 p1)) rfl rfl rfl (c_X12_next hu62) cw_X11_49 ci_X12_next cs_X12_next (rm_okP (by decide) (by decide)) (rm_cs (by omega)) (As := [.int (g.2.2 p0 2)]) rfl rfl (Nat.le_of_ble_eq_true rfl) dX11_init_193) (fun H locs hW => ?_)
      refine W.widen (k := k) (n := 600 * k) (by omega) (by omega) ?_
      have hA := hA.w hgn
      refine lv_istore (lv' := [(5, .int u62.1), (0, .ref (ra Z a p0)), (1, .ref (ra Z a p1)), (2, .ref (ra Z a x2)), (3, .int x3), (4, .int x4)]) C.1 C.2.1 dX11_init_196 hl (by decide) rfl (fun ls hl => ?_)
      refine lv_aload_n C.1 C.2.1 dX11_init_198 rfl (lv_at hl 3 rfl) ?_
      refine lv_iload C.1 C.2.1 dX11_init_199 (lv_at hl 0 rfl) ?_
      refine z_iald C hW hf dX11_init_201 (fun hf => ?_)
      refine lv_iload_n C.1 C.2.1 dX11_init_202 rfl (lv_at hl 4 rfl) ?_
      refine lv_aload_n C.1 C.2.1 dX11_init_203 rfl (lv_at hl 2 rfl) ?_
      refine lv_bipush (v := 12) C.1 C.2.1 dX11_init_204 (by decide) ?_
      obtain ⟨hb, hf⟩ := ck_t hf
      obtain ⟨u63, hu63, hf⟩ := bnd_t hf
      obtain ⟨hgn, hf⟩ := ck_t hf
      have hgn := of_decide_eq_true hgn
      refine z_calli hW (z_runV C hW hl hb (ci := 10) (fs := fl_X12 Z a (u62.2.2.2 p1)) rfl rfl rfl (c_X12_next hu63) cw_X11_49 ci_X12_next cs_X12_next (rm_okP (by decide) (by decide)) (rm_cs (by omega)) (As := [.int (12 : Int32)]) rfl rfl (Nat.le_of_ble_eq_true rfl) dX11_init_206) (fun H locs hW => ?_)
      refine W.widen (k := k) (n := 600 * k) (by omega) (by omega) ?_
      have hA := hA.w hgn
      refine lv_iadd C.1 C.2.1 dX11_init_209 ?_
      refine z_max C hl (ml_X11_80) (rm_m (by decide)) (rm_c0 (by omega)) (Nat.le_of_ble_eq_true rfl) dX11_init_210 ?_
      refine z_ist C hf dX11_init_213 hl (by decide) (fun v64 => [(6, .int v64), (5, .int u62.1), (0, .ref (ra Z a p0)), (1, .ref (ra Z a p1)), (2, .ref (ra Z a x2)), (3, .int x3), (4, .int x4)]) (fun _ => rfl) (fun v64 ls hf hl => ?_)
      refine lv_iload C.1 C.2.1 dX11_init_215 (lv_at hl 0 rfl) ?_
      refine lv_iconst (v := 1) C.1 C.2.1 dX11_init_217 (by decide) ?_
      refine lv_iadd C.1 C.2.1 dX11_init_218 ?_
      refine lv_aload_n C.1 C.2.1 dX11_init_219 rfl (lv_at hl 3 rfl) ?_
      refine lv_bipush (v := 9) C.1 C.2.1 dX11_init_220 (by decide) ?_
      obtain ⟨hb, hf⟩ := ck_t hf
      obtain ⟨u65, hu65, hf⟩ := bnd_t hf
      obtain ⟨hgn, hf⟩ := ck_t hf
      have hgn := of_decide_eq_true hgn
      refine z_calli hW (z_runV C hW hl hb (ci := 10) (fs := fl_X12 Z a (u63.2.2.2 p1)) rfl rfl rfl (c_X12_next hu65) cw_X11_49 ci_X12_next cs_X12_next (rm_okP (by decide) (by decide)) (rm_cs (by omega)) (As := [.int (9 : Int32)]) rfl rfl (Nat.le_of_ble_eq_true rfl) dX11_init_222) (fun H locs hW => ?_)
      refine W.widen (k := k) (n := 600 * k) (by omega) (by omega) ?_
      have hA := hA.w hgn
      refine lv_iadd C.1 C.2.1 dX11_init_225 ?_
      refine z_ist C hf dX11_init_226 hl (by decide) (fun v66 => [(7, .int v66), (6, .int v64), (5, .int u62.1), (0, .ref (ra Z a p0)), (1, .ref (ra Z a p1)), (2, .ref (ra Z a x2)), (3, .int x3), (4, .int x4)]) (fun _ => rfl) (fun v66 ls hf hl => ?_)
      refine lv_aload_n C.1 C.2.1 dX11_init_228 rfl (lv_at hl 3 rfl) ?_
      refine lv_iconst (v := 5) C.1 C.2.1 dX11_init_229 (by decide) ?_
      obtain ⟨hx0, hf⟩ := ck_t hf
      obtain ⟨hx1, hf⟩ := ck_t hf
      obtain ⟨hx2, hf⟩ := ck_t hf
      obtain ⟨hkc, hf⟩ := ck_t hf
      have hkc := of_decide_eq_true hkc
      have hpw := hW.2.2.2
      have hl : lv_has ls 8 [(7, .int v66), (6, .int v64), (5, .int u62.1), (0, .ref (ra Z a p0)), (1, .ref (ra Z a p1)), (2, .ref (ra Z a x2)), (3, .int x3), (4, .int x4)] := lv_sub hl [0, 1, 2, 3, 4, 5, 6, 7] rfl
      refine z_newI C hW ac_int hf ⟨by show _ + 1 ≤ 372; omega, by show _ + 600 ≤ 600 * 372; omega⟩ dX11_init_230 (fun a68 g67 H hf hg hW => ?_)
      have e0 := ra_to (Z := Z) hpw hg hx0
      have e1 := ra_to (Z := Z) hpw hg hx1
      have e2 := ra_to (Z := Z) hpw hg hx2
      rw [← e0] at hl
      rw [← e1] at hl
      rw [← e2] at hl
      rw [← e0]
      have hA := hA.tr hg
      refine W.widen (k := (k + 1)) (n := 600 * (k + 1)) (by omega) (by omega) ?_
      refine lv_dup C.1 C.2.1 dX11_init_232 rfl ?_
      refine lv_iconst (v := 0) C.1 C.2.1 dX11_init_233 (by decide) ?_
      refine lv_iload C.1 C.2.1 dX11_init_234 (lv_at hl 2 rfl) ?_
      refine z_iast C hW hf dX11_init_236 (fun g69 H locs hf hgn hW => ?_)
      have hA := hA.w (show g69.1 = g67.1 from (congrArg (fun q : PL => q.1) hgn).trans rfl)
      refine lv_dup C.1 C.2.1 dX11_init_237 rfl ?_
      refine lv_iconst (v := 1) C.1 C.2.1 dX11_init_238 (by decide) ?_
      refine lv_aload_n C.1 C.2.1 dX11_init_239 rfl (lv_at hl 4 rfl) ?_
      refine lv_iconst (v := 3) C.1 C.2.1 dX11_init_240 (by decide) ?_
      obtain ⟨hb, hf⟩ := ck_t hf
      obtain ⟨u70, hu70, hf⟩ := bnd_t hf
      obtain ⟨hgn, hf⟩ := ck_t hf
      have hgn := of_decide_eq_true hgn
      refine z_calli hW (z_runV C hW hl hb (ci := 10) (fs := fl_X12 Z a68 (g69.2.2 p1)) rfl rfl rfl (c_X12_next hu70) cw_X11_49 ci_X12_next cs_X12_next (rm_okP (by decide) (by decide)) (rm_cs (by omega)) (As := [.int (3 : Int32)]) rfl rfl (Nat.le_of_ble_eq_true rfl) dX11_init_241) (fun H locs hW => ?_)
      refine W.widen (k := (k + 1)) (n := 600 * (k + 1)) (by omega) (by omega) ?_
      have hA := hA.w hgn
      refine z_iast C hW hf dX11_init_244 (fun g71 H locs hf hgn hW => ?_)
      have hA := hA.w (show g71.1 = u70.2.1 from (congrArg (fun q : PL => q.1) hgn).trans rfl)
      refine lv_dup C.1 C.2.1 dX11_init_245 rfl ?_
      refine lv_iconst (v := 2) C.1 C.2.1 dX11_init_246 (by decide) ?_
      refine lv_iload C.1 C.2.1 dX11_init_247 (lv_at hl 1 rfl) ?_
      refine z_iast C hW hf dX11_init_249 (fun g72 H locs hf hgn hW => ?_)
      have hA := hA.w (show g72.1 = g71.1 from (congrArg (fun q : PL => q.1) hgn).trans rfl)
      refine lv_dup C.1 C.2.1 dX11_init_250 rfl ?_
      refine lv_iconst (v := 3) C.1 C.2.1 dX11_init_251 (by decide) ?_
      refine lv_iload C.1 C.2.1 dX11_init_252 (lv_at hl 0 rfl) ?_
      refine z_iast C hW hf dX11_init_254 (fun g73 H locs hf hgn hW => ?_)
      have hA := hA.w (show g73.1 = g72.1 from (congrArg (fun q : PL => q.1) hgn).trans rfl)
      refine lv_dup C.1 C.2.1 dX11_init_255 rfl ?_
      refine lv_iconst (v := 4) C.1 C.2.1 dX11_init_256 (by decide) ?_
      refine lv_iconst (v := 0) C.1 C.2.1 dX11_init_257 (by decide) ?_
      refine z_iast C hW hf dX11_init_258 (fun g74 H locs hf hgn hW => ?_)
      have hA := hA.w (show g74.1 = g73.1 from (congrArg (fun q : PL => q.1) hgn).trans rfl)
      obtain ⟨hb, hf⟩ := ck_t hf
      obtain ⟨u75, hu75, hf⟩ := bnd_t hf
      obtain ⟨hgn, hf⟩ := ck_t hf
      have hgn := of_decide_eq_true hgn
      refine z_callv hW (z_runV C hW hl hb (ci := 9) (fs := fl_X11 Z a68 (g74.2.2 p0)) rfl rfl rfl (c_X11_putWord hu75) cw_X11_86 ci_X11_putWord cs_X11_putWord (rm_okP (by decide) (by decide)) (rm_cs (by omega)) (As := [.ref (ra Z a68 u65.2.1)]) rfl rfl (Nat.le_of_ble_eq_true rfl) dX11_init_259) (fun H locs hW => ?_)
      refine W.widen (k := (k + 1)) (n := 600 * (k + 1)) (by omega) (by omega) ?_
      have hA := hA.w hgn
      refine lv_aload_n C.1 C.2.1 dX11_init_262 rfl (lv_at hl 5 rfl) ?_
      refine lv_iload C.1 C.2.1 dX11_init_263 (lv_at hl 2 rfl) ?_
      refine lv_iload C.1 C.2.1 dX11_init_265 (lv_at hl 0 rfl) ?_
      refine lv_aload_n C.1 C.2.1 dX11_init_267 rfl (lv_at hl 4 rfl) ?_
      refine lv_iconst (v := 2) C.1 C.2.1 dX11_init_268 (by decide) ?_
      obtain ⟨hb, hf⟩ := ck_t hf
      obtain ⟨u76, hu76, hf⟩ := bnd_t hf
      obtain ⟨hgn, hf⟩ := ck_t hf
      have hgn := of_decide_eq_true hgn
      refine z_calli hW (z_runV C hW hl hb (ci := 10) (fs := fl_X12 Z a68 (u75.2.2 p1)) rfl rfl rfl (c_X12_next hu76) cw_X11_49 ci_X12_next cs_X12_next (rm_okP (by decide) (by decide)) (rm_cs (by omega)) (As := [.int (2 : Int32)]) rfl rfl (Nat.le_of_ble_eq_true rfl) dX11_init_269) (fun H locs hW => ?_)
      refine W.widen (k := (k + 1)) (n := 600 * (k + 1)) (by omega) (by omega) ?_
      have hA := hA.w hgn
      refine lv_iadd C.1 C.2.1 dX11_init_272 ?_
      refine z_iast C hW hf dX11_init_273 (fun g77 H locs hf hgn hW => ?_)
      have hA := hA.w (show g77.1 = u76.2.1 from (congrArg (fun q : PL => q.1) hgn).trans rfl)
      refine lv_iload_n C.1 C.2.1 dX11_init_274 rfl (lv_at hl 6 rfl) ?_
      refine lv_iload C.1 C.2.1 dX11_init_275 (lv_at hl 1 rfl) ?_
      refine lv_aload_n C.1 C.2.1 dX11_init_277 rfl (lv_at hl 4 rfl) ?_
      refine lv_iconst (v := 4) C.1 C.2.1 dX11_init_278 (by decide) ?_
      obtain ⟨hb, hf⟩ := ck_t hf
      obtain ⟨u78, hu78, hf⟩ := bnd_t hf
      obtain ⟨hgn, hf⟩ := ck_t hf
      have hgn := of_decide_eq_true hgn
      refine z_calli hW (z_runV C hW hl hb (ci := 10) (fs := fl_X12 Z a68 (g77.2.2 p1)) rfl rfl rfl (c_X12_next hu78) cw_X11_49 ci_X12_next cs_X12_next (rm_okP (by decide) (by decide)) (rm_cs (by omega)) (As := [.int (4 : Int32)]) rfl rfl (Nat.le_of_ble_eq_true rfl) dX11_init_279) (fun H locs hW => ?_)
      refine W.widen (k := (k + 1)) (n := 600 * (k + 1)) (by omega) (by omega) ?_
      have hA := hA.w hgn
      refine lv_isub C.1 C.2.1 dX11_init_282 ?_
      refine z_max C hl (ml_X11_80) (rm_m (by decide)) (rm_c0 (by omega)) (Nat.le_of_ble_eq_true rfl) dX11_init_283 ?_
      refine z_istn C hf dX11_init_286 rfl hl (by decide) (fun v79 => [(3, .int v79), (7, .int v66), (6, .int v64), (5, .int u62.1), (0, .ref (ra Z a68 p0)), (1, .ref (ra Z a68 p1)), (2, .ref (ra Z a68 x2)), (4, .int x4)]) (fun _ => rfl) (fun v79 ls hf hl => ?_)
      refine lv_aload_n C.1 C.2.1 dX11_init_287 rfl (lv_at hl 4 rfl) ?_
      obtain ⟨hx0, hf⟩ := ck_t hf
      obtain ⟨hx1, hf⟩ := ck_t hf
      obtain ⟨hx2, hf⟩ := ck_t hf
      obtain ⟨hkc, hf⟩ := ck_t hf
      have hkc := of_decide_eq_true hkc
      have hpw := hW.2.2.2
      have hl : lv_has ls 8 [(3, .int v79), (7, .int v66), (6, .int v64), (5, .int u62.1), (0, .ref (ra Z a68 p0)), (1, .ref (ra Z a68 p1)), (2, .ref (ra Z a68 x2)), (4, .int x4)] := lv_sub hl [0, 1, 2, 3, 4, 5, 6, 7] rfl
      refine z_newo C hW (kd := 2) (ci := 11) (fs := nf_J4) rfl wsJ4_in tyJ4 tyJ4_ok df_J4 cl_X11_62 in_J4 iz_J4 (by decide) (by decide) ne_J4 hf ⟨by show _ + 1 ≤ 372; omega, by show _ + 600 ≤ 600 * 372; omega⟩ dX11_init_288 (fun a81 g80 H hf hg hW => ?_)
      have e0 := ra_to (Z := Z) hpw hg hx0
      have e1 := ra_to (Z := Z) hpw hg hx1
      have e2 := ra_to (Z := Z) hpw hg hx2
      rw [← e0] at hl
      rw [← e1] at hl
      rw [← e2] at hl
      rw [← e0]
      have hA := hA.tr hg
      refine W.widen (k := (k + 2)) (n := 600 * (k + 2)) (by omega) (by omega) ?_
      refine lv_dup C.1 C.2.1 dX11_init_291 rfl ?_
      obtain ⟨hx0, hf⟩ := ck_t hf
      obtain ⟨hx1, hf⟩ := ck_t hf
      obtain ⟨hx2, hf⟩ := ck_t hf
      obtain ⟨hx3, hf⟩ := ck_t hf
      obtain ⟨hkc, hf⟩ := ck_t hf
      have hkc := of_decide_eq_true hkc
      have hpw := hW.2.2.2
      have hl : lv_has ls 8 [(3, .int v79), (7, .int v66), (6, .int v64), (5, .int u62.1), (0, .ref (ra Z a81 p0)), (1, .ref (ra Z a81 p1)), (2, .ref (ra Z a81 x2)), (4, .int x4)] := lv_sub hl [0, 1, 2, 3, 4, 5, 6, 7] rfl
      obtain ⟨u82, hu82, hf⟩ := bnd_t hf
      refine z_callvA hW (z_runI C hW hl (c_J4_init_da8c8 hu82) cw_X11_64 ci_J4_init_da8c8 rfl (rm_okP (by decide) (by decide)) (rm_cs (by omega)) (As := []) rfl rfl (Nat.le_of_ble_eq_true rfl) dX11_init_292) (fun a83 H locs hg hW => ?_)
      have e0 := ra_to (Z := Z) hpw hg hx0
      have e1 := ra_to (Z := Z) hpw hg hx1
      have e2 := ra_to (Z := Z) hpw hg hx2
      have e3 := ra_to (Z := Z) hpw hg hx3
      rw [← e0] at hl
      rw [← e1] at hl
      rw [← e2] at hl
      rw [← e0]
      rw [← e3]
      have hA := hA.tr hg
      refine W.widen (k := (k + 3)) (n := 600 * (k + 3)) (by omega) (by omega) ?_
      refine lv_aload_n C.1 C.2.1 dX11_init_295 rfl (lv_at hl 4 rfl) ?_
      refine zg_X11_45 C hW hf dX11_init_296 (fun q84 hf => ?_)
      obtain ⟨hx0, hf⟩ := ck_t hf
      obtain ⟨hx1, hf⟩ := ck_t hf
      obtain ⟨hx2, hf⟩ := ck_t hf
      obtain ⟨hkc, hf⟩ := ck_t hf
      have hkc := of_decide_eq_true hkc
      have hpw := hW.2.2.2
      have hl : lv_has ls 8 [(3, .int v79), (7, .int v66), (6, .int v64), (5, .int u62.1), (0, .ref (ra Z a83 p0)), (1, .ref (ra Z a83 p1)), (2, .ref (ra Z a83 x2)), (4, .int x4)] := lv_sub hl [0, 1, 2, 3, 4, 5, 6, 7] rfl
      obtain ⟨hb, hf⟩ := ck_t hf
      obtain ⟨u85, hu85, hf⟩ := bnd_t hf
      refine z_callrA hW (z_runV C hW hl hb (ci := 11) (fs := fl_J4 Z a83 (u82.2.2 u78.2.1)) rfl rfl rfl (c_J4_append_15ec4 hu85) cw_X11_65 ci_J4_append_15ec4 cs_J4_append_15ec4 (rm_okP (by decide) (by decide)) (rm_cs (by omega)) (As := [.ref (ra Z a83 q84)]) rfl rfl (Nat.le_of_ble_eq_true rfl) dX11_init_299) (fun a86 H locs hg hW => ?_)
      have e0 := ra_to (Z := Z) hpw hg hx0
      have e1 := ra_to (Z := Z) hpw hg hx1
      have e2 := ra_to (Z := Z) hpw hg hx2
      rw [← e0] at hl
      rw [← e1] at hl
      rw [← e2] at hl
      rw [← e0]
      have hA := hA.tr hg
      refine W.widen (k := (k + 4)) (n := 600 * (k + 4)) (by omega) (by omega) ?_
      refine z_ldcS (a := a86) C (x := 1000004) (i := 4) rfl ms_X11_90 dX11_init_302 ?_
      obtain ⟨hx0, hf⟩ := ck_t hf
      obtain ⟨hx1, hf⟩ := ck_t hf
      obtain ⟨hx2, hf⟩ := ck_t hf
      obtain ⟨hkc, hf⟩ := ck_t hf
      have hkc := of_decide_eq_true hkc
      have hpw := hW.2.2.2
      have hl : lv_has ls 8 [(3, .int v79), (7, .int v66), (6, .int v64), (5, .int u62.1), (0, .ref (ra Z a86 p0)), (1, .ref (ra Z a86 p1)), (2, .ref (ra Z a86 x2)), (4, .int x4)] := lv_sub hl [0, 1, 2, 3, 4, 5, 6, 7] rfl
      obtain ⟨hb, hf⟩ := ck_t hf
      obtain ⟨u87, hu87, hf⟩ := bnd_t hf
      refine z_callrA hW (z_runV C hW hl hb (ci := 11) (fs := fl_J4 Z a86 (u85.2.2.2 u85.1)) rfl rfl rfl (c_J4_append_15ec4 hu87) cw_X11_65 ci_J4_append_15ec4 cs_J4_append_15ec4 (rm_okP (by decide) (by decide)) (rm_cs (by omega)) (As := [.ref (ra Z a86 1000004)]) rfl rfl (Nat.le_of_ble_eq_true rfl) dX11_init_304) (fun a88 H locs hg hW => ?_)
      have e0 := ra_to (Z := Z) hpw hg hx0
      have e1 := ra_to (Z := Z) hpw hg hx1
      have e2 := ra_to (Z := Z) hpw hg hx2
      rw [← e0] at hl
      rw [← e1] at hl
      rw [← e2] at hl
      rw [← e0]
      have hA := hA.tr hg
      refine W.widen (k := (k + 5)) (n := 600 * (k + 5)) (by omega) (by omega) ?_
      refine lv_bipush (v := 97) C.1 C.2.1 dX11_init_307 (by decide) ?_
      refine lv_iload C.1 C.2.1 dX11_init_309 (lv_at hl 3 rfl) ?_
      refine lv_iadd C.1 C.2.1 dX11_init_311 ?_
      refine lv_i2c (v := i2c ((97 : Int32) + u62.1)) C.1 C.2.1 dX11_init_312 rfl ?_
      obtain ⟨hx0, hf⟩ := ck_t hf
      obtain ⟨hx1, hf⟩ := ck_t hf
      obtain ⟨hx2, hf⟩ := ck_t hf
      obtain ⟨hkc, hf⟩ := ck_t hf
      have hkc := of_decide_eq_true hkc
      have hpw := hW.2.2.2
      have hl : lv_has ls 8 [(3, .int v79), (7, .int v66), (6, .int v64), (5, .int u62.1), (0, .ref (ra Z a88 p0)), (1, .ref (ra Z a88 p1)), (2, .ref (ra Z a88 x2)), (4, .int x4)] := lv_sub hl [0, 1, 2, 3, 4, 5, 6, 7] rfl
      obtain ⟨hb, hf⟩ := ck_t hf
      obtain ⟨u89, hu89, hf⟩ := bnd_t hf
      refine z_callrA hW (z_runV C hW hl hb (ci := 11) (fs := fl_J4 Z a88 (u87.2.2.2 u87.1)) rfl rfl rfl (c_J4_append_cf468 hu89) cw_X11_71 ci_J4_append_cf468 cs_J4_append_cf468 (rm_okP (by decide) (by decide)) (rm_cs (by omega)) (As := [.int (i2c ((97 : Int32) + u62.1))]) rfl rfl (Nat.le_of_ble_eq_true rfl) dX11_init_313) (fun a90 H locs hg hW => ?_)
      have e0 := ra_to (Z := Z) hpw hg hx0
      have e1 := ra_to (Z := Z) hpw hg hx1
      have e2 := ra_to (Z := Z) hpw hg hx2
      rw [← e0] at hl
      rw [← e1] at hl
      rw [← e2] at hl
      rw [← e0]
      have hA := hA.tr hg
      refine W.widen (k := (k + 6)) (n := 600 * (k + 6)) (by omega) (by omega) ?_
      refine z_ldcS (a := a90) C (x := 1000005) (i := 5) rfl ms_X11_92 dX11_init_316 ?_
      obtain ⟨hx0, hf⟩ := ck_t hf
      obtain ⟨hx1, hf⟩ := ck_t hf
      obtain ⟨hx2, hf⟩ := ck_t hf
      obtain ⟨hkc, hf⟩ := ck_t hf
      have hkc := of_decide_eq_true hkc
      have hpw := hW.2.2.2
      have hl : lv_has ls 8 [(3, .int v79), (7, .int v66), (6, .int v64), (5, .int u62.1), (0, .ref (ra Z a90 p0)), (1, .ref (ra Z a90 p1)), (2, .ref (ra Z a90 x2)), (4, .int x4)] := lv_sub hl [0, 1, 2, 3, 4, 5, 6, 7] rfl
      obtain ⟨hb, hf⟩ := ck_t hf
      obtain ⟨u91, hu91, hf⟩ := bnd_t hf
      refine z_callrA hW (z_runV C hW hl hb (ci := 11) (fs := fl_J4 Z a90 (u89.2.2.2 u89.1)) rfl rfl rfl (c_J4_append_15ec4 hu91) cw_X11_65 ci_J4_append_15ec4 cs_J4_append_15ec4 (rm_okP (by decide) (by decide)) (rm_cs (by omega)) (As := [.ref (ra Z a90 1000005)]) rfl rfl (Nat.le_of_ble_eq_true rfl) dX11_init_318) (fun a92 H locs hg hW => ?_)
      have e0 := ra_to (Z := Z) hpw hg hx0
      have e1 := ra_to (Z := Z) hpw hg hx1
      have e2 := ra_to (Z := Z) hpw hg hx2
      rw [← e0] at hl
      rw [← e1] at hl
      rw [← e2] at hl
      rw [← e0]
      have hA := hA.tr hg
      refine W.widen (k := (k + 7)) (n := 600 * (k + 7)) (by omega) (by omega) ?_
      refine lv_bipush (v := 97) C.1 C.2.1 dX11_init_321 (by decide) ?_
      refine lv_aload_n C.1 C.2.1 dX11_init_323 rfl (lv_at hl 4 rfl) ?_
      refine lv_iload C.1 C.2.1 dX11_init_324 (lv_at hl 3 rfl) ?_
      refine lv_iload C.1 C.2.1 dX11_init_326 (lv_at hl 2 rfl) ?_
      obtain ⟨hb, hf⟩ := ck_t hf
      obtain ⟨u93, hu93, hf⟩ := bnd_t hf
      refine z_callr hW (z_runV C hW hl hb (ci := 9) (fs := fl_X11 Z a92 (u91.2.2.2 p0)) rfl rfl rfl (c_X11_wordOf hu93) cw_X11_94 ci_X11_wordOf cs_X11_wordOf (rm_okP (by decide) (by decide)) (rm_cs (by omega)) (As := [.int u62.1, .int v64]) rfl rfl (Nat.le_of_ble_eq_true rfl) dX11_init_328) (fun H locs hW => ?_)
      refine W.widen (k := (k + 7)) (n := 600 * (k + 7)) (by omega) (by omega) ?_
      refine lv_iconst (v := 1) C.1 C.2.1 dX11_init_331 (by decide) ?_
      refine z_iald C hW hf dX11_init_332 (fun hf => ?_)
      refine lv_iadd C.1 C.2.1 dX11_init_333 ?_
      refine lv_i2c (v := i2c ((97 : Int32) + u91.2.2.2 u93 (ix (1 : Int32)))) C.1 C.2.1 dX11_init_334 rfl ?_
      obtain ⟨hx0, hf⟩ := ck_t hf
      obtain ⟨hx1, hf⟩ := ck_t hf
      obtain ⟨hx2, hf⟩ := ck_t hf
      obtain ⟨hkc, hf⟩ := ck_t hf
      have hkc := of_decide_eq_true hkc
      have hpw := hW.2.2.2
      have hl : lv_has ls 8 [(3, .int v79), (7, .int v66), (6, .int v64), (5, .int u62.1), (0, .ref (ra Z a92 p0)), (1, .ref (ra Z a92 p1)), (2, .ref (ra Z a92 x2)), (4, .int x4)] := lv_sub hl [0, 1, 2, 3, 4, 5, 6, 7] rfl
      obtain ⟨hb, hf⟩ := ck_t hf
      obtain ⟨u94, hu94, hf⟩ := bnd_t hf
      refine z_callrA hW (z_runV C hW hl hb (ci := 11) (fs := fl_J4 Z a92 (u91.2.2.2 u91.1)) rfl rfl rfl (c_J4_append_cf468 hu94) cw_X11_71 ci_J4_append_cf468 cs_J4_append_cf468 (rm_okP (by decide) (by decide)) (rm_cs (by omega)) (As := [.int (i2c ((97 : Int32) + u91.2.2.2 u93 (ix (1 : Int32))))]) rfl rfl (Nat.le_of_ble_eq_true rfl) dX11_init_335) (fun a95 H locs hg hW => ?_)
      have e0 := ra_to (Z := Z) hpw hg hx0
      have e1 := ra_to (Z := Z) hpw hg hx1
      have e2 := ra_to (Z := Z) hpw hg hx2
      rw [← e0] at hl
      rw [← e1] at hl
      rw [← e2] at hl
      rw [← e0]
      have hA := hA.tr hg
      refine W.widen (k := (k + 8)) (n := 600 * (k + 8)) (by omega) (by omega) ?_
      refine z_ldcS (a := a95) C (x := 1000006) (i := 6) rfl ms_X11_98 dX11_init_338 ?_
      obtain ⟨hx0, hf⟩ := ck_t hf
      obtain ⟨hx1, hf⟩ := ck_t hf
      obtain ⟨hx2, hf⟩ := ck_t hf
      obtain ⟨hkc, hf⟩ := ck_t hf
      have hkc := of_decide_eq_true hkc
      have hpw := hW.2.2.2
      have hl : lv_has ls 8 [(3, .int v79), (7, .int v66), (6, .int v64), (5, .int u62.1), (0, .ref (ra Z a95 p0)), (1, .ref (ra Z a95 p1)), (2, .ref (ra Z a95 x2)), (4, .int x4)] := lv_sub hl [0, 1, 2, 3, 4, 5, 6, 7] rfl
      obtain ⟨hb, hf⟩ := ck_t hf
      obtain ⟨u96, hu96, hf⟩ := bnd_t hf
      refine z_callrA hW (z_runV C hW hl hb (ci := 11) (fs := fl_J4 Z a95 (u94.2.2.2 u94.1)) rfl rfl rfl (c_J4_append_15ec4 hu96) cw_X11_65 ci_J4_append_15ec4 cs_J4_append_15ec4 (rm_okP (by decide) (by decide)) (rm_cs (by omega)) (As := [.ref (ra Z a95 1000006)]) rfl rfl (Nat.le_of_ble_eq_true rfl) dX11_init_340) (fun a97 H locs hg hW => ?_)
      have e0 := ra_to (Z := Z) hpw hg hx0
      have e1 := ra_to (Z := Z) hpw hg hx1
      have e2 := ra_to (Z := Z) hpw hg hx2
      rw [← e0] at hl
      rw [← e1] at hl
      rw [← e2] at hl
      rw [← e0]
      have hA := hA.tr hg
      refine W.widen (k := (k + 9)) (n := 600 * (k + 9)) (by omega) (by omega) ?_
      refine lv_iload C.1 C.2.1 dX11_init_343 (lv_at hl 2 rfl) ?_
      obtain ⟨hx0, hf⟩ := ck_t hf
      obtain ⟨hx1, hf⟩ := ck_t hf
      obtain ⟨hx2, hf⟩ := ck_t hf
      obtain ⟨hkc, hf⟩ := ck_t hf
      have hkc := of_decide_eq_true hkc
      have hpw := hW.2.2.2
      have hl : lv_has ls 8 [(3, .int v79), (7, .int v66), (6, .int v64), (5, .int u62.1), (0, .ref (ra Z a97 p0)), (1, .ref (ra Z a97 p1)), (2, .ref (ra Z a97 x2)), (4, .int x4)] := lv_sub hl [0, 1, 2, 3, 4, 5, 6, 7] rfl
      obtain ⟨hb, hf⟩ := ck_t hf
      obtain ⟨u98, hu98, hf⟩ := bnd_t hf
      refine z_callrA hW (z_runV C hW hl hb (ci := 11) (fs := fl_J4 Z a97 (u96.2.2.2 u96.1)) rfl rfl rfl (c_J4_append_bf812 hu98) cw_X11_100 ci_J4_append_bf812 cs_J4_append_bf812 (rm_okP (by decide) (by decide)) (rm_cs (by omega)) (As := [.int v64]) rfl rfl (Nat.le_of_ble_eq_true rfl) dX11_init_345) (fun a99 H locs hg hW => ?_)
      have e0 := ra_to (Z := Z) hpw hg hx0
      have e1 := ra_to (Z := Z) hpw hg hx1
      have e2 := ra_to (Z := Z) hpw hg hx2
      rw [← e0] at hl
      rw [← e1] at hl
      rw [← e2] at hl
      rw [← e0]
      have hA := hA.tr hg
      refine W.widen (k := (k + 10)) (n := 600 * (k + 10)) (by omega) (by omega) ?_
      refine z_ldcS (a := a99) C (x := 1000006) (i := 6) rfl ms_X11_98 dX11_init_348 ?_
      obtain ⟨hx0, hf⟩ := ck_t hf
      obtain ⟨hx1, hf⟩ := ck_t hf
      obtain ⟨hx2, hf⟩ := ck_t hf
      obtain ⟨hkc, hf⟩ := ck_t hf
      have hkc := of_decide_eq_true hkc
      have hpw := hW.2.2.2
      have hl : lv_has ls 8 [(3, .int v79), (7, .int v66), (6, .int v64), (5, .int u62.1), (0, .ref (ra Z a99 p0)), (1, .ref (ra Z a99 p1)), (2, .ref (ra Z a99 x2)), (4, .int x4)] := lv_sub hl [0, 1, 2, 3, 4, 5, 6, 7] rfl
      obtain ⟨hb, hf⟩ := ck_t hf
      obtain ⟨u100, hu100, hf⟩ := bnd_t hf
      refine z_callrA hW (z_runV C hW hl hb (ci := 11) (fs := fl_J4 Z a99 (u98.2.2.2 u98.1)) rfl rfl rfl (c_J4_append_15ec4 hu100) cw_X11_65 ci_J4_append_15ec4 cs_J4_append_15ec4 (rm_okP (by decide) (by decide)) (rm_cs (by omega)) (As := [.ref (ra Z a99 1000006)]) rfl rfl (Nat.le_of_ble_eq_true rfl) dX11_init_350) (fun a101 H locs hg hW => ?_)
      have e0 := ra_to (Z := Z) hpw hg hx0
      have e1 := ra_to (Z := Z) hpw hg hx1
      have e2 := ra_to (Z := Z) hpw hg hx2
      rw [← e0] at hl
      rw [← e1] at hl
      rw [← e2] at hl
      rw [← e0]
      have hA := hA.tr hg
      refine W.widen (k := (k + 11)) (n := 600 * (k + 11)) (by omega) (by omega) ?_
      refine lv_iload C.1 C.2.1 dX11_init_353 (lv_at hl 1 rfl) ?_
      obtain ⟨hx0, hf⟩ := ck_t hf
      obtain ⟨hx1, hf⟩ := ck_t hf
      obtain ⟨hx2, hf⟩ := ck_t hf
      obtain ⟨hkc, hf⟩ := ck_t hf
      have hkc := of_decide_eq_true hkc
      have hpw := hW.2.2.2
      have hl : lv_has ls 8 [(3, .int v79), (7, .int v66), (6, .int v64), (5, .int u62.1), (0, .ref (ra Z a101 p0)), (1, .ref (ra Z a101 p1)), (2, .ref (ra Z a101 x2)), (4, .int x4)] := lv_sub hl [0, 1, 2, 3, 4, 5, 6, 7] rfl
      obtain ⟨hb, hf⟩ := ck_t hf
      obtain ⟨u102, hu102, hf⟩ := bnd_t hf
      refine z_callrA hW (z_runV C hW hl hb (ci := 11) (fs := fl_J4 Z a101 (u100.2.2.2 u100.1)) rfl rfl rfl (c_J4_append_bf812 hu102) cw_X11_100 ci_J4_append_bf812 cs_J4_append_bf812 (rm_okP (by decide) (by decide)) (rm_cs (by omega)) (As := [.int v66]) rfl rfl (Nat.le_of_ble_eq_true rfl) dX11_init_355) (fun a103 H locs hg hW => ?_)
      have e0 := ra_to (Z := Z) hpw hg hx0
      have e1 := ra_to (Z := Z) hpw hg hx1
      have e2 := ra_to (Z := Z) hpw hg hx2
      rw [← e0] at hl
      rw [← e1] at hl
      rw [← e2] at hl
      rw [← e0]
      have hA := hA.tr hg
      refine W.widen (k := (k + 12)) (n := 600 * (k + 12)) (by omega) (by omega) ?_
      refine z_ldcS (a := a103) C (x := 1000002) (i := 2) rfl ms_X11_74 dX11_init_358 ?_
      obtain ⟨hx0, hf⟩ := ck_t hf
      obtain ⟨hx1, hf⟩ := ck_t hf
      obtain ⟨hx2, hf⟩ := ck_t hf
      obtain ⟨hkc, hf⟩ := ck_t hf
      have hkc := of_decide_eq_true hkc
      have hpw := hW.2.2.2
      have hl : lv_has ls 8 [(3, .int v79), (7, .int v66), (6, .int v64), (5, .int u62.1), (0, .ref (ra Z a103 p0)), (1, .ref (ra Z a103 p1)), (2, .ref (ra Z a103 x2)), (4, .int x4)] := lv_sub hl [0, 1, 2, 3, 4, 5, 6, 7] rfl
      obtain ⟨hb, hf⟩ := ck_t hf
      obtain ⟨u104, hu104, hf⟩ := bnd_t hf
      refine z_callrA hW (z_runV C hW hl hb (ci := 11) (fs := fl_J4 Z a103 (u102.2.2.2 u102.1)) rfl rfl rfl (c_J4_append_15ec4 hu104) cw_X11_65 ci_J4_append_15ec4 cs_J4_append_15ec4 (rm_okP (by decide) (by decide)) (rm_cs (by omega)) (As := [.ref (ra Z a103 1000002)]) rfl rfl (Nat.le_of_ble_eq_true rfl) dX11_init_360) (fun a105 H locs hg hW => ?_)
      have e0 := ra_to (Z := Z) hpw hg hx0
      have e1 := ra_to (Z := Z) hpw hg hx1
      have e2 := ra_to (Z := Z) hpw hg hx2
      rw [← e0] at hl
      rw [← e1] at hl
      rw [← e2] at hl
      rw [← e0]
      have hA := hA.tr hg
      refine W.widen (k := (k + 13)) (n := 600 * (k + 13)) (by omega) (by omega) ?_
      obtain ⟨hx0, hf⟩ := ck_t hf
      obtain ⟨hx1, hf⟩ := ck_t hf
      obtain ⟨hx2, hf⟩ := ck_t hf
      obtain ⟨hkc, hf⟩ := ck_t hf
      have hkc := of_decide_eq_true hkc
      have hpw := hW.2.2.2
      have hl : lv_has ls 8 [(3, .int v79), (7, .int v66), (6, .int v64), (5, .int u62.1), (0, .ref (ra Z a105 p0)), (1, .ref (ra Z a105 p1)), (2, .ref (ra Z a105 x2)), (4, .int x4)] := lv_sub hl [0, 1, 2, 3, 4, 5, 6, 7] rfl
      obtain ⟨hb, hf⟩ := ck_t hf
      obtain ⟨u106, hu106, hf⟩ := bnd_t hf
      refine z_callrA hW (z_runV C hW hl hb (ci := 11) (fs := fl_J4 Z a105 (u104.2.2.2 u104.1)) rfl rfl rfl (c_J4_toString_0e30d hu106) cw_X11_76 ci_J4_toString_0e30d cs_J4_toString_0e30d (rm_okP (by decide) (by decide)) (rm_cs (by omega)) (As := []) rfl rfl (Nat.le_of_ble_eq_true rfl) dX11_init_363) (fun a107 H locs hg hW => ?_)
      have e0 := ra_to (Z := Z) hpw hg hx0
      have e1 := ra_to (Z := Z) hpw hg hx1
      have e2 := ra_to (Z := Z) hpw hg hx2
      rw [← e0] at hl
      rw [← e1] at hl
      rw [← e2] at hl
      rw [← e0]
      have hA := hA.tr hg
      refine W.widen (k := (k + 15)) (n := 600 * (k + 15)) (by omega) (by omega) ?_
      refine zp_X11_45 C hW hf dX11_init_366 (fun g108 H locs hf hgn hW => ?_)
      have hA := hA.w hgn
      refine z_iinc (w := -1) C hf dX11_init_369 hl (k := 7) rfl (by decide) (by decide) (fun v109 => [(4, .int v109), (3, .int v79), (7, .int v66), (6, .int v64), (5, .int u62.1), (0, .ref (ra Z a107 p0)), (1, .ref (ra Z a107 p1)), (2, .ref (ra Z a107 x2))]) (fun _ => rfl) (fun v109 ls hf hl => ?_)
      refine lv_goto (tgt := 183) C.1 C.2.1 dX11_init_372 (by decide) ?_
      obtain ⟨hkb, hf⟩ := ck_t hf
      have hkb := of_decide_eq_true hkb
      exact ih v79 v109 g108 (k + 15) _ ls _ _ hA hkb hW (lv_sub hl [5, 6, 7, 1, 0] rfl) hf
set_option maxRecDepth 20000 in
set_option maxHeartbeats 1000000 in
theorem q_X11_init_167 {l : Launch} {Z : ZT} {h : Hp} {a0 : Nat → Nat} {g0 : PL} {p0 : Nat} {p1 : Nat} {g : PL} {p : Program} {e : Env} {s : State} {m : MethodId} {args : Array Value} {below : List Frame} {meth : Method} {c : Code} (C : CQ p s m args meth c cX11_init RX11 8 none Z) {out : PL} (hin : meth.name = "<init>") {a : Nat → Nat} (hA : AG a0 g0 a g) {ls : Array Slot} {H : Heap} {locs : List Loc} (hW : XG Z h a g s.heap H locs) (hl : lv_has ls 8 [(0, .ref (ra Z a p0)), (1, .ref (ra Z a p1))]) (hf : Jp_X11_init_167 p0 p1 g = some out) : W p l e (rmP 7 372) s m args below meth c H locs 50 (600 * 50) (MQ below (va_Qv (fun (a1 : Nat → Nat) => AG a0 g0 a1 out) (fun a1 => WdP Z h a1 out) (FR Z)) args s 372 (600 * 372) (FR Z)) (F0 m 167 ls []) := by
  rw [Jp_X11_init_167] at hf
  refine lv_iconst (v := 4) C.1 C.2.1 dX11_init_167 (by decide) ?_
  obtain ⟨hx0, hf⟩ := ck_t hf
  obtain ⟨hx1, hf⟩ := ck_t hf
  have hpw := hW.2.2.2
  have hl : lv_has ls 8 [(0, .ref (ra Z a p0)), (1, .ref (ra Z a p1))] := lv_sub hl [0, 1] rfl
  refine z_newI C hW ac_int hf ⟨by show _ + 1 ≤ 372; omega, by show _ + 600 ≤ 600 * 372; omega⟩ dX11_init_168 (fun a111 g110 H hf hg hW => ?_)
  have e0 := ra_to (Z := Z) hpw hg hx0
  have e1 := ra_to (Z := Z) hpw hg hx1
  rw [← e0] at hl
  rw [← e1] at hl
  have hA := hA.tr hg
  refine W.widen (k := 51) (n := 600 * 51) (by omega) (by omega) ?_
  refine lv_astore_n (lv' := [(2, .ref (ra Z a111 g.1)), (0, .ref (ra Z a111 p0)), (1, .ref (ra Z a111 p1))]) C.1 C.2.1 dX11_init_170 rfl hl (by decide) rfl (fun ls hl => ?_)
  refine lv_iconst (v := 0) C.1 C.2.1 dX11_init_171 (by decide) ?_
  refine lv_istore_n (lv' := [(3, .int (0 : Int32)), (2, .ref (ra Z a111 g.1)), (0, .ref (ra Z a111 p0)), (1, .ref (ra Z a111 p1))]) C.1 C.2.1 dX11_init_172 rfl hl (by decide) rfl (fun ls hl => ?_)
  refine lv_iconst (v := 3) C.1 C.2.1 dX11_init_173 (by decide) ?_
  refine lv_aload_n C.1 C.2.1 dX11_init_174 rfl (lv_at hl 3 rfl) ?_
  refine lv_bipush (v := 8) C.1 C.2.1 dX11_init_175 (by decide) ?_
  obtain ⟨hb, hf⟩ := ck_t hf
  obtain ⟨u112, hu112, hf⟩ := bnd_t hf
  obtain ⟨hgn, hf⟩ := ck_t hf
  have hgn := of_decide_eq_true hgn
  refine z_calli hW (z_runV C hW hl hb (ci := 10) (fs := fl_X12 Z a111 (g110.2.2 p1)) rfl rfl rfl (c_X12_next hu112) cw_X11_49 ci_X12_next cs_X12_next (rm_okP (by decide) (by decide)) (rm_cs (by decide)) (As := [.int (8 : Int32)]) rfl rfl (Nat.le_of_ble_eq_true rfl) dX11_init_177) (fun H locs hW => ?_)
  refine W.widen (k := 51) (n := 600 * 51) (by omega) (by omega) ?_
  have hA := hA.w hgn
  refine lv_iadd C.1 C.2.1 dX11_init_180 ?_
  refine z_ist C hf dX11_init_181 hl (by decide) (fun v113 => [(4, .int v113), (3, .int (0 : Int32)), (2, .ref (ra Z a111 g.1)), (0, .ref (ra Z a111 p0)), (1, .ref (ra Z a111 p1))]) (fun _ => rfl) (fun v113 ls hf hl => ?_)
  exact l_X11_init_183 C hin FU (0 : Int32) v113 u112.2 51 _ ls _ _ hA (by decide) hW (lv_sub hl [3, 4, 2, 1, 0] rfl) hf
set_option maxRecDepth 20000 in
set_option maxHeartbeats 1000000 in
theorem l_X11_init_114 {l : Launch} {Z : ZT} {h : Hp} {a0 : Nat → Nat} {g0 : PL} {p0 : Nat} {p1 : Nat} {p : Program} {e : Env} {s : State} {m : MethodId} {args : Array Value} {below : List Frame} {meth : Method} {c : Code} (C : CQ p s m args meth c cX11_init RX11 8 none Z) {out : PL} (hin : meth.name = "<init>") : ∀ (n : Nat) (x2 : Int32) (g : PL) (k : Nat) (a : Nat → Nat) (ls : Array Slot) (H : Heap) (locs : List Loc), AG a0 g0 a g → k ≤ 50 → XG Z h a g s.heap H locs → lv_has ls 8 [(0, .ref (ra Z a p0)), (1, .ref (ra Z a p1)), (2, .int x2)] → Lp (Fp_X11_init_114 p0 p1) n (x2, g, k) = some out → W p l e (rmP 7 372) s m args below meth c H locs k (600 * k) (MQ below (va_Qv (fun (a1 : Nat → Nat) => AG a0 g0 a1 out) (fun a1 => WdP Z h a1 out) (FR Z)) args s 372 (600 * 372) (FR Z)) (F0 m 114 ls []) := by
  intro n
  induction n with
  | zero => intro x2 g k a ls H locs hA hk hW hl hf; cases hf
  | succ n ih =>
    intro x2 g k a ls H locs hA hk hW hl hf
    rw [Lp_s] at hf
    rw [Fp_X11_init_114] at hf
    try dsimp only at hf
    refine lv_iload_n C.1 C.2.1 dX11_init_114 rfl (lv_at hl 2 rfl) ?_
    refine lv_aload_n C.1 C.2.1 dX11_init_115 rfl (lv_at hl 0 rfl) ?_
    refine zg_X11_59 C hW hf dX11_init_116 (fun hf => ?_)
    refine z_cmpge (tgt := 167) C hf dX11_init_119 (by decide) (fun hf => ?_) (fun hf => ?_)
    · refine W.widen (k := 50) (n := 600 * 50) (by omega) (by omega) ?_
      exact q_X11_init_167 C hin hA hW (lv_sub hl [0, 1] rfl) hf
    · refine lv_aload_n C.1 C.2.1 dX11_init_122 rfl (lv_at hl 0 rfl) ?_
      obtain ⟨hx0, hf⟩ := ck_t hf
      obtain ⟨hx1, hf⟩ := ck_t hf
      obtain ⟨hkc, hf⟩ := ck_t hf
      have hkc := of_decide_eq_true hkc
      have hpw := hW.2.2.2
      have hl : lv_has ls 8 [(0, .ref (ra Z a p0)), (1, .ref (ra Z a p1)), (2, .int x2)] := lv_sub hl [0, 1, 2] rfl
      refine z_newo C hW (kd := 2) (ci := 11) (fs := nf_J4) rfl wsJ4_in tyJ4 tyJ4_ok df_J4 cl_X11_62 in_J4 iz_J4 (by decide) (by decide) ne_J4 hf ⟨by show _ + 1 ≤ 372; omega, by show _ + 600 ≤ 600 * 372; omega⟩ dX11_init_123 (fun a115 g114 H hf hg hW => ?_)
      have e0 := ra_to (Z := Z) hpw hg hx0
      have e1 := ra_to (Z := Z) hpw hg hx1
      rw [← e0] at hl
      rw [← e1] at hl
      rw [← e0]
      have hA := hA.tr hg
      refine W.widen (k := (k + 1)) (n := 600 * (k + 1)) (by omega) (by omega) ?_
      refine lv_dup C.1 C.2.1 dX11_init_126 rfl ?_
      obtain ⟨hx0, hf⟩ := ck_t hf
      obtain ⟨hx1, hf⟩ := ck_t hf
      obtain ⟨hx2, hf⟩ := ck_t hf
      obtain ⟨hkc, hf⟩ := ck_t hf
      have hkc := of_decide_eq_true hkc
      have hpw := hW.2.2.2
      have hl : lv_has ls 8 [(0, .ref (ra Z a115 p0)), (1, .ref (ra Z a115 p1)), (2, .int x2)] := lv_sub hl [0, 1, 2] rfl
      obtain ⟨u116, hu116, hf⟩ := bnd_t hf
      refine z_callvA hW (z_runI C hW hl (c_J4_init_da8c8 hu116) cw_X11_64 ci_J4_init_da8c8 rfl (rm_okP (by decide) (by decide)) (rm_cs (by omega)) (As := []) rfl rfl (Nat.le_of_ble_eq_true rfl) dX11_init_127) (fun a117 H locs hg hW => ?_)
      have e0 := ra_to (Z := Z) hpw hg hx0
      have e1 := ra_to (Z := Z) hpw hg hx1
      have e2 := ra_to (Z := Z) hpw hg hx2
      rw [← e0] at hl
      rw [← e1] at hl
      rw [← e0]
      rw [← e2]
      have hA := hA.tr hg
      refine W.widen (k := (k + 2)) (n := 600 * (k + 2)) (by omega) (by omega) ?_
      refine lv_aload_n C.1 C.2.1 dX11_init_130 rfl (lv_at hl 0 rfl) ?_
      refine zg_X11_45 C hW hf dX11_init_131 (fun q118 hf => ?_)
      obtain ⟨hx0, hf⟩ := ck_t hf
      obtain ⟨hx1, hf⟩ := ck_t hf
      obtain ⟨hkc, hf⟩ := ck_t hf
      have hkc := of_decide_eq_true hkc
      have hpw := hW.2.2.2
      have hl : lv_has ls 8 [(0, .ref (ra Z a117 p0)), (1, .ref (ra Z a117 p1)), (2, .int x2)] := lv_sub hl [0, 1, 2] rfl
      obtain ⟨hb, hf⟩ := ck_t hf
      obtain ⟨u119, hu119, hf⟩ := bnd_t hf
      refine z_callrA hW (z_runV C hW hl hb (ci := 11) (fs := fl_J4 Z a117 (u116.2.2 g.1)) rfl rfl rfl (c_J4_append_15ec4 hu119) cw_X11_65 ci_J4_append_15ec4 cs_J4_append_15ec4 (rm_okP (by decide) (by decide)) (rm_cs (by omega)) (As := [.ref (ra Z a117 q118)]) rfl rfl (Nat.le_of_ble_eq_true rfl) dX11_init_134) (fun a120 H locs hg hW => ?_)
      have e0 := ra_to (Z := Z) hpw hg hx0
      have e1 := ra_to (Z := Z) hpw hg hx1
      rw [← e0] at hl
      rw [← e1] at hl
      rw [← e0]
      have hA := hA.tr hg
      refine W.widen (k := (k + 3)) (n := 600 * (k + 3)) (by omega) (by omega) ?_
      refine z_ldcS (a := a120) C (x := 1000001) (i := 1) rfl ms_X11_69 dX11_init_137 ?_
      obtain ⟨hx0, hf⟩ := ck_t hf
      obtain ⟨hx1, hf⟩ := ck_t hf
      obtain ⟨hkc, hf⟩ := ck_t hf
      have hkc := of_decide_eq_true hkc
      have hpw := hW.2.2.2
      have hl : lv_has ls 8 [(0, .ref (ra Z a120 p0)), (1, .ref (ra Z a120 p1)), (2, .int x2)] := lv_sub hl [0, 1, 2] rfl
      obtain ⟨hb, hf⟩ := ck_t hf
      obtain ⟨u121, hu121, hf⟩ := bnd_t hf
      refine z_callrA hW (z_runV C hW hl hb (ci := 11) (fs := fl_J4 Z a120 (u119.2.2.2 u119.1)) rfl rfl rfl (c_J4_append_15ec4 hu121) cw_X11_65 ci_J4_append_15ec4 cs_J4_append_15ec4 (rm_okP (by decide) (by decide)) (rm_cs (by omega)) (As := [.ref (ra Z a120 1000001)]) rfl rfl (Nat.le_of_ble_eq_true rfl) dX11_init_139) (fun a122 H locs hg hW => ?_)
      have e0 := ra_to (Z := Z) hpw hg hx0
      have e1 := ra_to (Z := Z) hpw hg hx1
      rw [← e0] at hl
      rw [← e1] at hl
      rw [← e0]
      have hA := hA.tr hg
      refine W.widen (k := (k + 4)) (n := 600 * (k + 4)) (by omega) (by omega) ?_
      refine lv_bipush (v := 97) C.1 C.2.1 dX11_init_142 (by decide) ?_
      refine lv_iload_n C.1 C.2.1 dX11_init_144 rfl (lv_at hl 2 rfl) ?_
      refine lv_iadd C.1 C.2.1 dX11_init_145 ?_
      refine lv_i2c (v := i2c ((97 : Int32) + x2)) C.1 C.2.1 dX11_init_146 rfl ?_
      obtain ⟨hx0, hf⟩ := ck_t hf
      obtain ⟨hx1, hf⟩ := ck_t hf
      obtain ⟨hkc, hf⟩ := ck_t hf
      have hkc := of_decide_eq_true hkc
      have hpw := hW.2.2.2
      have hl : lv_has ls 8 [(0, .ref (ra Z a122 p0)), (1, .ref (ra Z a122 p1)), (2, .int x2)] := lv_sub hl [0, 1, 2] rfl
      obtain ⟨hb, hf⟩ := ck_t hf
      obtain ⟨u123, hu123, hf⟩ := bnd_t hf
      refine z_callrA hW (z_runV C hW hl hb (ci := 11) (fs := fl_J4 Z a122 (u121.2.2.2 u121.1)) rfl rfl rfl (c_J4_append_cf468 hu123) cw_X11_71 ci_J4_append_cf468 cs_J4_append_cf468 (rm_okP (by decide) (by decide)) (rm_cs (by omega)) (As := [.int (i2c ((97 : Int32) + x2))]) rfl rfl (Nat.le_of_ble_eq_true rfl) dX11_init_147) (fun a124 H locs hg hW => ?_)
      have e0 := ra_to (Z := Z) hpw hg hx0
      have e1 := ra_to (Z := Z) hpw hg hx1
      rw [← e0] at hl
      rw [← e1] at hl
      rw [← e0]
      have hA := hA.tr hg
      refine W.widen (k := (k + 5)) (n := 600 * (k + 5)) (by omega) (by omega) ?_
      refine z_ldcS (a := a124) C (x := 1000002) (i := 2) rfl ms_X11_74 dX11_init_150 ?_
      obtain ⟨hx0, hf⟩ := ck_t hf
      obtain ⟨hx1, hf⟩ := ck_t hf
      obtain ⟨hkc, hf⟩ := ck_t hf
      have hkc := of_decide_eq_true hkc
      have hpw := hW.2.2.2
      have hl : lv_has ls 8 [(0, .ref (ra Z a124 p0)), (1, .ref (ra Z a124 p1)), (2, .int x2)] := lv_sub hl [0, 1, 2] rfl
      obtain ⟨hb, hf⟩ := ck_t hf
      obtain ⟨u125, hu125, hf⟩ := bnd_t hf
      refine z_callrA hW (z_runV C hW hl hb (ci := 11) (fs := fl_J4 Z a124 (u123.2.2.2 u123.1)) rfl rfl rfl (c_J4_append_15ec4 hu125) cw_X11_65 ci_J4_append_15ec4 cs_J4_append_15ec4 (rm_okP (by decide) (by decide)) (rm_cs (by omega)) (As := [.ref (ra Z a124 1000002)]) rfl rfl (Nat.le_of_ble_eq_true rfl) dX11_init_152) (fun a126 H locs hg hW => ?_)
      have e0 := ra_to (Z := Z) hpw hg hx0
      have e1 := ra_to (Z := Z) hpw hg hx1
      rw [← e0] at hl
      rw [← e1] at hl
      rw [← e0]
      have hA := hA.tr hg
      refine W.widen (k := (k + 6)) (n := 600 * (k + 6)) (by omega) (by omega) ?_
      obtain ⟨hx0, hf⟩ := ck_t hf
      obtain ⟨hx1, hf⟩ := ck_t hf
      obtain ⟨hkc, hf⟩ := ck_t hf
      have hkc := of_decide_eq_true hkc
      have hpw := hW.2.2.2
      have hl : lv_has ls 8 [(0, .ref (ra Z a126 p0)), (1, .ref (ra Z a126 p1)), (2, .int x2)] := lv_sub hl [0, 1, 2] rfl
      obtain ⟨hb, hf⟩ := ck_t hf
      obtain ⟨u127, hu127, hf⟩ := bnd_t hf
      refine z_callrA hW (z_runV C hW hl hb (ci := 11) (fs := fl_J4 Z a126 (u125.2.2.2 u125.1)) rfl rfl rfl (c_J4_toString_0e30d hu127) cw_X11_76 ci_J4_toString_0e30d cs_J4_toString_0e30d (rm_okP (by decide) (by decide)) (rm_cs (by omega)) (As := []) rfl rfl (Nat.le_of_ble_eq_true rfl) dX11_init_155) (fun a128 H locs hg hW => ?_)
      have e0 := ra_to (Z := Z) hpw hg hx0
      have e1 := ra_to (Z := Z) hpw hg hx1
      rw [← e0] at hl
      rw [← e1] at hl
      rw [← e0]
      have hA := hA.tr hg
      refine W.widen (k := (k + 8)) (n := 600 * (k + 8)) (by omega) (by omega) ?_
      refine zp_X11_45 C hW hf dX11_init_158 (fun g129 H locs hf hgn hW => ?_)
      have hA := hA.w hgn
      refine z_iinc (w := 1) C hf dX11_init_161 hl (k := 2) rfl (by decide) (by decide) (fun v130 => [(2, .int v130), (0, .ref (ra Z a128 p0)), (1, .ref (ra Z a128 p1))]) (fun _ => rfl) (fun v130 ls hf hl => ?_)
      refine lv_goto (tgt := 114) C.1 C.2.1 dX11_init_164 (by decide) ?_
      obtain ⟨hkb, hf⟩ := ck_t hf
      have hkb := of_decide_eq_true hkb
      exact ih v130 g129 (k + 8) _ ls _ _ hA hkb hW (lv_sub hl [1, 2, 0] rfl) hf
set_option maxRecDepth 20000 in
set_option maxHeartbeats 1000000 in
theorem c_X11_init {l : Launch} {Z : ZT} {h : Hp} {a : Nat → Nat} {g : PL} {p0 : Nat} {p1 : Nat} {out : PL} (hf : fp_X11_init g p0 p1 = some out) : Met l yX11_init (wY yX11_init cX11_init 8 none) (rmP 7 372) (va_Pc [.ref (ra Z a p0), .ref (ra Z a p1)] (WdP Z h a g)) (va_Qv (fun (a1 : Nat → Nat) => AG a g a1 out) (fun a1 => WdP Z h a1 out) (FR Z)) 372 (600 * 372) (FR Z) := by
  refine metZ RX11 rfl (by decide +kernel) (Nat.le_of_ble_eq_true rfl) ?_
  intro p e s m args below meth c C hin hW ls hl
  have hin : meth.name = "<init>" := hin
  have hl : lv_has ls 8 [(0, .ref (ra Z a p0)), (1, .ref (ra Z a p1))] := hl
  have hA := AG.rf a g
  unfold fp_X11_init at hf
  refine W.widen (k := 0) (n := 600 * 0) (Nat.le_refl _) (Nat.le_refl _) ?_
  refine lv_aload_n C.1 C.2.1 dX11_init_0 rfl (lv_at hl 0 rfl) ?_
  refine z_objX oi_i oi_c C hl ml_X11_1 dX11_init_1 (rm_o (by decide)) ?_
  refine lv_aload_n C.1 C.2.1 dX11_init_4 rfl (lv_at hl 0 rfl) ?_
  refine lv_bipush (v := 40) C.1 C.2.1 dX11_init_5 (by decide) ?_
  obtain ⟨hx0, hf⟩ := ck_t hf
  obtain ⟨hx1, hf⟩ := ck_t hf
  have hpw := hW.2.2.2
  have hl : lv_has ls 8 [(0, .ref (ra Z a p0)), (1, .ref (ra Z a p1))] := lv_sub hl [0, 1] rfl
  refine z_newG C hW cl_X11_7 hf ⟨by show _ + 1 ≤ 372; omega, by show _ + 600 ≤ 600 * 372; omega⟩ dX11_init_7 (fun a132 g131 H hf hg hW => ?_)
  have e0 := ra_to (Z := Z) hpw hg hx0
  have e1 := ra_to (Z := Z) hpw hg hx1
  rw [← e0] at hl
  rw [← e1] at hl
  rw [← e0]
  have hA := hA.tr hg
  refine W.widen (k := 1) (n := 600 * 1) (by omega) (by omega) ?_
  refine zp_X11_9 C hW hin hf dX11_init_10 (fun g133 H locs hf hgn hW => ?_)
  have hA := hA.w hgn
  refine lv_aload_n C.1 C.2.1 dX11_init_13 rfl (lv_at hl 0 rfl) ?_
  refine lv_bipush (v := 12) C.1 C.2.1 dX11_init_14 (by decide) ?_
  obtain ⟨hx0, hf⟩ := ck_t hf
  obtain ⟨hx1, hf⟩ := ck_t hf
  have hpw := hW.2.2.2
  have hl : lv_has ls 8 [(0, .ref (ra Z a132 p0)), (1, .ref (ra Z a132 p1))] := lv_sub hl [0, 1] rfl
  refine z_newG C hW cl_X11_7 hf ⟨by show _ + 1 ≤ 372; omega, by show _ + 600 ≤ 600 * 372; omega⟩ dX11_init_16 (fun a135 g134 H hf hg hW => ?_)
  have e0 := ra_to (Z := Z) hpw hg hx0
  have e1 := ra_to (Z := Z) hpw hg hx1
  rw [← e0] at hl
  rw [← e1] at hl
  rw [← e0]
  have hA := hA.tr hg
  refine W.widen (k := 2) (n := 600 * 2) (by omega) (by omega) ?_
  refine zp_X11_15 C hW hin hf dX11_init_19 (fun g136 H locs hf hgn hW => ?_)
  have hA := hA.w hgn
  refine lv_aload_n C.1 C.2.1 dX11_init_22 rfl (lv_at hl 0 rfl) ?_
  refine lv_bipush (v := 41) C.1 C.2.1 dX11_init_23 (by decide) ?_
  obtain ⟨hx0, hf⟩ := ck_t hf
  obtain ⟨hx1, hf⟩ := ck_t hf
  have hpw := hW.2.2.2
  have hl : lv_has ls 8 [(0, .ref (ra Z a135 p0)), (1, .ref (ra Z a135 p1))] := lv_sub hl [0, 1] rfl
  refine z_newI C hW ac_int hf ⟨by show _ + 1 ≤ 372; omega, by show _ + 600 ≤ 600 * 372; omega⟩ dX11_init_25 (fun a138 g137 H hf hg hW => ?_)
  have e0 := ra_to (Z := Z) hpw hg hx0
  have e1 := ra_to (Z := Z) hpw hg hx1
  rw [← e0] at hl
  rw [← e1] at hl
  rw [← e0]
  have hA := hA.tr hg
  refine W.widen (k := 3) (n := 600 * 3) (by omega) (by omega) ?_
  refine zp_X11_18 C hW hin hf dX11_init_27 (fun g139 H locs hf hgn hW => ?_)
  have hA := hA.w hgn
  refine lv_aload_n C.1 C.2.1 dX11_init_30 rfl (lv_at hl 0 rfl) ?_
  refine lv_bipush (v := 41) C.1 C.2.1 dX11_init_31 (by decide) ?_
  obtain ⟨hx0, hf⟩ := ck_t hf
  obtain ⟨hx1, hf⟩ := ck_t hf
  have hpw := hW.2.2.2
  have hl : lv_has ls 8 [(0, .ref (ra Z a138 p0)), (1, .ref (ra Z a138 p1))] := lv_sub hl [0, 1] rfl
  refine z_newI C hW ac_int hf ⟨by show _ + 1 ≤ 372; omega, by show _ + 600 ≤ 600 * 372; omega⟩ dX11_init_33 (fun a141 g140 H hf hg hW => ?_)
  have e0 := ra_to (Z := Z) hpw hg hx0
  have e1 := ra_to (Z := Z) hpw hg hx1
  rw [← e0] at hl
  rw [← e1] at hl
  rw [← e0]
  have hA := hA.tr hg
  refine W.widen (k := 4) (n := 600 * 4) (by omega) (by omega) ?_
  refine zp_X11_21 C hW hin hf dX11_init_35 (fun g142 H locs hf hgn hW => ?_)
  have hA := hA.w hgn
  refine lv_aload_n C.1 C.2.1 dX11_init_38 rfl (lv_at hl 0 rfl) ?_
  refine lv_bipush (v := 41) C.1 C.2.1 dX11_init_39 (by decide) ?_
  obtain ⟨hx0, hf⟩ := ck_t hf
  obtain ⟨hx1, hf⟩ := ck_t hf
  have hpw := hW.2.2.2
  have hl : lv_has ls 8 [(0, .ref (ra Z a141 p0)), (1, .ref (ra Z a141 p1))] := lv_sub hl [0, 1] rfl
  refine z_newI C hW ac_int hf ⟨by show _ + 1 ≤ 372; omega, by show _ + 600 ≤ 600 * 372; omega⟩ dX11_init_41 (fun a144 g143 H hf hg hW => ?_)
  have e0 := ra_to (Z := Z) hpw hg hx0
  have e1 := ra_to (Z := Z) hpw hg hx1
  rw [← e0] at hl
  rw [← e1] at hl
  rw [← e0]
  have hA := hA.tr hg
  refine W.widen (k := 5) (n := 600 * 5) (by omega) (by omega) ?_
  refine zp_X11_24 C hW hin hf dX11_init_43 (fun g145 H locs hf hgn hW => ?_)
  have hA := hA.w hgn
  refine lv_aload_n C.1 C.2.1 dX11_init_46 rfl (lv_at hl 0 rfl) ?_
  refine lv_bipush (v := 41) C.1 C.2.1 dX11_init_47 (by decide) ?_
  obtain ⟨hx0, hf⟩ := ck_t hf
  obtain ⟨hx1, hf⟩ := ck_t hf
  have hpw := hW.2.2.2
  have hl : lv_has ls 8 [(0, .ref (ra Z a144 p0)), (1, .ref (ra Z a144 p1))] := lv_sub hl [0, 1] rfl
  refine z_newI C hW ac_int hf ⟨by show _ + 1 ≤ 372; omega, by show _ + 600 ≤ 600 * 372; omega⟩ dX11_init_49 (fun a147 g146 H hf hg hW => ?_)
  have e0 := ra_to (Z := Z) hpw hg hx0
  have e1 := ra_to (Z := Z) hpw hg hx1
  rw [← e0] at hl
  rw [← e1] at hl
  rw [← e0]
  have hA := hA.tr hg
  refine W.widen (k := 6) (n := 600 * 6) (by omega) (by omega) ?_
  refine zp_X11_27 C hW hin hf dX11_init_51 (fun g148 H locs hf hgn hW => ?_)
  have hA := hA.w hgn
  refine lv_aload_n C.1 C.2.1 dX11_init_54 rfl (lv_at hl 0 rfl) ?_
  refine lv_bipush (v := 41) C.1 C.2.1 dX11_init_55 (by decide) ?_
  obtain ⟨hx0, hf⟩ := ck_t hf
  obtain ⟨hx1, hf⟩ := ck_t hf
  have hpw := hW.2.2.2
  have hl : lv_has ls 8 [(0, .ref (ra Z a147 p0)), (1, .ref (ra Z a147 p1))] := lv_sub hl [0, 1] rfl
  refine z_newI C hW ac_int hf ⟨by show _ + 1 ≤ 372; omega, by show _ + 600 ≤ 600 * 372; omega⟩ dX11_init_57 (fun a150 g149 H hf hg hW => ?_)
  have e0 := ra_to (Z := Z) hpw hg hx0
  have e1 := ra_to (Z := Z) hpw hg hx1
  rw [← e0] at hl
  rw [← e1] at hl
  rw [← e0]
  have hA := hA.tr hg
  refine W.widen (k := 7) (n := 600 * 7) (by omega) (by omega) ?_
  refine zp_X11_30 C hW hin hf dX11_init_59 (fun g151 H locs hf hgn hW => ?_)
  have hA := hA.w hgn
  refine lv_aload_n C.1 C.2.1 dX11_init_62 rfl (lv_at hl 0 rfl) ?_
  refine lv_bipush (v := 41) C.1 C.2.1 dX11_init_63 (by decide) ?_
  obtain ⟨hx0, hf⟩ := ck_t hf
  obtain ⟨hx1, hf⟩ := ck_t hf
  have hpw := hW.2.2.2
  have hl : lv_has ls 8 [(0, .ref (ra Z a150 p0)), (1, .ref (ra Z a150 p1))] := lv_sub hl [0, 1] rfl
  refine z_newI C hW ac_int hf ⟨by show _ + 1 ≤ 372; omega, by show _ + 600 ≤ 600 * 372; omega⟩ dX11_init_65 (fun a153 g152 H hf hg hW => ?_)
  have e0 := ra_to (Z := Z) hpw hg hx0
  have e1 := ra_to (Z := Z) hpw hg hx1
  rw [← e0] at hl
  rw [← e1] at hl
  rw [← e0]
  have hA := hA.tr hg
  refine W.widen (k := 8) (n := 600 * 8) (by omega) (by omega) ?_
  refine zp_X11_33 C hW hin hf dX11_init_67 (fun g154 H locs hf hgn hW => ?_)
  have hA := hA.w hgn
  refine lv_aload_n C.1 C.2.1 dX11_init_70 rfl (lv_at hl 0 rfl) ?_
  refine lv_bipush (v := 40) C.1 C.2.1 dX11_init_71 (by decide) ?_
  obtain ⟨hx0, hf⟩ := ck_t hf
  obtain ⟨hx1, hf⟩ := ck_t hf
  have hpw := hW.2.2.2
  have hl : lv_has ls 8 [(0, .ref (ra Z a153 p0)), (1, .ref (ra Z a153 p1))] := lv_sub hl [0, 1] rfl
  refine z_newZ C hW ac_boolean hf ⟨by show _ + 1 ≤ 372; omega, by show _ + 600 ≤ 600 * 372; omega⟩ dX11_init_73 (fun a156 g155 H hf hg hW => ?_)
  have e0 := ra_to (Z := Z) hpw hg hx0
  have e1 := ra_to (Z := Z) hpw hg hx1
  rw [← e0] at hl
  rw [← e1] at hl
  rw [← e0]
  have hA := hA.tr hg
  refine W.widen (k := 9) (n := 600 * 9) (by omega) (by omega) ?_
  refine zp_X11_36 C hW hin hf dX11_init_75 (fun g157 H locs hf hgn hW => ?_)
  have hA := hA.w hgn
  refine lv_aload_n C.1 C.2.1 dX11_init_78 rfl (lv_at hl 0 rfl) ?_
  refine lv_iconst (v := 0) C.1 C.2.1 dX11_init_79 (by decide) ?_
  obtain ⟨hx0, hf⟩ := ck_t hf
  obtain ⟨hx1, hf⟩ := ck_t hf
  have hpw := hW.2.2.2
  have hl : lv_has ls 8 [(0, .ref (ra Z a156 p0)), (1, .ref (ra Z a156 p1))] := lv_sub hl [0, 1] rfl
  refine z_newI C hW ac_int hf ⟨by show _ + 1 ≤ 372; omega, by show _ + 600 ≤ 600 * 372; omega⟩ dX11_init_80 (fun a159 g158 H hf hg hW => ?_)
  have e0 := ra_to (Z := Z) hpw hg hx0
  have e1 := ra_to (Z := Z) hpw hg hx1
  rw [← e0] at hl
  rw [← e1] at hl
  rw [← e0]
  have hA := hA.tr hg
  refine W.widen (k := 10) (n := 600 * 10) (by omega) (by omega) ?_
  refine zp_X11_40 C hW hf dX11_init_82 (fun g160 H locs hf hgn hW => ?_)
  have hA := hA.w hgn
  refine lv_aload_n C.1 C.2.1 dX11_init_85 rfl (lv_at hl 0 rfl) ?_
  refine z_ldcS (a := a159) C (x := 1000000) (i := 0) rfl ms_X11_43 dX11_init_86 ?_
  refine zp_X11_45 C hW hf dX11_init_88 (fun g161 H locs hf hgn hW => ?_)
  have hA := hA.w hgn
  refine lv_aload_n C.1 C.2.1 dX11_init_91 rfl (lv_at hl 0 rfl) ?_
  refine lv_aload_n C.1 C.2.1 dX11_init_92 rfl (lv_at hl 1 rfl) ?_
  refine lv_bipush (v := 20) C.1 C.2.1 dX11_init_93 (by decide) ?_
  obtain ⟨hb, hf⟩ := ck_t hf
  obtain ⟨u162, hu162, hf⟩ := bnd_t hf
  obtain ⟨hgn, hf⟩ := ck_t hf
  have hgn := of_decide_eq_true hgn
  refine z_calli hW (z_runV C hW hl hb (ci := 10) (fs := fl_X12 Z a159 (g161.2.2 p1)) rfl rfl rfl (c_X12_next hu162) cw_X11_49 ci_X12_next cs_X12_next (rm_okP (by decide) (by decide)) (rm_cs (by decide)) (As := [.int (20 : Int32)]) rfl rfl (Nat.le_of_ble_eq_true rfl) dX11_init_95) (fun H locs hW => ?_)
  refine W.widen (k := 10) (n := 600 * 10) (by omega) (by omega) ?_
  have hA := hA.w hgn
  refine zp_X11_55 C hW hin hf dX11_init_98 (fun g163 H locs hf hgn hW => ?_)
  have hA := hA.w hgn
  refine lv_aload_n C.1 C.2.1 dX11_init_101 rfl (lv_at hl 0 rfl) ?_
  refine lv_iconst (v := 1) C.1 C.2.1 dX11_init_102 (by decide) ?_
  refine lv_aload_n C.1 C.2.1 dX11_init_103 rfl (lv_at hl 1 rfl) ?_
  refine lv_iconst (v := 3) C.1 C.2.1 dX11_init_104 (by decide) ?_
  obtain ⟨hb, hf⟩ := ck_t hf
  obtain ⟨u164, hu164, hf⟩ := bnd_t hf
  obtain ⟨hgn, hf⟩ := ck_t hf
  have hgn := of_decide_eq_true hgn
  refine z_calli hW (z_runV C hW hl hb (ci := 10) (fs := fl_X12 Z a159 (g163.2.2 p1)) rfl rfl rfl (c_X12_next hu164) cw_X11_49 ci_X12_next cs_X12_next (rm_okP (by decide) (by decide)) (rm_cs (by decide)) (As := [.int (3 : Int32)]) rfl rfl (Nat.le_of_ble_eq_true rfl) dX11_init_105) (fun H locs hW => ?_)
  refine W.widen (k := 10) (n := 600 * 10) (by omega) (by omega) ?_
  have hA := hA.w hgn
  refine lv_iadd C.1 C.2.1 dX11_init_108 ?_
  refine zp_X11_59 C hW hin hf dX11_init_109 (fun g165 H locs hf hgn hW => ?_)
  have hA := hA.w hgn
  refine lv_iconst (v := 0) C.1 C.2.1 dX11_init_112 (by decide) ?_
  refine lv_istore_n (lv' := [(2, .int (0 : Int32)), (0, .ref (ra Z a159 p0)), (1, .ref (ra Z a159 p1))]) C.1 C.2.1 dX11_init_113 rfl hl (by decide) rfl (fun ls hl => ?_)
  exact l_X11_init_114 C hin FU (0 : Int32) g165 10 _ ls _ _ hA (by decide) hW (lv_sub hl [1, 2, 0] rfl) hf
