set_option maxRecDepth 20000 in
set_option maxHeartbeats 1000000 in
theorem q_X11_transcript_87 {l : Launch} {Z : ZT} {h : Hp} {a0 : Nat → Nat} {g0 : PL} {p0 : Nat} {g : PL} {x1 : Nat} {x2 : Int32} {p : Program} {e : Env} {s : State} {m : MethodId} {args : Array Value} {below : List Frame} {meth : Method} {c : Code} (C : CQ p s m args meth c cX11_transcript RX11 8 (some (.array .int)) Z) {out : Nat × PL} {a : Nat → Nat} (hA : AG a0 g0 a g) {ls : Array Slot} {H : Heap} {locs : List Loc} (hW : XG Z h a g s.heap H locs) (hl : lv_has ls 8 [(1, .ref (ra Z a x1)), (2, .int x2)]) (hf : Jp_X11_transcript_87 p0 g x1 x2 = some out) : W p l e (rmP 1 2) s m args below meth c H locs 1 (600 * 1) (MQ below (va_Qr (fun (a1 : Nat → Nat) => AG a0 g0 a1 out.2) (fun a1 x t => x = ra Z a1 out.1 ∧ WdP Z h a1 out.2 t) (FR Z)) args s 2 (600 * 2) (FR Z)) (F0 m 87 ls []) := by
  rw [Jp_X11_transcript_87] at hf
  refine lv_iload_n C.1 C.2.1 dX11_transcript_87 rfl (lv_at hl 1 rfl) ?_
  obtain ⟨hx0, hf⟩ := ck_t hf
  have hpw := hW.2.2.2
  have hl : lv_has ls 8 [(1, .ref (ra Z a x1)), (2, .int x2)] := lv_sub hl [0, 1] rfl
  refine z_newI C hW ac_int hf ⟨by show _ + 1 ≤ 2; omega, by show _ + 600 ≤ 600 * 2; omega⟩ dX11_transcript_88 (fun a2 g1 H hf hg hW => ?_)
  have e0 := ra_to (Z := Z) hpw hg hx0
  rw [← e0] at hl
  have hA := hA.tr hg
  refine W.widen (k := 2) (n := 600 * 2) (by omega) (by omega) ?_
  refine lv_astore_n (lv' := [(3, .ref (ra Z a2 g.1)), (1, .ref (ra Z a2 x1)), (2, .int x2)]) C.1 C.2.1 dX11_transcript_90 rfl hl (by decide) rfl (fun ls hl => ?_)
  refine lv_aload_n C.1 C.2.1 dX11_transcript_91 rfl (lv_at hl 1 rfl) ?_
  refine lv_iconst (v := 0) C.1 C.2.1 dX11_transcript_92 (by decide) ?_
  refine lv_aload_n C.1 C.2.1 dX11_transcript_93 rfl (lv_at hl 0 rfl) ?_
  refine lv_iconst (v := 0) C.1 C.2.1 dX11_transcript_94 (by decide) ?_
  refine lv_iload_n C.1 C.2.1 dX11_transcript_95 rfl (lv_at hl 2 rfl) ?_
  refine z_copyI C hW hl ml_X11_136 (rm_cp (by decide)) hf dX11_transcript_96 (fun g3 H locs hf hgn hW => ?_)
  have hA := hA.w hgn
  refine lv_aload_n C.1 C.2.1 dX11_transcript_99 rfl (lv_at hl 0 rfl) ?_
  obtain rfl := Option.some.inj hf
  exact z_aret C hW (Or.inr ⟨_, rfl⟩) dX11_transcript_100 a2 hA (fun _ q => ⟨rfl, q⟩)
set_option maxRecDepth 20000 in
set_option maxHeartbeats 1000000 in
theorem q_X11_transcript_81 {l : Launch} {Z : ZT} {h : Hp} {a0 : Nat → Nat} {g0 : PL} {p0 : Nat} {g : PL} {r21 : Int32 × Int32 × PL → Option (Nat × PL)} {x1 : Nat} {x2 : Int32} {x3 : Nat} {x4 : Int32} {x5 : Int32} {p : Program} {e : Env} {s : State} {m : MethodId} {args : Array Value} {below : List Frame} {meth : Method} {c : Code} (C : CQ p s m args meth c cX11_transcript RX11 8 (some (.array .int)) Z) {out : Nat × PL} (hr21 : ∀ (x2 : Int32) (x5 : Int32) (g : PL) (a : Nat → Nat) (ls : Array Slot) (H : Heap) (locs : List Loc), AG a0 g0 a g → XG Z h a g s.heap H locs → lv_has ls 8 [(0, .ref (ra Z a p0)), (1, .ref (ra Z a x1)), (2, .int x2), (3, .ref (ra Z a x3)), (4, .int x4), (5, .int x5)] → r21 (x2, x5, g) = some out → W p l e (rmP 1 2) s m args below meth c H locs 1 (600 * 1) (MQ below (va_Qr (fun (a1 : Nat → Nat) => AG a0 g0 a1 out.2) (fun a1 x t => x = ra Z a1 out.1 ∧ WdP Z h a1 out.2 t) (FR Z)) args s 2 (600 * 2) (FR Z)) (F0 m 21 ls [])) {a : Nat → Nat} (hA : AG a0 g0 a g) {ls : Array Slot} {H : Heap} {locs : List Loc} (hW : XG Z h a g s.heap H locs) (hl : lv_has ls 8 [(0, .ref (ra Z a p0)), (1, .ref (ra Z a x1)), (2, .int x2), (3, .ref (ra Z a x3)), (4, .int x4), (5, .int x5)]) (hf : Jp_X11_transcript_81 p0 g r21 x1 x2 x3 x4 x5 = some out) : W p l e (rmP 1 2) s m args below meth c H locs 1 (600 * 1) (MQ below (va_Qr (fun (a1 : Nat → Nat) => AG a0 g0 a1 out.2) (fun a1 x t => x = ra Z a1 out.1 ∧ WdP Z h a1 out.2 t) (FR Z)) args s 2 (600 * 2) (FR Z)) (F0 m 81 ls []) := by
  rw [Jp_X11_transcript_81] at hf
  refine z_iinc (w := 1) C hf dX11_transcript_81 hl (k := 5) rfl (by decide) (by decide) (fun v4 => [(5, .int v4), (0, .ref (ra Z a p0)), (1, .ref (ra Z a x1)), (2, .int x2), (3, .ref (ra Z a x3)), (4, .int x4)]) (fun _ => rfl) (fun v4 ls hf hl => ?_)
  refine lv_goto (tgt := 21) C.1 C.2.1 dX11_transcript_84 (by decide) ?_
  exact hr21 x2 v4 g _ ls _ _ hA hW (lv_sub hl [1, 2, 3, 4, 5, 0] rfl) hf
set_option maxRecDepth 20000 in
set_option maxHeartbeats 1000000 in
theorem q_X11_transcript_75 {l : Launch} {Z : ZT} {h : Hp} {a0 : Nat → Nat} {g0 : PL} {p0 : Nat} {g : PL} {r21 : Int32 × Int32 × PL → Option (Nat × PL)} {r43 : Int32 × Int32 × PL → Option (Nat × PL)} {x1 : Nat} {x2 : Int32} {x3 : Nat} {x4 : Int32} {x5 : Int32} {x6 : Int32} {x7 : Int32} {p : Program} {e : Env} {s : State} {m : MethodId} {args : Array Value} {below : List Frame} {meth : Method} {c : Code} (C : CQ p s m args meth c cX11_transcript RX11 8 (some (.array .int)) Z) {out : Nat × PL} (hr21 : ∀ (x2 : Int32) (x5 : Int32) (g : PL) (a : Nat → Nat) (ls : Array Slot) (H : Heap) (locs : List Loc), AG a0 g0 a g → XG Z h a g s.heap H locs → lv_has ls 8 [(0, .ref (ra Z a p0)), (1, .ref (ra Z a x1)), (2, .int x2), (3, .ref (ra Z a x3)), (4, .int x4), (5, .int x5)] → r21 (x2, x5, g) = some out → W p l e (rmP 1 2) s m args below meth c H locs 1 (600 * 1) (MQ below (va_Qr (fun (a1 : Nat → Nat) => AG a0 g0 a1 out.2) (fun a1 x t => x = ra Z a1 out.1 ∧ WdP Z h a1 out.2 t) (FR Z)) args s 2 (600 * 2) (FR Z)) (F0 m 21 ls [])) (hr43 : ∀ (x2 : Int32) (x7 : Int32) (g : PL) (a : Nat → Nat) (ls : Array Slot) (H : Heap) (locs : List Loc), AG a0 g0 a g → XG Z h a g s.heap H locs → lv_has ls 8 [(0, .ref (ra Z a p0)), (1, .ref (ra Z a x1)), (2, .int x2), (3, .ref (ra Z a x3)), (4, .int x4), (5, .int x5), (6, .int x6), (7, .int x7)] → r43 (x2, x7, g) = some out → W p l e (rmP 1 2) s m args below meth c H locs 1 (600 * 1) (MQ below (va_Qr (fun (a1 : Nat → Nat) => AG a0 g0 a1 out.2) (fun a1 x t => x = ra Z a1 out.1 ∧ WdP Z h a1 out.2 t) (FR Z)) args s 2 (600 * 2) (FR Z)) (F0 m 43 ls [])) {a : Nat → Nat} (hA : AG a0 g0 a g) {ls : Array Slot} {H : Heap} {locs : List Loc} (hW : XG Z h a g s.heap H locs) (hl : lv_has ls 8 [(0, .ref (ra Z a p0)), (1, .ref (ra Z a x1)), (2, .int x2), (3, .ref (ra Z a x3)), (4, .int x4), (5, .int x5), (6, .int x6), (7, .int x7)]) (hf : Jp_X11_transcript_75 p0 g r21 r43 x1 x2 x3 x4 x5 x6 x7 = some out) : W p l e (rmP 1 2) s m args below meth c H locs 1 (600 * 1) (MQ below (va_Qr (fun (a1 : Nat → Nat) => AG a0 g0 a1 out.2) (fun a1 x t => x = ra Z a1 out.1 ∧ WdP Z h a1 out.2 t) (FR Z)) args s 2 (600 * 2) (FR Z)) (F0 m 75 ls []) := by
  rw [Jp_X11_transcript_75] at hf
  refine z_iinc (w := 1) C hf dX11_transcript_75 hl (k := 7) rfl (by decide) (by decide) (fun v5 => [(7, .int v5), (0, .ref (ra Z a p0)), (1, .ref (ra Z a x1)), (2, .int x2), (3, .ref (ra Z a x3)), (4, .int x4), (5, .int x5), (6, .int x6)]) (fun _ => rfl) (fun v5 ls hf hl => ?_)
  refine lv_goto (tgt := 43) C.1 C.2.1 dX11_transcript_78 (by decide) ?_
  exact hr43 x2 v5 g _ ls _ _ hA hW (lv_sub hl [1, 2, 3, 4, 5, 6, 7, 0] rfl) hf
set_option maxRecDepth 20000 in
set_option maxHeartbeats 1000000 in
theorem l_X11_transcript_43 {l : Launch} {Z : ZT} {h : Hp} {a0 : Nat → Nat} {g0 : PL} {p0 : Nat} {r21 : Int32 × Int32 × PL → Option (Nat × PL)} {x1 : Nat} {x3 : Nat} {x4 : Int32} {x5 : Int32} {x6 : Int32} {p : Program} {e : Env} {s : State} {m : MethodId} {args : Array Value} {below : List Frame} {meth : Method} {c : Code} (C : CQ p s m args meth c cX11_transcript RX11 8 (some (.array .int)) Z) {out : Nat × PL} (hr21 : ∀ (x2 : Int32) (x5 : Int32) (g : PL) (a : Nat → Nat) (ls : Array Slot) (H : Heap) (locs : List Loc), AG a0 g0 a g → XG Z h a g s.heap H locs → lv_has ls 8 [(0, .ref (ra Z a p0)), (1, .ref (ra Z a x1)), (2, .int x2), (3, .ref (ra Z a x3)), (4, .int x4), (5, .int x5)] → r21 (x2, x5, g) = some out → W p l e (rmP 1 2) s m args below meth c H locs 1 (600 * 1) (MQ below (va_Qr (fun (a1 : Nat → Nat) => AG a0 g0 a1 out.2) (fun a1 x t => x = ra Z a1 out.1 ∧ WdP Z h a1 out.2 t) (FR Z)) args s 2 (600 * 2) (FR Z)) (F0 m 21 ls [])) : ∀ (n : Nat) (x2 : Int32) (x7 : Int32) (g : PL) (a : Nat → Nat) (ls : Array Slot) (H : Heap) (locs : List Loc), AG a0 g0 a g → XG Z h a g s.heap H locs → lv_has ls 8 [(0, .ref (ra Z a p0)), (1, .ref (ra Z a x1)), (2, .int x2), (3, .ref (ra Z a x3)), (4, .int x4), (5, .int x5), (6, .int x6), (7, .int x7)] → Lp (Fp_X11_transcript_43 p0 r21 x1 x3 x4 x5 x6) n (x2, x7, g) = some out → W p l e (rmP 1 2) s m args below meth c H locs 1 (600 * 1) (MQ below (va_Qr (fun (a1 : Nat → Nat) => AG a0 g0 a1 out.2) (fun a1 x t => x = ra Z a1 out.1 ∧ WdP Z h a1 out.2 t) (FR Z)) args s 2 (600 * 2) (FR Z)) (F0 m 43 ls []) := by
  intro n
  induction n with
  | zero => intro x2 x7 g a ls H locs hA hW hl hf; cases hf
  | succ n ih =>
    intro x2 x7 g a ls H locs hA hW hl hf
    rw [Lp_s] at hf
    rw [Fp_X11_transcript_43] at hf
    try dsimp only at hf
    refine lv_iload C.1 C.2.1 dX11_transcript_43 (lv_at hl 7 rfl) ?_
    refine lv_aload_n C.1 C.2.1 dX11_transcript_45 rfl (lv_at hl 0 rfl) ?_
    refine zg_X11_18 C hW hf dX11_transcript_46 (fun q6 hf => ?_)
    refine lv_iload C.1 C.2.1 dX11_transcript_49 (lv_at hl 6 rfl) ?_
    refine lv_iconst (v := 1) C.1 C.2.1 dX11_transcript_51 (by decide) ?_
    refine lv_iadd C.1 C.2.1 dX11_transcript_52 ?_
    refine z_iald C hW hf dX11_transcript_53 (fun hf => ?_)
    refine z_cmpge (tgt := 81) C hf dX11_transcript_54 (by decide) (fun hf => ?_) (fun hf => ?_)
    · exact q_X11_transcript_81 C hr21 hA hW (lv_sub hl [0, 1, 2, 3, 4, 5] rfl) hf
    · refine lv_aload_n C.1 C.2.1 dX11_transcript_57 rfl (lv_at hl 0 rfl) ?_
      refine zg_X11_36 C hW hf dX11_transcript_58 (fun q7 hf => ?_)
      refine lv_iload C.1 C.2.1 dX11_transcript_61 (lv_at hl 7 rfl) ?_
      refine z_zald C hW hf dX11_transcript_63 (fun hf => ?_)
      refine z_ifne (tgt := 75) C hf dX11_transcript_64 (by decide) (fun hf => ?_) (fun hf => ?_)
      · exact q_X11_transcript_75 C hr21 ih hA hW (lv_sub hl [0, 1, 2, 3, 4, 5, 6, 7] rfl) hf
      · refine lv_aload_n C.1 C.2.1 dX11_transcript_67 rfl (lv_at hl 1 rfl) ?_
        refine lv_iload_n C.1 C.2.1 dX11_transcript_68 rfl (lv_at hl 2 rfl) ?_
        refine z_iinc (w := 1) C hf dX11_transcript_69 hl (k := 2) rfl (by decide) (by decide) (fun v8 => [(2, .int v8), (0, .ref (ra Z a p0)), (1, .ref (ra Z a x1)), (3, .ref (ra Z a x3)), (4, .int x4), (5, .int x5), (6, .int x6), (7, .int x7)]) (fun _ => rfl) (fun v8 ls hf hl => ?_)
        refine lv_iload C.1 C.2.1 dX11_transcript_72 (lv_at hl 7 rfl) ?_
        refine z_iast C hW hf dX11_transcript_74 (fun g9 H locs hf hgn hW => ?_)
        have hA := hA.w (show g9.1 = g.1 from (congrArg (fun q : PL => q.1) hgn).trans rfl)
        exact q_X11_transcript_75 C hr21 ih hA hW (lv_sub hl [1, 2, 0, 3, 4, 5, 6, 7] rfl) hf
set_option maxRecDepth 20000 in
set_option maxHeartbeats 1000000 in
theorem l_X11_transcript_21 {l : Launch} {Z : ZT} {h : Hp} {a0 : Nat → Nat} {g0 : PL} {p0 : Nat} {x1 : Nat} {x3 : Nat} {x4 : Int32} {p : Program} {e : Env} {s : State} {m : MethodId} {args : Array Value} {below : List Frame} {meth : Method} {c : Code} (C : CQ p s m args meth c cX11_transcript RX11 8 (some (.array .int)) Z) {out : Nat × PL} : ∀ (n : Nat) (x2 : Int32) (x5 : Int32) (g : PL) (a : Nat → Nat) (ls : Array Slot) (H : Heap) (locs : List Loc), AG a0 g0 a g → XG Z h a g s.heap H locs → lv_has ls 8 [(0, .ref (ra Z a p0)), (1, .ref (ra Z a x1)), (2, .int x2), (3, .ref (ra Z a x3)), (4, .int x4), (5, .int x5)] → Lp (Fp_X11_transcript_21 p0 x1 x3 x4) n (x2, x5, g) = some out → W p l e (rmP 1 2) s m args below meth c H locs 1 (600 * 1) (MQ below (va_Qr (fun (a1 : Nat → Nat) => AG a0 g0 a1 out.2) (fun a1 x t => x = ra Z a1 out.1 ∧ WdP Z h a1 out.2 t) (FR Z)) args s 2 (600 * 2) (FR Z)) (F0 m 21 ls []) := by
  intro n
  induction n with
  | zero => intro x2 x5 g a ls H locs hA hW hl hf; cases hf
  | succ n ih =>
    intro x2 x5 g a ls H locs hA hW hl hf
    rw [Lp_s] at hf
    refine lv_iload C.1 C.2.1 dX11_transcript_21 (lv_at hl 5 rfl) ?_
    refine lv_iload C.1 C.2.1 dX11_transcript_23 (lv_at hl 4 rfl) ?_
    refine z_cmpge (tgt := 87) C hf dX11_transcript_25 (by decide) (fun hf => ?_) (fun hf => ?_)
    · exact q_X11_transcript_87 C hA hW (lv_sub hl [1, 2] rfl) hf
    · refine lv_aload_n C.1 C.2.1 dX11_transcript_28 rfl (lv_at hl 3 rfl) ?_
      refine lv_iload C.1 C.2.1 dX11_transcript_29 (lv_at hl 5 rfl) ?_
      refine z_iald C hW hf dX11_transcript_31 (fun hf => ?_)
      refine z_ist C hf dX11_transcript_32 hl (by decide) (fun v10 => [(6, .int v10), (0, .ref (ra Z a p0)), (1, .ref (ra Z a x1)), (2, .int x2), (3, .ref (ra Z a x3)), (4, .int x4), (5, .int x5)]) (fun _ => rfl) (fun v10 ls hf hl => ?_)
      refine lv_aload_n C.1 C.2.1 dX11_transcript_34 rfl (lv_at hl 1 rfl) ?_
      refine zg_X11_18 C hW hf dX11_transcript_35 (fun q11 hf => ?_)
      refine lv_iload C.1 C.2.1 dX11_transcript_38 (lv_at hl 0 rfl) ?_
      refine z_iald C hW hf dX11_transcript_40 (fun hf => ?_)
      refine z_ist C hf dX11_transcript_41 hl (by decide) (fun v12 => [(7, .int v12), (6, .int v10), (0, .ref (ra Z a p0)), (1, .ref (ra Z a x1)), (2, .int x2), (3, .ref (ra Z a x3)), (4, .int x4), (5, .int x5)]) (fun _ => rfl) (fun v12 ls hf hl => ?_)
      exact l_X11_transcript_43 C ih FU x2 v12 g _ ls _ _ hA hW (lv_sub hl [2, 3, 4, 5, 6, 7, 1, 0] rfl) hf
set_option maxRecDepth 20000 in
set_option maxHeartbeats 1000000 in
theorem c_X11_transcript {l : Launch} {Z : ZT} {h : Hp} {a : Nat → Nat} {g : PL} {p0 : Nat} {out : Nat × PL} (hf : fp_X11_transcript g p0 = some out) : Met l yX11_transcript (wY yX11_transcript cX11_transcript 8 (some (.array .int))) (rmP 1 2) (va_Pc [.ref (ra Z a p0)] (WdP Z h a g)) (va_Qr (fun (a1 : Nat → Nat) => AG a g a1 out.2) (fun a1 x t => x = ra Z a1 out.1 ∧ WdP Z h a1 out.2 t) (FR Z)) 2 (600 * 2) (FR Z) := by
  refine metZ RX11 rfl (by decide +kernel) (Nat.le_of_ble_eq_true rfl) ?_
  intro p e s m args below meth c C hin hW ls hl
  have hl : lv_has ls 8 [(0, .ref (ra Z a p0))] := hl
  have hA := AG.rf a g
  unfold fp_X11_transcript at hf
  refine W.widen (k := 0) (n := 600 * 0) (Nat.le_refl _) (Nat.le_refl _) ?_
  refine lv_aload_n C.1 C.2.1 dX11_transcript_0 rfl (lv_at hl 0 rfl) ?_
  refine zg_X11_103 C hW hf dX11_transcript_1 (fun hf => ?_)
  obtain ⟨hx0, hf⟩ := ck_t hf
  have hpw := hW.2.2.2
  have hl : lv_has ls 8 [(0, .ref (ra Z a p0))] := lv_sub hl [0] rfl
  refine z_newI C hW ac_int hf ⟨by show _ + 1 ≤ 2; omega, by show _ + 600 ≤ 600 * 2; omega⟩ dX11_transcript_4 (fun a14 g13 H hf hg hW => ?_)
  have e0 := ra_to (Z := Z) hpw hg hx0
  rw [← e0] at hl
  have hA := hA.tr hg
  refine W.widen (k := 1) (n := 600 * 1) (by omega) (by omega) ?_
  refine lv_astore_n (lv' := [(1, .ref (ra Z a14 g.1)), (0, .ref (ra Z a14 p0))]) C.1 C.2.1 dX11_transcript_6 rfl hl (by decide) rfl (fun ls hl => ?_)
  refine lv_iconst (v := 0) C.1 C.2.1 dX11_transcript_7 (by decide) ?_
  refine lv_istore_n (lv' := [(2, .int (0 : Int32)), (1, .ref (ra Z a14 g.1)), (0, .ref (ra Z a14 p0))]) C.1 C.2.1 dX11_transcript_8 rfl hl (by decide) rfl (fun ls hl => ?_)
  refine lv_aload_n C.1 C.2.1 dX11_transcript_9 rfl (lv_at hl 2 rfl) ?_
  refine zg_X11_40 C hW hf dX11_transcript_10 (fun q15 hf => ?_)
  refine lv_astore_n (lv' := [(3, .ref (ra Z a14 q15)), (2, .int (0 : Int32)), (1, .ref (ra Z a14 g.1)), (0, .ref (ra Z a14 p0))]) C.1 C.2.1 dX11_transcript_13 rfl hl (by decide) rfl (fun ls hl => ?_)
  refine lv_aload_n C.1 C.2.1 dX11_transcript_14 rfl (lv_at hl 0 rfl) ?_
  refine z_alenI C hW hf dX11_transcript_15 (fun hf => ?_)
  refine z_ist C hf dX11_transcript_16 hl (by decide) (fun v16 => [(4, .int v16), (3, .ref (ra Z a14 q15)), (2, .int (0 : Int32)), (1, .ref (ra Z a14 g.1)), (0, .ref (ra Z a14 p0))]) (fun _ => rfl) (fun v16 ls hf hl => ?_)
  refine lv_iconst (v := 0) C.1 C.2.1 dX11_transcript_18 (by decide) ?_
  refine lv_istore (lv' := [(5, .int (0 : Int32)), (4, .int v16), (3, .ref (ra Z a14 q15)), (2, .int (0 : Int32)), (1, .ref (ra Z a14 g.1)), (0, .ref (ra Z a14 p0))]) C.1 C.2.1 dX11_transcript_19 hl (by decide) rfl (fun ls hl => ?_)
  exact l_X11_transcript_21 C FU (0 : Int32) (0 : Int32) g13 _ ls _ _ hA hW (lv_sub hl [5, 4, 3, 2, 1, 0] rfl) hf
set_option maxRecDepth 20000 in
set_option maxHeartbeats 1000000 in
theorem q_X11_cutOne_115 {l : Launch} {Z : ZT} {h : Hp} {a0 : Nat → Nat} {g0 : PL} {p0 : Nat} {p1 : Int32} {g : PL} {x4 : Nat} {p : Program} {e : Env} {s : State} {m : MethodId} {args : Array Value} {below : List Frame} {meth : Method} {c : Code} (C : CQ p s m args meth c cX11_cutOne RX11 6 none Z) {out : PL} {a : Nat → Nat} (hA : AG a0 g0 a g) {ls : Array Slot} {H : Heap} {locs : List Loc} (hW : XG Z h a g s.heap H locs) (hl : lv_has ls 6 [(0, .ref (ra Z a p0)), (1, .int p1), (4, .ref (ra Z a x4))]) (hf : Jp_X11_cutOne_115 p0 p1 g x4 = some out) : W p l e (rmP 2 1) s m args below meth c H locs 1 (600 * 1) (MQ below (va_Qv (fun (a1 : Nat → Nat) => AG a0 g0 a1 out) (fun a1 => WdP Z h a1 out) (FR Z)) args s 1 (600 * 1) (FR Z)) (F0 m 115 ls []) := by
  rw [Jp_X11_cutOne_115] at hf
  refine lv_aload_n C.1 C.2.1 dX11_cutOne_115 rfl (lv_at hl 0 rfl) ?_
  refine lv_aload C.1 C.2.1 dX11_cutOne_116 (lv_at hl 2 rfl) ?_
  refine zp_X11_40 C hW hf dX11_cutOne_118 (fun g1 H locs hf hgn hW => ?_)
  have hA := hA.w hgn
  obtain rfl := Option.some.inj hf
  exact z_vret C hW dX11_cutOne_121 a hA (fun _ q => q)
set_option maxRecDepth 20000 in
set_option maxHeartbeats 1000000 in
theorem q_X11_cutOne_107 {l : Launch} {Z : ZT} {h : Hp} {a0 : Nat → Nat} {g0 : PL} {p0 : Nat} {p1 : Int32} {g : PL} {r76 : Int32 × PL → Option (PL)} {x3 : Int32} {x4 : Nat} {x5 : Int32} {s0 : Nat} {s1 : Int32} {s2 : Nat} {s3 : Int32} {p : Program} {e : Env} {s : State} {m : MethodId} {args : Array Value} {below : List Frame} {meth : Method} {c : Code} (C : CQ p s m args meth c cX11_cutOne RX11 6 none Z) {out : PL} (hr76 : ∀ (x5 : Int32) (g : PL) (a : Nat → Nat) (ls : Array Slot) (H : Heap) (locs : List Loc), AG a0 g0 a g → XG Z h a g s.heap H locs → lv_has ls 6 [(0, .ref (ra Z a p0)), (1, .int p1), (3, .int x3), (4, .ref (ra Z a x4)), (5, .int x5)] → r76 (x5, g) = some out → W p l e (rmP 2 1) s m args below meth c H locs 1 (600 * 1) (MQ below (va_Qv (fun (a1 : Nat → Nat) => AG a0 g0 a1 out) (fun a1 => WdP Z h a1 out) (FR Z)) args s 1 (600 * 1) (FR Z)) (F0 m 76 ls [])) {a : Nat → Nat} (hA : AG a0 g0 a g) {ls : Array Slot} {H : Heap} {locs : List Loc} (hW : XG Z h a g s.heap H locs) (hl : lv_has ls 6 [(0, .ref (ra Z a p0)), (1, .int p1), (3, .int x3), (4, .ref (ra Z a x4)), (5, .int x5)]) (hf : Jp_X11_cutOne_107 p0 p1 g r76 x3 x4 x5 s0 s1 s2 s3 = some out) : W p l e (rmP 2 1) s m args below meth c H locs 1 (600 * 1) (MQ below (va_Qv (fun (a1 : Nat → Nat) => AG a0 g0 a1 out) (fun a1 => WdP Z h a1 out) (FR Z)) args s 1 (600 * 1) (FR Z)) (F0 m 107 ls [.int s3, .ref (ra Z a s2), .int s1, .ref (ra Z a s0)]) := by
  rw [Jp_X11_cutOne_107] at hf
  refine z_iald C hW hf dX11_cutOne_107 (fun hf => ?_)
  refine z_iast C hW hf dX11_cutOne_108 (fun g2 H locs hf hgn hW => ?_)
  have hA := hA.w (show g2.1 = g.1 from (congrArg (fun q : PL => q.1) hgn).trans rfl)
  refine z_iinc (w := 1) C hf dX11_cutOne_109 hl (k := 4) rfl (by decide) (by decide) (fun v3 => [(5, .int v3), (0, .ref (ra Z a p0)), (1, .int p1), (3, .int x3), (4, .ref (ra Z a x4))]) (fun _ => rfl) (fun v3 ls hf hl => ?_)
  refine lv_goto (tgt := 76) C.1 C.2.1 dX11_cutOne_112 (by decide) ?_
  exact hr76 v3 g2 _ ls _ _ hA hW (lv_sub hl [1, 2, 3, 4, 0] rfl) hf
set_option maxRecDepth 20000 in
set_option maxHeartbeats 1000000 in
theorem l_X11_cutOne_76 {l : Launch} {Z : ZT} {h : Hp} {a0 : Nat → Nat} {g0 : PL} {p0 : Nat} {p1 : Int32} {x3 : Int32} {x4 : Nat} {p : Program} {e : Env} {s : State} {m : MethodId} {args : Array Value} {below : List Frame} {meth : Method} {c : Code} (C : CQ p s m args meth c cX11_cutOne RX11 6 none Z) {out : PL} : ∀ (n : Nat) (x5 : Int32) (g : PL) (a : Nat → Nat) (ls : Array Slot) (H : Heap) (locs : List Loc), AG a0 g0 a g → XG Z h a g s.heap H locs → lv_has ls 6 [(0, .ref (ra Z a p0)), (1, .int p1), (3, .int x3), (4, .ref (ra Z a x4)), (5, .int x5)] → Lp (Fp_X11_cutOne_76 p0 p1 x3 x4) n (x5, g) = some out → W p l e (rmP 2 1) s m args below meth c H locs 1 (600 * 1) (MQ below (va_Qv (fun (a1 : Nat → Nat) => AG a0 g0 a1 out) (fun a1 => WdP Z h a1 out) (FR Z)) args s 1 (600 * 1) (FR Z)) (F0 m 76 ls []) := by
  intro n
  induction n with
  | zero => intro x5 g a ls H locs hA hW hl hf; cases hf
  | succ n ih =>
    intro x5 g a ls H locs hA hW hl hf
    rw [Lp_s] at hf
    rw [Fp_X11_cutOne_76] at hf
    try dsimp only at hf
    refine lv_iload C.1 C.2.1 dX11_cutOne_76 (lv_at hl 4 rfl) ?_
    refine lv_aload C.1 C.2.1 dX11_cutOne_78 (lv_at hl 3 rfl) ?_
    refine z_alenI C hW hf dX11_cutOne_80 (fun hf => ?_)
    refine z_cmpge (tgt := 115) C hf dX11_cutOne_81 (by decide) (fun hf => ?_) (fun hf => ?_)
    · exact q_X11_cutOne_115 C hA hW (lv_sub hl [0, 1, 3] rfl) hf
    · refine lv_aload C.1 C.2.1 dX11_cutOne_84 (lv_at hl 3 rfl) ?_
      refine lv_iload C.1 C.2.1 dX11_cutOne_86 (lv_at hl 4 rfl) ?_
      refine lv_aload_n C.1 C.2.1 dX11_cutOne_88 rfl (lv_at hl 0 rfl) ?_
      refine zg_X11_40 C hW hf dX11_cutOne_89 (fun q4 hf => ?_)
      refine lv_iload C.1 C.2.1 dX11_cutOne_92 (lv_at hl 4 rfl) ?_
      refine lv_iload_n C.1 C.2.1 dX11_cutOne_94 rfl (lv_at hl 2 rfl) ?_
      refine z_cmpge (tgt := 103) C hf dX11_cutOne_95 (by decide) (fun hf => ?_) (fun hf => ?_)
      · refine lv_iload C.1 C.2.1 dX11_cutOne_103 (lv_at hl 4 rfl) ?_
        refine lv_iconst (v := 1) C.1 C.2.1 dX11_cutOne_105 (by decide) ?_
        refine lv_iadd C.1 C.2.1 dX11_cutOne_106 ?_
        exact q_X11_cutOne_107 C ih hA hW (lv_sub hl [0, 1, 2, 3, 4] rfl) hf
      · refine lv_iload C.1 C.2.1 dX11_cutOne_98 (lv_at hl 4 rfl) ?_
        refine lv_goto (tgt := 107) C.1 C.2.1 dX11_cutOne_100 (by decide) ?_
        exact q_X11_cutOne_107 C ih hA hW (lv_sub hl [0, 1, 2, 3, 4] rfl) hf
set_option maxRecDepth 20000 in
set_option maxHeartbeats 1000000 in
theorem q_X11_cutOne_51 {l : Launch} {Z : ZT} {h : Hp} {a0 : Nat → Nat} {g0 : PL} {p0 : Nat} {p1 : Int32} {g : PL} {x2 : Int32} {p : Program} {e : Env} {s : State} {m : MethodId} {args : Array Value} {below : List Frame} {meth : Method} {c : Code} (C : CQ p s m args meth c cX11_cutOne RX11 6 none Z) {out : PL} {a : Nat → Nat} (hA : AG a0 g0 a g) {ls : Array Slot} {H : Heap} {locs : List Loc} (hW : XG Z h a g s.heap H locs) (hl : lv_has ls 6 [(0, .ref (ra Z a p0)), (1, .int p1), (2, .int x2)]) (hf : Jp_X11_cutOne_51 p0 p1 g x2 = some out) : W p l e (rmP 2 1) s m args below meth c H locs 0 (600 * 0) (MQ below (va_Qv (fun (a1 : Nat → Nat) => AG a0 g0 a1 out) (fun a1 => WdP Z h a1 out) (FR Z)) args s 1 (600 * 1) (FR Z)) (F0 m 51 ls []) := by
  rw [Jp_X11_cutOne_51] at hf
  refine lv_aload_n C.1 C.2.1 dX11_cutOne_51 rfl (lv_at hl 0 rfl) ?_
  refine lv_iload_n C.1 C.2.1 dX11_cutOne_52 rfl (lv_at hl 2 rfl) ?_
  obtain ⟨hb, hf⟩ := ck_t hf
  obtain ⟨u5, hu5, hf⟩ := bnd_t hf
  refine z_calli hW (z_runV C hW hl hb (ci := 9) (fs := fl_X11 Z a (g.2.2 p0)) rfl rfl rfl (c_X11_shotOf hu5) cw_X11_133 ci_X11_shotOf cs_X11_shotOf (rm_okP (by decide) (by decide)) (rm_cs (by decide)) (As := [.int x2]) rfl rfl (Nat.le_of_ble_eq_true rfl) dX11_cutOne_53) (fun H locs hW => ?_)
  refine W.widen (k := 0) (n := 600 * 0) (by omega) (by omega) ?_
  refine lv_istore_n (lv' := [(3, .int u5), (0, .ref (ra Z a p0)), (1, .int p1), (2, .int x2)]) C.1 C.2.1 dX11_cutOne_56 rfl hl (by decide) rfl (fun ls hl => ?_)
  refine lv_iload_n C.1 C.2.1 dX11_cutOne_57 rfl (lv_at hl 0 rfl) ?_
  refine z_ifge (tgt := 62) C hf dX11_cutOne_58 (by decide) (fun hf => ?_) (fun hf => ?_)
  · refine lv_aload_n C.1 C.2.1 dX11_cutOne_62 rfl (lv_at hl 1 rfl) ?_
    refine zg_X11_40 C hW hf dX11_cutOne_63 (fun q6 hf => ?_)
    refine z_alenI C hW hf dX11_cutOne_66 (fun hf => ?_)
    refine lv_iconst (v := 1) C.1 C.2.1 dX11_cutOne_67 (by decide) ?_
    refine lv_isub C.1 C.2.1 dX11_cutOne_68 ?_
    obtain ⟨hx0, hf⟩ := ck_t hf
    have hpw := hW.2.2.2
    have hl : lv_has ls 6 [(3, .int u5), (0, .ref (ra Z a p0)), (1, .int p1), (2, .int x2)] := lv_sub hl [0, 1, 2, 3] rfl
    refine z_newI C hW ac_int hf ⟨by show _ + 1 ≤ 1; omega, by show _ + 600 ≤ 600 * 1; omega⟩ dX11_cutOne_69 (fun a8 g7 H hf hg hW => ?_)
    have e0 := ra_to (Z := Z) hpw hg hx0
    rw [← e0] at hl
    have hA := hA.tr hg
    refine W.widen (k := 1) (n := 600 * 1) (by omega) (by omega) ?_
    refine lv_astore (lv' := [(4, .ref (ra Z a8 g.1)), (3, .int u5), (0, .ref (ra Z a8 p0)), (1, .int p1), (2, .int x2)]) C.1 C.2.1 dX11_cutOne_71 hl (by decide) rfl (fun ls hl => ?_)
    refine lv_iconst (v := 0) C.1 C.2.1 dX11_cutOne_73 (by decide) ?_
    refine lv_istore (lv' := [(5, .int (0 : Int32)), (4, .ref (ra Z a8 g.1)), (3, .int u5), (0, .ref (ra Z a8 p0)), (1, .int p1), (2, .int x2)]) C.1 C.2.1 dX11_cutOne_74 hl (by decide) rfl (fun ls hl => ?_)
    exact l_X11_cutOne_76 C FU (0 : Int32) g7 _ ls _ _ hA hW (lv_sub hl [3, 4, 2, 1, 0] rfl) hf
  · obtain rfl := Option.some.inj hf
    refine W.widen (k := 1) (n := 600 * 1) (by omega) (by omega) ?_
    exact z_vret C hW dX11_cutOne_61 a hA (fun _ q => q)
set_option maxRecDepth 20000 in
set_option maxHeartbeats 1000000 in
theorem l_X11_cutOne_23 {l : Launch} {Z : ZT} {h : Hp} {a0 : Nat → Nat} {g0 : PL} {p0 : Nat} {p1 : Int32} {g : PL} {x2 : Int32} {p : Program} {e : Env} {s : State} {m : MethodId} {args : Array Value} {below : List Frame} {meth : Method} {c : Code} (C : CQ p s m args meth c cX11_cutOne RX11 6 none Z) {out : PL} : ∀ (n : Nat) (x3 : Int32) (a : Nat → Nat) (ls : Array Slot) (H : Heap) (locs : List Loc), AG a0 g0 a g → XG Z h a g s.heap H locs → lv_has ls 6 [(0, .ref (ra Z a p0)), (1, .int p1), (2, .int x2), (3, .int x3)] → Lp (Fp_X11_cutOne_23 p0 p1 g x2) n x3 = some out → W p l e (rmP 2 1) s m args below meth c H locs 0 (600 * 0) (MQ below (va_Qv (fun (a1 : Nat → Nat) => AG a0 g0 a1 out) (fun a1 => WdP Z h a1 out) (FR Z)) args s 1 (600 * 1) (FR Z)) (F0 m 23 ls []) := by
  intro n
  induction n with
  | zero => intro x3 a ls H locs hA hW hl hf; cases hf
  | succ n ih =>
    intro x3 a ls H locs hA hW hl hf
    rw [Lp_s] at hf
    rw [Fp_X11_cutOne_23] at hf
    try dsimp only at hf
    refine lv_iload_n C.1 C.2.1 dX11_cutOne_23 rfl (lv_at hl 3 rfl) ?_
    refine lv_aload_n C.1 C.2.1 dX11_cutOne_24 rfl (lv_at hl 0 rfl) ?_
    refine zg_X11_18 C hW hf dX11_cutOne_25 (fun q9 hf => ?_)
    refine lv_iload_n C.1 C.2.1 dX11_cutOne_28 rfl (lv_at hl 2 rfl) ?_
    refine lv_iconst (v := 1) C.1 C.2.1 dX11_cutOne_29 (by decide) ?_
    refine lv_iadd C.1 C.2.1 dX11_cutOne_30 ?_
    refine z_iald C hW hf dX11_cutOne_31 (fun hf => ?_)
    refine z_cmpge (tgt := 51) C hf dX11_cutOne_32 (by decide) (fun hf => ?_) (fun hf => ?_)
    · exact q_X11_cutOne_51 C hA hW (lv_sub hl [0, 1, 2] rfl) hf
    · refine lv_aload_n C.1 C.2.1 dX11_cutOne_35 rfl (lv_at hl 0 rfl) ?_
      refine zg_X11_36 C hW hf dX11_cutOne_36 (fun q10 hf => ?_)
      refine lv_iload_n C.1 C.2.1 dX11_cutOne_39 rfl (lv_at hl 3 rfl) ?_
      refine z_zald C hW hf dX11_cutOne_40 (fun hf => ?_)
      refine z_ifne (tgt := 45) C hf dX11_cutOne_41 (by decide) (fun hf => ?_) (fun hf => ?_)
      · refine z_iinc (w := 1) C hf dX11_cutOne_45 hl (k := 3) rfl (by decide) (by decide) (fun v11 => [(3, .int v11), (0, .ref (ra Z a p0)), (1, .int p1), (2, .int x2)]) (fun _ => rfl) (fun v11 ls hf hl => ?_)
        refine lv_goto (tgt := 23) C.1 C.2.1 dX11_cutOne_48 (by decide) ?_
        exact ih v11 _ ls _ _ hA hW (lv_sub hl [1, 2, 3, 0] rfl) hf
      · obtain rfl := Option.some.inj hf
        refine W.widen (k := 1) (n := 600 * 1) (by omega) (by omega) ?_
        exact z_vret C hW dX11_cutOne_44 a hA (fun _ q => q)
set_option maxRecDepth 20000 in
set_option maxHeartbeats 1000000 in
theorem c_X11_cutOne {l : Launch} {Z : ZT} {h : Hp} {a : Nat → Nat} {g : PL} {p0 : Nat} {p1 : Int32} {out : PL} (hf : fp_X11_cutOne g p0 p1 = some out) : Met l yX11_cutOne (wY yX11_cutOne cX11_cutOne 6 none) (rmP 2 1) (va_Pc [.ref (ra Z a p0), .int p1] (WdP Z h a g)) (va_Qv (fun (a1 : Nat → Nat) => AG a g a1 out) (fun a1 => WdP Z h a1 out) (FR Z)) 1 (600 * 1) (FR Z) := by
  refine metZ RX11 rfl (by decide +kernel) (Nat.le_of_ble_eq_true rfl) ?_
  intro p e s m args below meth c C hin hW ls hl
  have hl : lv_has ls 6 [(0, .ref (ra Z a p0)), (1, .int p1)] := hl
  have hA := AG.rf a g
  unfold fp_X11_cutOne at hf
  refine W.widen (k := 0) (n := 600 * 0) (Nat.le_refl _) (Nat.le_refl _) ?_
  refine lv_aload_n C.1 C.2.1 dX11_cutOne_0 rfl (lv_at hl 0 rfl) ?_
  refine zg_X11_36 C hW hf dX11_cutOne_1 (fun q12 hf => ?_)
  refine lv_iload_n C.1 C.2.1 dX11_cutOne_4 rfl (lv_at hl 1 rfl) ?_
  refine lv_iconst (v := 1) C.1 C.2.1 dX11_cutOne_5 (by decide) ?_
  refine z_zast C hW (by decide) hf dX11_cutOne_6 (fun g13 H locs hf hgn hW => ?_)
  have hA := hA.w (show g13.1 = g.1 from (congrArg (fun q : PL => q.1) hgn).trans rfl)
  refine lv_aload_n C.1 C.2.1 dX11_cutOne_7 rfl (lv_at hl 0 rfl) ?_
  refine zg_X11_9 C hW hf dX11_cutOne_8 (fun q14 hf => ?_)
  refine lv_iload_n C.1 C.2.1 dX11_cutOne_11 rfl (lv_at hl 1 rfl) ?_
  refine z_aald C hW hf dX11_cutOne_12 (fun q15 hf => ?_)
  refine lv_iconst (v := 4) C.1 C.2.1 dX11_cutOne_13 (by decide) ?_
  refine z_iald C hW hf dX11_cutOne_14 (fun hf => ?_)
  refine z_istn C hf dX11_cutOne_15 rfl hl (by decide) (fun v16 => [(2, .int v16), (0, .ref (ra Z a p0)), (1, .int p1)]) (fun _ => rfl) (fun v16 ls hf hl => ?_)
  refine lv_aload_n C.1 C.2.1 dX11_cutOne_16 rfl (lv_at hl 1 rfl) ?_
  refine zg_X11_18 C hW hf dX11_cutOne_17 (fun q17 hf => ?_)
  refine lv_iload_n C.1 C.2.1 dX11_cutOne_20 rfl (lv_at hl 0 rfl) ?_
  refine z_iald C hW hf dX11_cutOne_21 (fun hf => ?_)
  refine z_istn C hf dX11_cutOne_22 rfl hl (by decide) (fun v18 => [(3, .int v18), (2, .int v16), (0, .ref (ra Z a p0)), (1, .int p1)]) (fun _ => rfl) (fun v18 ls hf hl => ?_)
  exact l_X11_cutOne_23 C FU v18 _ ls _ _ hA hW (lv_sub hl [2, 3, 1, 0] rfl) hf
set_option maxRecDepth 20000 in
set_option maxHeartbeats 1000000 in
theorem q_X11_putShot_65 {l : Launch} {Z : ZT} {h : Hp} {a0 : Nat → Nat} {g0 : PL} {p0 : Nat} {p1 : Int32} {p2 : Int32} {g : PL} {x3 : Nat} {p : Program} {e : Env} {s : State} {m : MethodId} {args : Array Value} {below : List Frame} {meth : Method} {c : Code} (C : CQ p s m args meth c cX11_putShot RX11 5 none Z) {out : PL} {a : Nat → Nat} (hA : AG a0 g0 a g) {ls : Array Slot} {H : Heap} {locs : List Loc} (hW : XG Z h a g s.heap H locs) (hl : lv_has ls 5 [(0, .ref (ra Z a p0)), (1, .int p1), (2, .int p2), (3, .ref (ra Z a x3))]) (hf : Jp_X11_putShot_65 p0 p1 p2 g x3 = some out) : W p l e (rmP 1 1) s m args below meth c H locs 1 (600 * 1) (MQ below (va_Qv (fun (a1 : Nat → Nat) => AG a0 g0 a1 out) (fun a1 => WdP Z h a1 out) (FR Z)) args s 1 (600 * 1) (FR Z)) (F0 m 65 ls []) := by
  rw [Jp_X11_putShot_65] at hf
  refine lv_aload_n C.1 C.2.1 dX11_putShot_65 rfl (lv_at hl 0 rfl) ?_
  refine lv_aload_n C.1 C.2.1 dX11_putShot_66 rfl (lv_at hl 3 rfl) ?_
  refine zp_X11_40 C hW hf dX11_putShot_67 (fun g1 H locs hf hgn hW => ?_)
  have hA := hA.w hgn
  obtain rfl := Option.some.inj hf
  exact z_vret C hW dX11_putShot_70 a hA (fun _ q => q)
set_option maxRecDepth 20000 in
set_option maxHeartbeats 1000000 in
theorem q_X11_putShot_58 {l : Launch} {Z : ZT} {h : Hp} {a0 : Nat → Nat} {g0 : PL} {p0 : Nat} {p1 : Int32} {p2 : Int32} {g : PL} {r13 : Int32 × PL → Option (PL)} {x3 : Nat} {x4 : Int32} {s0 : Nat} {s1 : Int32} {s2 : Int32} {p : Program} {e : Env} {s : State} {m : MethodId} {args : Array Value} {below : List Frame} {meth : Method} {c : Code} (C : CQ p s m args meth c cX11_putShot RX11 5 none Z) {out : PL} (hr13 : ∀ (x4 : Int32) (g : PL) (a : Nat → Nat) (ls : Array Slot) (H : Heap) (locs : List Loc), AG a0 g0 a g → XG Z h a g s.heap H locs → lv_has ls 5 [(0, .ref (ra Z a p0)), (1, .int p1), (2, .int p2), (3, .ref (ra Z a x3)), (4, .int x4)] → r13 (x4, g) = some out → W p l e (rmP 1 1) s m args below meth c H locs 1 (600 * 1) (MQ below (va_Qv (fun (a1 : Nat → Nat) => AG a0 g0 a1 out) (fun a1 => WdP Z h a1 out) (FR Z)) args s 1 (600 * 1) (FR Z)) (F0 m 13 ls [])) {a : Nat → Nat} (hA : AG a0 g0 a g) {ls : Array Slot} {H : Heap} {locs : List Loc} (hW : XG Z h a g s.heap H locs) (hl : lv_has ls 5 [(0, .ref (ra Z a p0)), (1, .int p1), (2, .int p2), (3, .ref (ra Z a x3)), (4, .int x4)]) (hf : Jp_X11_putShot_58 p0 p1 p2 g r13 x3 x4 s0 s1 s2 = some out) : W p l e (rmP 1 1) s m args below meth c H locs 1 (600 * 1) (MQ below (va_Qv (fun (a1 : Nat → Nat) => AG a0 g0 a1 out) (fun a1 => WdP Z h a1 out) (FR Z)) args s 1 (600 * 1) (FR Z)) (F0 m 58 ls [.int s2, .int s1, .ref (ra Z a s0)]) := by
  rw [Jp_X11_putShot_58] at hf
  refine z_iast C hW hf dX11_putShot_58 (fun g2 H locs hf hgn hW => ?_)
  have hA := hA.w (show g2.1 = g.1 from (congrArg (fun q : PL => q.1) hgn).trans rfl)
  refine z_iinc (w := 1) C hf dX11_putShot_59 hl (k := 4) rfl (by decide) (by decide) (fun v3 => [(4, .int v3), (0, .ref (ra Z a p0)), (1, .int p1), (2, .int p2), (3, .ref (ra Z a x3))]) (fun _ => rfl) (fun v3 ls hf hl => ?_)
  refine lv_goto (tgt := 13) C.1 C.2.1 dX11_putShot_62 (by decide) ?_
  exact hr13 v3 g2 _ ls _ _ hA hW (lv_sub hl [1, 2, 3, 4, 0] rfl) hf
set_option maxRecDepth 20000 in
set_option maxHeartbeats 1000000 in
theorem l_X11_putShot_13 {l : Launch} {Z : ZT} {h : Hp} {a0 : Nat → Nat} {g0 : PL} {p0 : Nat} {p1 : Int32} {p2 : Int32} {x3 : Nat} {p : Program} {e : Env} {s : State} {m : MethodId} {args : Array Value} {below : List Frame} {meth : Method} {c : Code} (C : CQ p s m args meth c cX11_putShot RX11 5 none Z) {out : PL} : ∀ (n : Nat) (x4 : Int32) (g : PL) (a : Nat → Nat) (ls : Array Slot) (H : Heap) (locs : List Loc), AG a0 g0 a g → XG Z h a g s.heap H locs → lv_has ls 5 [(0, .ref (ra Z a p0)), (1, .int p1), (2, .int p2), (3, .ref (ra Z a x3)), (4, .int x4)] → Lp (Fp_X11_putShot_13 p0 p1 p2 x3) n (x4, g) = some out → W p l e (rmP 1 1) s m args below meth c H locs 1 (600 * 1) (MQ below (va_Qv (fun (a1 : Nat → Nat) => AG a0 g0 a1 out) (fun a1 => WdP Z h a1 out) (FR Z)) args s 1 (600 * 1) (FR Z)) (F0 m 13 ls []) := by
  intro n
  induction n with
  | zero => intro x4 g a ls H locs hA hW hl hf; cases hf
  | succ n ih =>
    intro x4 g a ls H locs hA hW hl hf
    rw [Lp_s] at hf
    rw [Fp_X11_putShot_13] at hf
    try dsimp only at hf
    refine lv_iload C.1 C.2.1 dX11_putShot_13 (lv_at hl 4 rfl) ?_
    refine lv_aload_n C.1 C.2.1 dX11_putShot_15 rfl (lv_at hl 3 rfl) ?_
    refine z_alenI C hW hf dX11_putShot_16 (fun hf => ?_)
    refine z_cmpge (tgt := 65) C hf dX11_putShot_17 (by decide) (fun hf => ?_) (fun hf => ?_)
    · exact q_X11_putShot_65 C hA hW (lv_sub hl [0, 1, 2, 3] rfl) hf
    · refine lv_aload_n C.1 C.2.1 dX11_putShot_20 rfl (lv_at hl 3 rfl) ?_
      refine lv_iload C.1 C.2.1 dX11_putShot_21 (lv_at hl 4 rfl) ?_
      refine lv_iload C.1 C.2.1 dX11_putShot_23 (lv_at hl 4 rfl) ?_
      refine lv_iload_n C.1 C.2.1 dX11_putShot_25 rfl (lv_at hl 1 rfl) ?_
      refine z_cmpge (tgt := 39) C hf dX11_putShot_26 (by decide) (fun hf => ?_) (fun hf => ?_)
      · refine lv_iload C.1 C.2.1 dX11_putShot_39 (lv_at hl 4 rfl) ?_
        refine lv_iload_n C.1 C.2.1 dX11_putShot_41 rfl (lv_at hl 1 rfl) ?_
        refine z_cmpne (tgt := 49) C hf dX11_putShot_42 (by decide) (fun hf => ?_) (fun hf => ?_)
        · refine lv_aload_n C.1 C.2.1 dX11_putShot_49 rfl (lv_at hl 0 rfl) ?_
          refine zg_X11_40 C hW hf dX11_putShot_50 (fun q4 hf => ?_)
          refine lv_iload C.1 C.2.1 dX11_putShot_53 (lv_at hl 4 rfl) ?_
          refine lv_iconst (v := 1) C.1 C.2.1 dX11_putShot_55 (by decide) ?_
          refine lv_isub C.1 C.2.1 dX11_putShot_56 ?_
          refine z_iald C hW hf dX11_putShot_57 (fun hf => ?_)
          exact q_X11_putShot_58 C ih hA hW (lv_sub hl [0, 1, 2, 3, 4] rfl) hf
        · refine lv_iload_n C.1 C.2.1 dX11_putShot_45 rfl (lv_at hl 2 rfl) ?_
          refine lv_goto (tgt := 58) C.1 C.2.1 dX11_putShot_46 (by decide) ?_
          exact q_X11_putShot_58 C ih hA hW (lv_sub hl [0, 1, 2, 3, 4] rfl) hf
      · refine lv_aload_n C.1 C.2.1 dX11_putShot_29 rfl (lv_at hl 0 rfl) ?_
        refine zg_X11_40 C hW hf dX11_putShot_30 (fun q5 hf => ?_)
        refine lv_iload C.1 C.2.1 dX11_putShot_33 (lv_at hl 4 rfl) ?_
        refine z_iald C hW hf dX11_putShot_35 (fun hf => ?_)
        refine lv_goto (tgt := 58) C.1 C.2.1 dX11_putShot_36 (by decide) ?_
        exact q_X11_putShot_58 C ih hA hW (lv_sub hl [0, 1, 2, 3, 4] rfl) hf
set_option maxRecDepth 20000 in
set_option maxHeartbeats 1000000 in
theorem c_X11_putShot {l : Launch} {Z : ZT} {h : Hp} {a : Nat → Nat} {g : PL} {p0 : Nat} {p1 : Int32} {p2 : Int32} {out : PL} (hf : fp_X11_putShot g p0 p1 p2 = some out) : Met l yX11_putShot (wY yX11_putShot cX11_putShot 5 none) (rmP 1 1) (va_Pc [.ref (ra Z a p0), .int p1, .int p2] (WdP Z h a g)) (va_Qv (fun (a1 : Nat → Nat) => AG a g a1 out) (fun a1 => WdP Z h a1 out) (FR Z)) 1 (600 * 1) (FR Z) := by
  refine metZ RX11 rfl (by decide +kernel) (Nat.le_of_ble_eq_true rfl) ?_
  intro p e s m args below meth c C hin hW ls hl
  have hl : lv_has ls 5 [(0, .ref (ra Z a p0)), (1, .int p1), (2, .int p2)] := hl
  have hA := AG.rf a g
  unfold fp_X11_putShot at hf
  refine W.widen (k := 0) (n := 600 * 0) (Nat.le_refl _) (Nat.le_refl _) ?_
  refine lv_aload_n C.1 C.2.1 dX11_putShot_0 rfl (lv_at hl 0 rfl) ?_
  refine zg_X11_40 C hW hf dX11_putShot_1 (fun q6 hf => ?_)
  refine z_alenI C hW hf dX11_putShot_4 (fun hf => ?_)
  refine lv_iconst (v := 1) C.1 C.2.1 dX11_putShot_5 (by decide) ?_
  refine lv_iadd C.1 C.2.1 dX11_putShot_6 ?_
  obtain ⟨hx0, hf⟩ := ck_t hf
  have hpw := hW.2.2.2
  have hl : lv_has ls 5 [(0, .ref (ra Z a p0)), (1, .int p1), (2, .int p2)] := lv_sub hl [0, 1, 2] rfl
  refine z_newI C hW ac_int hf ⟨by show _ + 1 ≤ 1; omega, by show _ + 600 ≤ 600 * 1; omega⟩ dX11_putShot_7 (fun a8 g7 H hf hg hW => ?_)
  have e0 := ra_to (Z := Z) hpw hg hx0
  rw [← e0] at hl
  have hA := hA.tr hg
  refine W.widen (k := 1) (n := 600 * 1) (by omega) (by omega) ?_
  refine lv_astore_n (lv' := [(3, .ref (ra Z a8 g.1)), (0, .ref (ra Z a8 p0)), (1, .int p1), (2, .int p2)]) C.1 C.2.1 dX11_putShot_9 rfl hl (by decide) rfl (fun ls hl => ?_)
  refine lv_iconst (v := 0) C.1 C.2.1 dX11_putShot_10 (by decide) ?_
  refine lv_istore (lv' := [(4, .int (0 : Int32)), (3, .ref (ra Z a8 g.1)), (0, .ref (ra Z a8 p0)), (1, .int p1), (2, .int p2)]) C.1 C.2.1 dX11_putShot_11 hl (by decide) rfl (fun ls hl => ?_)
  exact l_X11_putShot_13 C FU (0 : Int32) g7 _ ls _ _ hA hW (lv_sub hl [2, 3, 4, 1, 0] rfl) hf
set_option maxRecDepth 20000 in
set_option maxHeartbeats 1000000 in
theorem q_X11_restoreOne_90 {l : Launch} {Z : ZT} {h : Hp} {a0 : Nat → Nat} {g0 : PL} {p0 : Nat} {p1 : Int32} {g : PL} {x2 : Int32} {s0 : Nat} {s1 : Int32} {p : Program} {e : Env} {s : State} {m : MethodId} {args : Array Value} {below : List Frame} {meth : Method} {c : Code} (C : CQ p s m args meth c cX11_restoreOne RX11 8 none Z) {out : PL} {a : Nat → Nat} (hA : AG a0 g0 a g) {ls : Array Slot} {H : Heap} {locs : List Loc} (hW : XG Z h a g s.heap H locs) (hl : lv_has ls 8 [(0, .ref (ra Z a p0)), (1, .int p1), (2, .int x2)]) (hf : Jp_X11_restoreOne_90 p0 p1 g x2 s0 s1 = some out) : W p l e (rmP 2 1) s m args below meth c H locs 0 (600 * 0) (MQ below (va_Qv (fun (a1 : Nat → Nat) => AG a0 g0 a1 out) (fun a1 => WdP Z h a1 out) (FR Z)) args s 1 (600 * 1) (FR Z)) (F0 m 90 ls [.int s1, .ref (ra Z a s0)]) := by
  rw [Jp_X11_restoreOne_90] at hf
  refine lv_iload_n C.1 C.2.1 dX11_restoreOne_90 rfl (lv_at hl 2 rfl) ?_
  obtain ⟨hx0, hf⟩ := ck_t hf
  have hpw := hW.2.2.2
  have hl : lv_has ls 8 [(0, .ref (ra Z a p0)), (1, .int p1), (2, .int x2)] := lv_sub hl [0, 1, 2] rfl
  obtain ⟨hb, hf⟩ := ck_t hf
  obtain ⟨u1, hu1, hf⟩ := bnd_t hf
  refine z_callvA hW (z_runV C hW hl hb (ci := 9) (fs := fl_X11 Z a (g.2.2 s0)) rfl rfl rfl (c_X11_putShot hu1) cw_X11_142 ci_X11_putShot cs_X11_putShot (rm_okP (by decide) (by decide)) (rm_cs (by decide)) (As := [.int s1, .int x2]) rfl rfl (Nat.le_of_ble_eq_true rfl) dX11_restoreOne_91) (fun a2 H locs hg hW => ?_)
  have e0 := ra_to (Z := Z) hpw hg hx0
  rw [← e0] at hl
  have hA := hA.tr hg
  refine W.widen (k := 1) (n := 600 * 1) (by omega) (by omega) ?_
  refine lv_aload_n C.1 C.2.1 dX11_restoreOne_94 rfl (lv_at hl 0 rfl) ?_
  refine zg_X11_30 C hW hf dX11_restoreOne_95 (fun q3 hf => ?_)
  refine lv_iload_n C.1 C.2.1 dX11_restoreOne_98 rfl (lv_at hl 2 rfl) ?_
  refine lv_iconst (v := 0) C.1 C.2.1 dX11_restoreOne_99 (by decide) ?_
  refine z_iast C hW hf dX11_restoreOne_100 (fun g4 H locs hf hgn hW => ?_)
  have hA := hA.w (show g4.1 = u1.1 from (congrArg (fun q : PL => q.1) hgn).trans rfl)
  refine lv_aload_n C.1 C.2.1 dX11_restoreOne_101 rfl (lv_at hl 0 rfl) ?_
  refine zg_X11_33 C hW hf dX11_restoreOne_102 (fun q5 hf => ?_)
  refine lv_iload_n C.1 C.2.1 dX11_restoreOne_105 rfl (lv_at hl 2 rfl) ?_
  refine lv_iconst (v := 0) C.1 C.2.1 dX11_restoreOne_106 (by decide) ?_
  refine z_iast C hW hf dX11_restoreOne_107 (fun g6 H locs hf hgn hW => ?_)
  have hA := hA.w (show g6.1 = g4.1 from (congrArg (fun q : PL => q.1) hgn).trans rfl)
  obtain rfl := Option.some.inj hf
  exact z_vret C hW dX11_restoreOne_108 a2 hA (fun _ q => q)
set_option maxRecDepth 20000 in
set_option maxHeartbeats 1000000 in
theorem q_X11_restoreOne_74 {l : Launch} {Z : ZT} {h : Hp} {a0 : Nat → Nat} {g0 : PL} {p0 : Nat} {p1 : Int32} {g : PL} {x2 : Int32} {x3 : Int32} {p : Program} {e : Env} {s : State} {m : MethodId} {args : Array Value} {below : List Frame} {meth : Method} {c : Code} (C : CQ p s m args meth c cX11_restoreOne RX11 8 none Z) {out : PL} {a : Nat → Nat} (hA : AG a0 g0 a g) {ls : Array Slot} {H : Heap} {locs : List Loc} (hW : XG Z h a g s.heap H locs) (hl : lv_has ls 8 [(0, .ref (ra Z a p0)), (1, .int p1), (2, .int x2), (3, .int x3)]) (hf : Jp_X11_restoreOne_74 p0 p1 g x2 x3 = some out) : W p l e (rmP 2 1) s m args below meth c H locs 0 (600 * 0) (MQ below (va_Qv (fun (a1 : Nat → Nat) => AG a0 g0 a1 out) (fun a1 => WdP Z h a1 out) (FR Z)) args s 1 (600 * 1) (FR Z)) (F0 m 74 ls []) := by
  refine lv_aload_n C.1 C.2.1 dX11_restoreOne_74 rfl (lv_at hl 0 rfl) ?_
  refine lv_iload_n C.1 C.2.1 dX11_restoreOne_75 rfl (lv_at hl 3 rfl) ?_
  refine z_ifge (tgt := 83) C hf dX11_restoreOne_76 (by decide) (fun hf => ?_) (fun hf => ?_)
  · refine lv_aload_n C.1 C.2.1 dX11_restoreOne_83 rfl (lv_at hl 0 rfl) ?_
    refine lv_iload_n C.1 C.2.1 dX11_restoreOne_84 rfl (lv_at hl 3 rfl) ?_
    obtain ⟨hb, hf⟩ := ck_t hf
    obtain ⟨u7, hu7, hf⟩ := bnd_t hf
    refine z_calli hW (z_runV C hW hl hb (ci := 9) (fs := fl_X11 Z a (g.2.2 p0)) rfl rfl rfl (c_X11_shotOf hu7) cw_X11_133 ci_X11_shotOf cs_X11_shotOf (rm_okP (by decide) (by decide)) (rm_cs (by decide)) (As := [.int x3]) rfl rfl (Nat.le_of_ble_eq_true rfl) dX11_restoreOne_85) (fun H locs hW => ?_)
    refine W.widen (k := 0) (n := 600 * 0) (by omega) (by omega) ?_
    refine lv_iconst (v := 1) C.1 C.2.1 dX11_restoreOne_88 (by decide) ?_
    refine lv_iadd C.1 C.2.1 dX11_restoreOne_89 ?_
    exact q_X11_restoreOne_90 C hA hW (lv_sub hl [0, 1, 2] rfl) hf
  · refine lv_iconst (v := 0) C.1 C.2.1 dX11_restoreOne_79 (by decide) ?_
    refine lv_goto (tgt := 90) C.1 C.2.1 dX11_restoreOne_80 (by decide) ?_
    exact q_X11_restoreOne_90 C hA hW (lv_sub hl [0, 1, 2] rfl) hf
set_option maxRecDepth 20000 in
set_option maxHeartbeats 1000000 in
theorem q_X11_restoreOne_68 {l : Launch} {Z : ZT} {h : Hp} {a0 : Nat → Nat} {g0 : PL} {p0 : Nat} {p1 : Int32} {g : PL} {r41 : Int32 × Int32 → Option (PL)} {x2 : Int32} {x3 : Int32} {x4 : Nat} {x5 : Int32} {x6 : Int32} {p : Program} {e : Env} {s : State} {m : MethodId} {args : Array Value} {below : List Frame} {meth : Method} {c : Code} (C : CQ p s m args meth c cX11_restoreOne RX11 8 none Z) {out : PL} (hr41 : ∀ (x3 : Int32) (x6 : Int32) (a : Nat → Nat) (ls : Array Slot) (H : Heap) (locs : List Loc), AG a0 g0 a g → XG Z h a g s.heap H locs → lv_has ls 8 [(0, .ref (ra Z a p0)), (1, .int p1), (2, .int x2), (3, .int x3), (4, .ref (ra Z a x4)), (5, .int x5), (6, .int x6)] → r41 (x3, x6) = some out → W p l e (rmP 2 1) s m args below meth c H locs 0 (600 * 0) (MQ below (va_Qv (fun (a1 : Nat → Nat) => AG a0 g0 a1 out) (fun a1 => WdP Z h a1 out) (FR Z)) args s 1 (600 * 1) (FR Z)) (F0 m 41 ls [])) {a : Nat → Nat} (hA : AG a0 g0 a g) {ls : Array Slot} {H : Heap} {locs : List Loc} (hW : XG Z h a g s.heap H locs) (hl : lv_has ls 8 [(0, .ref (ra Z a p0)), (1, .int p1), (2, .int x2), (3, .int x3), (4, .ref (ra Z a x4)), (5, .int x5), (6, .int x6)]) (hf : Jp_X11_restoreOne_68 p0 p1 g r41 x2 x3 x4 x5 x6 = some out) : W p l e (rmP 2 1) s m args below meth c H locs 0 (600 * 0) (MQ below (va_Qv (fun (a1 : Nat → Nat) => AG a0 g0 a1 out) (fun a1 => WdP Z h a1 out) (FR Z)) args s 1 (600 * 1) (FR Z)) (F0 m 68 ls []) := by
  rw [Jp_X11_restoreOne_68] at hf
  refine z_iinc (w := 1) C hf dX11_restoreOne_68 hl (k := 6) rfl (by decide) (by decide) (fun v8 => [(6, .int v8), (0, .ref (ra Z a p0)), (1, .int p1), (2, .int x2), (3, .int x3), (4, .ref (ra Z a x4)), (5, .int x5)]) (fun _ => rfl) (fun v8 ls hf hl => ?_)
  refine lv_goto (tgt := 41) C.1 C.2.1 dX11_restoreOne_71 (by decide) ?_
  exact hr41 x3 v8 _ ls _ _ hA hW (lv_sub hl [1, 2, 3, 4, 5, 6, 0] rfl) hf
set_option maxRecDepth 20000 in
set_option maxHeartbeats 1000000 in
theorem l_X11_restoreOne_41 {l : Launch} {Z : ZT} {h : Hp} {a0 : Nat → Nat} {g0 : PL} {p0 : Nat} {p1 : Int32} {g : PL} {x2 : Int32} {x4 : Nat} {x5 : Int32} {p : Program} {e : Env} {s : State} {m : MethodId} {args : Array Value} {below : List Frame} {meth : Method} {c : Code} (C : CQ p s m args meth c cX11_restoreOne RX11 8 none Z) {out : PL} : ∀ (n : Nat) (x3 : Int32) (x6 : Int32) (a : Nat → Nat) (ls : Array Slot) (H : Heap) (locs : List Loc), AG a0 g0 a g → XG Z h a g s.heap H locs → lv_has ls 8 [(0, .ref (ra Z a p0)), (1, .int p1), (2, .int x2), (3, .int x3), (4, .ref (ra Z a x4)), (5, .int x5), (6, .int x6)] → Lp (Fp_X11_restoreOne_41 p0 p1 g x2 x4 x5) n (x3, x6) = some out → W p l e (rmP 2 1) s m args below meth c H locs 0 (600 * 0) (MQ below (va_Qv (fun (a1 : Nat → Nat) => AG a0 g0 a1 out) (fun a1 => WdP Z h a1 out) (FR Z)) args s 1 (600 * 1) (FR Z)) (F0 m 41 ls []) := by
  intro n
  induction n with
  | zero => intro x3 x6 a ls H locs hA hW hl hf; cases hf
  | succ n ih =>
    intro x3 x6 a ls H locs hA hW hl hf
    rw [Lp_s] at hf
    refine lv_iload C.1 C.2.1 dX11_restoreOne_41 (lv_at hl 6 rfl) ?_
    refine lv_iload C.1 C.2.1 dX11_restoreOne_43 (lv_at hl 5 rfl) ?_
    refine z_cmpge (tgt := 74) C hf dX11_restoreOne_45 (by decide) (fun hf => ?_) (fun hf => ?_)
    · exact q_X11_restoreOne_74 C hA hW (lv_sub hl [0, 1, 2, 3] rfl) hf
    · refine lv_aload C.1 C.2.1 dX11_restoreOne_48 (lv_at hl 4 rfl) ?_
      refine lv_iload C.1 C.2.1 dX11_restoreOne_50 (lv_at hl 6 rfl) ?_
      refine z_iald C hW hf dX11_restoreOne_52 (fun hf => ?_)
      refine z_ist C hf dX11_restoreOne_53 hl (by decide) (fun v9 => [(7, .int v9), (0, .ref (ra Z a p0)), (1, .int p1), (2, .int x2), (3, .int x3), (4, .ref (ra Z a x4)), (5, .int x5), (6, .int x6)]) (fun _ => rfl) (fun v9 ls hf hl => ?_)
      refine lv_iload C.1 C.2.1 dX11_restoreOne_55 (lv_at hl 0 rfl) ?_
      refine lv_iload_n C.1 C.2.1 dX11_restoreOne_57 rfl (lv_at hl 3 rfl) ?_
      refine z_cmpge (tgt := 68) C hf dX11_restoreOne_58 (by decide) (fun hf => ?_) (fun hf => ?_)
      · exact q_X11_restoreOne_68 C ih hA hW (lv_sub hl [1, 2, 3, 4, 5, 6, 7] rfl) hf
      · refine lv_iload_n C.1 C.2.1 dX11_restoreOne_61 rfl (lv_at hl 4 rfl) ?_
        refine lv_iload C.1 C.2.1 dX11_restoreOne_62 (lv_at hl 0 rfl) ?_
        refine z_max C hl (ml_X11_80) (rm_m (by decide)) (rm_c0 (by decide)) (Nat.le_of_ble_eq_true rfl) dX11_restoreOne_64 ?_
        refine z_istn C hf dX11_restoreOne_67 rfl hl (by decide) (fun v10 => [(3, .int v10), (7, .int v9), (0, .ref (ra Z a p0)), (1, .int p1), (2, .int x2), (4, .ref (ra Z a x4)), (5, .int x5), (6, .int x6)]) (fun _ => rfl) (fun v10 ls hf hl => ?_)
        exact q_X11_restoreOne_68 C ih hA hW (lv_sub hl [2, 3, 4, 0, 5, 6, 7] rfl) hf
set_option maxRecDepth 20000 in
set_option maxHeartbeats 1000000 in
theorem c_X11_restoreOne {l : Launch} {Z : ZT} {h : Hp} {a : Nat → Nat} {g : PL} {p0 : Nat} {p1 : Int32} {out : PL} (hf : fp_X11_restoreOne g p0 p1 = some out) : Met l yX11_restoreOne (wY yX11_restoreOne cX11_restoreOne 8 none) (rmP 2 1) (va_Pc [.ref (ra Z a p0), .int p1] (WdP Z h a g)) (va_Qv (fun (a1 : Nat → Nat) => AG a g a1 out) (fun a1 => WdP Z h a1 out) (FR Z)) 1 (600 * 1) (FR Z) := by
  refine metZ RX11 rfl (by decide +kernel) (Nat.le_of_ble_eq_true rfl) ?_
  intro p e s m args below meth c C hin hW ls hl
  have hl : lv_has ls 8 [(0, .ref (ra Z a p0)), (1, .int p1)] := hl
  have hA := AG.rf a g
  unfold fp_X11_restoreOne at hf
  refine W.widen (k := 0) (n := 600 * 0) (Nat.le_refl _) (Nat.le_refl _) ?_
  refine lv_aload_n C.1 C.2.1 dX11_restoreOne_0 rfl (lv_at hl 0 rfl) ?_
  refine zg_X11_36 C hW hf dX11_restoreOne_1 (fun q11 hf => ?_)
  refine lv_iload_n C.1 C.2.1 dX11_restoreOne_4 rfl (lv_at hl 1 rfl) ?_
  refine lv_iconst (v := 0) C.1 C.2.1 dX11_restoreOne_5 (by decide) ?_
  refine z_zast C hW (by decide) hf dX11_restoreOne_6 (fun g12 H locs hf hgn hW => ?_)
  have hA := hA.w (show g12.1 = g.1 from (congrArg (fun q : PL => q.1) hgn).trans rfl)
  refine lv_aload_n C.1 C.2.1 dX11_restoreOne_7 rfl (lv_at hl 0 rfl) ?_
  refine zg_X11_9 C hW hf dX11_restoreOne_8 (fun q13 hf => ?_)
  refine lv_iload_n C.1 C.2.1 dX11_restoreOne_11 rfl (lv_at hl 1 rfl) ?_
  refine z_aald C hW hf dX11_restoreOne_12 (fun q14 hf => ?_)
  refine lv_iconst (v := 4) C.1 C.2.1 dX11_restoreOne_13 (by decide) ?_
  refine z_iald C hW hf dX11_restoreOne_14 (fun hf => ?_)
  refine z_istn C hf dX11_restoreOne_15 rfl hl (by decide) (fun v15 => [(2, .int v15), (0, .ref (ra Z a p0)), (1, .int p1)]) (fun _ => rfl) (fun v15 ls hf hl => ?_)
  refine lv_aload_n C.1 C.2.1 dX11_restoreOne_16 rfl (lv_at hl 1 rfl) ?_
  refine lv_iload_n C.1 C.2.1 dX11_restoreOne_17 rfl (lv_at hl 0 rfl) ?_
  obtain ⟨hb, hf⟩ := ck_t hf
  obtain ⟨u16, hu16, hf⟩ := bnd_t hf
  refine z_calli hW (z_runV C hW hl hb (ci := 9) (fs := fl_X11 Z a (g12.2.2 p0)) rfl rfl rfl (c_X11_shotOf hu16) cw_X11_133 ci_X11_shotOf cs_X11_shotOf (rm_okP (by decide) (by decide)) (rm_cs (by decide)) (As := [.int v15]) rfl rfl (Nat.le_of_ble_eq_true rfl) dX11_restoreOne_18) (fun H locs hW => ?_)
  refine W.widen (k := 0) (n := 600 * 0) (by omega) (by omega) ?_
  refine z_iflt (tgt := 25) C hf dX11_restoreOne_21 (by decide) (fun hf => ?_) (fun hf => ?_)
  · refine lv_iconst (v := -1) C.1 C.2.1 dX11_restoreOne_25 (by decide) ?_
    refine lv_istore_n (lv' := [(3, .int (-1 : Int32)), (2, .int v15), (0, .ref (ra Z a p0)), (1, .int p1)]) C.1 C.2.1 dX11_restoreOne_26 rfl hl (by decide) rfl (fun ls hl => ?_)
    refine lv_aload_n C.1 C.2.1 dX11_restoreOne_27 rfl (lv_at hl 2 rfl) ?_
    refine zg_X11_40 C hW hf dX11_restoreOne_28 (fun q17 hf => ?_)
    refine lv_astore (lv' := [(4, .ref (ra Z a q17)), (3, .int (-1 : Int32)), (2, .int v15), (0, .ref (ra Z a p0)), (1, .int p1)]) C.1 C.2.1 dX11_restoreOne_31 hl (by decide) rfl (fun ls hl => ?_)
    refine lv_aload C.1 C.2.1 dX11_restoreOne_33 (lv_at hl 0 rfl) ?_
    refine z_alenI C hW hf dX11_restoreOne_35 (fun hf => ?_)
    refine z_ist C hf dX11_restoreOne_36 hl (by decide) (fun v18 => [(5, .int v18), (4, .ref (ra Z a q17)), (3, .int (-1 : Int32)), (2, .int v15), (0, .ref (ra Z a p0)), (1, .int p1)]) (fun _ => rfl) (fun v18 ls hf hl => ?_)
    refine lv_iconst (v := 0) C.1 C.2.1 dX11_restoreOne_38 (by decide) ?_
    refine lv_istore (lv' := [(6, .int (0 : Int32)), (5, .int v18), (4, .ref (ra Z a q17)), (3, .int (-1 : Int32)), (2, .int v15), (0, .ref (ra Z a p0)), (1, .int p1)]) C.1 C.2.1 dX11_restoreOne_39 hl (by decide) rfl (fun ls hl => ?_)
    exact l_X11_restoreOne_41 C FU (-1 : Int32) (0 : Int32) _ ls _ _ hA hW (lv_sub hl [5, 6, 4, 3, 2, 1, 0] rfl) hf
  · obtain rfl := Option.some.inj hf
    refine W.widen (k := 1) (n := 600 * 1) (by omega) (by omega) ?_
    exact z_vret C hW dX11_restoreOne_24 a hA (fun _ q => q)
set_option maxRecDepth 20000 in
set_option maxHeartbeats 1000000 in
theorem q_X11_move_153 {l : Launch} {Z : ZT} {h : Hp} {a0 : Nat → Nat} {g0 : PL} {p0 : Nat} {p1 : Int32} {p2 : Int32} {p3 : Int32} {g : PL} {x4 : Int32} {x5 : Nat} {x7 : Int32} {p : Program} {e : Env} {s : State} {m : MethodId} {args : Array Value} {below : List Frame} {meth : Method} {c : Code} (C : CQ p s m args meth c cX11_move RX11 9 (some .int) Z) {out : Int32 × PL} {a : Nat → Nat} (hA : AG a0 g0 a g) {ls : Array Slot} {H : Heap} {locs : List Loc} (hW : XG Z h a g s.heap H locs) (hl : lv_has ls 9 [(0, .ref (ra Z a p0)), (1, .int p1), (2, .int p2), (3, .int p3), (4, .int x4), (5, .ref (ra Z a x5)), (7, .int x7)]) (hf : Jp_X11_move_153 p0 p1 p2 p3 g x4 x5 x7 = some out) : W p l e (rmP 2 7) s m args below meth c H locs 7 (600 * 7) (MQ below (va_Qi (fun r (a1 : Nat → Nat) => r = out.1 ∧ AG a0 g0 a1 out.2) (fun a1 => WdP Z h a1 out.2) (FR Z)) args s 7 (600 * 7) (FR Z)) (F0 m 153 ls []) := by
  rw [Jp_X11_move_153] at hf
  refine lv_aload_n C.1 C.2.1 dX11_move_153 rfl (lv_at hl 0 rfl) ?_
  refine zg_X11_30 C hW hf dX11_move_154 (fun q1 hf => ?_)
  refine lv_aload C.1 C.2.1 dX11_move_157 (lv_at hl 5 rfl) ?_
  refine lv_iconst (v := 0) C.1 C.2.1 dX11_move_159 (by decide) ?_
  refine z_iald C hW hf dX11_move_160 (fun hf => ?_)
  refine lv_aload_n C.1 C.2.1 dX11_move_161 rfl (lv_at hl 0 rfl) ?_
  refine zg_X11_55 C hW hf dX11_move_162 (fun hf => ?_)
  refine z_iast C hW hf dX11_move_165 (fun g2 H locs hf hgn hW => ?_)
  have hA := hA.w (show g2.1 = g.1 from (congrArg (fun q : PL => q.1) hgn).trans rfl)
  refine lv_aload_n C.1 C.2.1 dX11_move_166 rfl (lv_at hl 0 rfl) ?_
  refine zg_X11_33 C hW hf dX11_move_167 (fun q3 hf => ?_)
  refine lv_aload C.1 C.2.1 dX11_move_170 (lv_at hl 5 rfl) ?_
  refine lv_iload C.1 C.2.1 dX11_move_172 (lv_at hl 4 rfl) ?_
  refine lv_iconst (v := 1) C.1 C.2.1 dX11_move_174 (by decide) ?_
  refine lv_isub C.1 C.2.1 dX11_move_175 ?_
  refine z_iald C hW hf dX11_move_176 (fun hf => ?_)
  refine lv_aload_n C.1 C.2.1 dX11_move_177 rfl (lv_at hl 0 rfl) ?_
  refine zg_X11_55 C hW hf dX11_move_178 (fun hf => ?_)
  refine z_iast C hW hf dX11_move_181 (fun g4 H locs hf hgn hW => ?_)
  have hA := hA.w (show g4.1 = g2.1 from (congrArg (fun q : PL => q.1) hgn).trans rfl)
  refine lv_iload C.1 C.2.1 dX11_move_182 (lv_at hl 6 rfl) ?_
  obtain rfl := Option.some.inj hf
  exact z_iret C hW dX11_move_184 a ⟨rfl, hA⟩ (fun _ q => q)
set_option maxRecDepth 20000 in
set_option maxHeartbeats 1000000 in
theorem l_X11_move_126 {l : Launch} {Z : ZT} {h : Hp} {a0 : Nat → Nat} {g0 : PL} {p0 : Nat} {p1 : Int32} {p2 : Int32} {p3 : Int32} {x4 : Int32} {x5 : Nat} {x7 : Int32} {p : Program} {e : Env} {s : State} {m : MethodId} {args : Array Value} {below : List Frame} {meth : Method} {c : Code} (C : CQ p s m args meth c cX11_move RX11 9 (some .int) Z) {out : Int32 × PL} : ∀ (n : Nat) (x8 : Int32) (g : PL) (k : Nat) (a : Nat → Nat) (ls : Array Slot) (H : Heap) (locs : List Loc), AG a0 g0 a g → k ≤ 7 → XG Z h a g s.heap H locs → lv_has ls 9 [(0, .ref (ra Z a p0)), (1, .int p1), (2, .int p2), (3, .int p3), (4, .int x4), (5, .ref (ra Z a x5)), (7, .int x7), (8, .int x8)] → Lp (Fp_X11_move_126 p0 p1 p2 p3 x4 x5 x7) n (x8, g, k) = some out → W p l e (rmP 2 7) s m args below meth c H locs k (600 * k) (MQ below (va_Qi (fun r (a1 : Nat → Nat) => r = out.1 ∧ AG a0 g0 a1 out.2) (fun a1 => WdP Z h a1 out.2) (FR Z)) args s 7 (600 * 7) (FR Z)) (F0 m 126 ls []) := by
  intro n
  induction n with
  | zero => intro x8 g k a ls H locs hA hk hW hl hf; cases hf
  | succ n ih =>
    intro x8 g k a ls H locs hA hk hW hl hf
    rw [Lp_s] at hf
    refine lv_iload C.1 C.2.1 dX11_move_126 (lv_at hl 7 rfl) ?_
    refine lv_iload C.1 C.2.1 dX11_move_128 (lv_at hl 4 rfl) ?_
    refine z_cmpge (tgt := 153) C hf dX11_move_130 (by decide) (fun hf => ?_) (fun hf => ?_)
    · refine W.widen (k := 7) (n := 600 * 7) (by omega) (by omega) ?_
      exact q_X11_move_153 C hA hW (lv_sub hl [0, 1, 2, 3, 4, 5, 6] rfl) hf
    · refine lv_aload_n C.1 C.2.1 dX11_move_133 rfl (lv_at hl 0 rfl) ?_
      refine lv_iload C.1 C.2.1 dX11_move_134 (lv_at hl 6 rfl) ?_
      refine lv_iload C.1 C.2.1 dX11_move_136 (lv_at hl 7 rfl) ?_
      refine lv_iadd C.1 C.2.1 dX11_move_138 ?_
      refine lv_aload C.1 C.2.1 dX11_move_139 (lv_at hl 5 rfl) ?_
      refine lv_iload C.1 C.2.1 dX11_move_141 (lv_at hl 7 rfl) ?_
      refine z_iald C hW hf dX11_move_143 (fun hf => ?_)
      obtain ⟨hx0, hf⟩ := ck_t hf
      obtain ⟨hx1, hf⟩ := ck_t hf
      obtain ⟨hkc, hf⟩ := ck_t hf
      have hkc := of_decide_eq_true hkc
      have hpw := hW.2.2.2
      have hl : lv_has ls 9 [(0, .ref (ra Z a p0)), (1, .int p1), (2, .int p2), (3, .int p3), (4, .int x4), (5, .ref (ra Z a x5)), (7, .int x7), (8, .int x8)] := lv_sub hl [0, 1, 2, 3, 4, 5, 6, 7] rfl
      obtain ⟨hb, hf⟩ := ck_t hf
      obtain ⟨u5, hu5, hf⟩ := bnd_t hf
      refine z_callvA hW (z_runV C hW hl hb (ci := 9) (fs := fl_X11 Z a (g.2.2 p0)) rfl rfl rfl (c_X11_putShot hu5) cw_X11_142 ci_X11_putShot cs_X11_putShot (rm_okP (by decide) (by decide)) (rm_cs (by omega)) (As := [.int (x7 + x8), .int (g.2.2 x5 (ix x8))]) rfl rfl (Nat.le_of_ble_eq_true rfl) dX11_move_144) (fun a6 H locs hg hW => ?_)
      have e0 := ra_to (Z := Z) hpw hg hx0
      have e1 := ra_to (Z := Z) hpw hg hx1
      rw [← e0] at hl
      rw [← e1] at hl
      have hA := hA.tr hg
      refine W.widen (k := (k + 1)) (n := 600 * (k + 1)) (by omega) (by omega) ?_
      refine z_iinc (w := 1) C hf dX11_move_147 hl (k := 7) rfl (by decide) (by decide) (fun v7 => [(8, .int v7), (0, .ref (ra Z a6 p0)), (1, .int p1), (2, .int p2), (3, .int p3), (4, .int x4), (5, .ref (ra Z a6 x5)), (7, .int x7)]) (fun _ => rfl) (fun v7 ls hf hl => ?_)
      refine lv_goto (tgt := 126) C.1 C.2.1 dX11_move_150 (by decide) ?_
      obtain ⟨hkb, hf⟩ := ck_t hf
      have hkb := of_decide_eq_true hkb
      exact ih v7 u5 (k + 1) _ ls _ _ hA hkb hW (lv_sub hl [1, 2, 3, 4, 5, 6, 7, 0] rfl) hf
set_option maxRecDepth 20000 in
set_option maxHeartbeats 1000000 in
theorem q_X11_move_115 {l : Launch} {Z : ZT} {h : Hp} {a0 : Nat → Nat} {g0 : PL} {p0 : Nat} {p1 : Int32} {p2 : Int32} {p3 : Int32} {g : PL} {x4 : Int32} {x5 : Nat} {x6 : Nat} {s0 : Int32} {p : Program} {e : Env} {s : State} {m : MethodId} {args : Array Value} {below : List Frame} {meth : Method} {c : Code} (C : CQ p s m args meth c cX11_move RX11 9 (some .int) Z) {out : Int32 × PL} {a : Nat → Nat} (hA : AG a0 g0 a g) {ls : Array Slot} {H : Heap} {locs : List Loc} (hW : XG Z h a g s.heap H locs) (hl : lv_has ls 9 [(0, .ref (ra Z a p0)), (1, .int p1), (2, .int p2), (3, .int p3), (4, .int x4), (5, .ref (ra Z a x5)), (6, .ref (ra Z a x6))]) (hf : Jp_X11_move_115 p0 p1 p2 p3 g x4 x5 x6 s0 = some out) : W p l e (rmP 2 7) s m args below meth c H locs 2 (600 * 2) (MQ below (va_Qi (fun r (a1 : Nat → Nat) => r = out.1 ∧ AG a0 g0 a1 out.2) (fun a1 => WdP Z h a1 out.2) (FR Z)) args s 7 (600 * 7) (FR Z)) (F0 m 115 ls [.int s0]) := by
  rw [Jp_X11_move_115] at hf
  refine lv_istore (lv' := [(7, .int s0), (0, .ref (ra Z a p0)), (1, .int p1), (2, .int p2), (3, .int p3), (4, .int x4), (5, .ref (ra Z a x5)), (6, .ref (ra Z a x6))]) C.1 C.2.1 dX11_move_115 hl (by decide) rfl (fun ls hl => ?_)
  refine lv_aload_n C.1 C.2.1 dX11_move_117 rfl (lv_at hl 1 rfl) ?_
  refine lv_aload C.1 C.2.1 dX11_move_118 (lv_at hl 7 rfl) ?_
  refine zp_X11_40 C hW hf dX11_move_120 (fun g8 H locs hf hgn hW => ?_)
  have hA := hA.w hgn
  refine lv_iconst (v := 0) C.1 C.2.1 dX11_move_123 (by decide) ?_
  refine lv_istore (lv' := [(8, .int (0 : Int32)), (7, .int s0), (0, .ref (ra Z a p0)), (1, .int p1), (2, .int p2), (3, .int p3), (4, .int x4), (5, .ref (ra Z a x5)), (6, .ref (ra Z a x6))]) C.1 C.2.1 dX11_move_124 hl (by decide) rfl (fun ls hl => ?_)
  exact l_X11_move_126 C FU (0 : Int32) g8 2 _ ls _ _ hA (by decide) hW (lv_sub hl [2, 3, 4, 5, 6, 7, 1, 0] rfl) hf
set_option maxRecDepth 20000 in
set_option maxHeartbeats 1000000 in
theorem q_X11_move_98 {l : Launch} {Z : ZT} {h : Hp} {a0 : Nat → Nat} {g0 : PL} {p0 : Nat} {p1 : Int32} {p2 : Int32} {p3 : Int32} {g : PL} {x4 : Int32} {x5 : Nat} {x6 : Nat} {p : Program} {e : Env} {s : State} {m : MethodId} {args : Array Value} {below : List Frame} {meth : Method} {c : Code} (C : CQ p s m args meth c cX11_move RX11 9 (some .int) Z) {out : Int32 × PL} {a : Nat → Nat} (hA : AG a0 g0 a g) {ls : Array Slot} {H : Heap} {locs : List Loc} (hW : XG Z h a g s.heap H locs) (hl : lv_has ls 9 [(0, .ref (ra Z a p0)), (1, .int p1), (2, .int p2), (3, .int p3), (4, .int x4), (5, .ref (ra Z a x5)), (6, .ref (ra Z a x6))]) (hf : Jp_X11_move_98 p0 p1 p2 p3 g x4 x5 x6 = some out) : W p l e (rmP 2 7) s m args below meth c H locs 2 (600 * 2) (MQ below (va_Qi (fun r (a1 : Nat → Nat) => r = out.1 ∧ AG a0 g0 a1 out.2) (fun a1 => WdP Z h a1 out.2) (FR Z)) args s 7 (600 * 7) (FR Z)) (F0 m 98 ls []) := by
  refine lv_iload_n C.1 C.2.1 dX11_move_98 rfl (lv_at hl 3 rfl) ?_
  refine lv_iload_n C.1 C.2.1 dX11_move_99 rfl (lv_at hl 1 rfl) ?_
  refine z_cmpge (tgt := 109) C hf dX11_move_100 (by decide) (fun hf => ?_) (fun hf => ?_)
  · refine lv_iload_n C.1 C.2.1 dX11_move_109 rfl (lv_at hl 3 rfl) ?_
    refine lv_iconst (v := 1) C.1 C.2.1 dX11_move_110 (by decide) ?_
    refine lv_iadd C.1 C.2.1 dX11_move_111 ?_
    refine lv_iload C.1 C.2.1 dX11_move_112 (lv_at hl 4 rfl) ?_
    refine lv_isub C.1 C.2.1 dX11_move_114 ?_
    exact q_X11_move_115 C hA hW (lv_sub hl [0, 1, 2, 3, 4, 5, 6] rfl) hf
  · refine lv_iload_n C.1 C.2.1 dX11_move_103 rfl (lv_at hl 3 rfl) ?_
    refine lv_iconst (v := 1) C.1 C.2.1 dX11_move_104 (by decide) ?_
    refine lv_iadd C.1 C.2.1 dX11_move_105 ?_
    refine lv_goto (tgt := 115) C.1 C.2.1 dX11_move_106 (by decide) ?_
    exact q_X11_move_115 C hA hW (lv_sub hl [0, 1, 2, 3, 4, 5, 6] rfl) hf
set_option maxRecDepth 20000 in
set_option maxHeartbeats 1000000 in
theorem q_X11_move_90 {l : Launch} {Z : ZT} {h : Hp} {a0 : Nat → Nat} {g0 : PL} {p0 : Nat} {p1 : Int32} {p2 : Int32} {p3 : Int32} {g : PL} {r58 : Int32 × PL → Option (Int32 × PL)} {x4 : Int32} {x5 : Nat} {x6 : Nat} {x7 : Int32} {s0 : Nat} {s1 : Int32} {s2 : Nat} {s3 : Int32} {p : Program} {e : Env} {s : State} {m : MethodId} {args : Array Value} {below : List Frame} {meth : Method} {c : Code} (C : CQ p s m args meth c cX11_move RX11 9 (some .int) Z) {out : Int32 × PL} (hr58 : ∀ (x7 : Int32) (g : PL) (a : Nat → Nat) (ls : Array Slot) (H : Heap) (locs : List Loc), AG a0 g0 a g → XG Z h a g s.heap H locs → lv_has ls 9 [(0, .ref (ra Z a p0)), (1, .int p1), (2, .int p2), (3, .int p3), (4, .int x4), (5, .ref (ra Z a x5)), (6, .ref (ra Z a x6)), (7, .int x7)] → r58 (x7, g) = some out → W p l e (rmP 2 7) s m args below meth c H locs 2 (600 * 2) (MQ below (va_Qi (fun r (a1 : Nat → Nat) => r = out.1 ∧ AG a0 g0 a1 out.2) (fun a1 => WdP Z h a1 out.2) (FR Z)) args s 7 (600 * 7) (FR Z)) (F0 m 58 ls [])) {a : Nat → Nat} (hA : AG a0 g0 a g) {ls : Array Slot} {H : Heap} {locs : List Loc} (hW : XG Z h a g s.heap H locs) (hl : lv_has ls 9 [(0, .ref (ra Z a p0)), (1, .int p1), (2, .int p2), (3, .int p3), (4, .int x4), (5, .ref (ra Z a x5)), (6, .ref (ra Z a x6)), (7, .int x7)]) (hf : Jp_X11_move_90 p0 p1 p2 p3 g r58 x4 x5 x6 x7 s0 s1 s2 s3 = some out) : W p l e (rmP 2 7) s m args below meth c H locs 2 (600 * 2) (MQ below (va_Qi (fun r (a1 : Nat → Nat) => r = out.1 ∧ AG a0 g0 a1 out.2) (fun a1 => WdP Z h a1 out.2) (FR Z)) args s 7 (600 * 7) (FR Z)) (F0 m 90 ls [.int s3, .ref (ra Z a s2), .int s1, .ref (ra Z a s0)]) := by
  rw [Jp_X11_move_90] at hf
  refine z_iald C hW hf dX11_move_90 (fun hf => ?_)
  refine z_iast C hW hf dX11_move_91 (fun g9 H locs hf hgn hW => ?_)
  have hA := hA.w (show g9.1 = g.1 from (congrArg (fun q : PL => q.1) hgn).trans rfl)
  refine z_iinc (w := 1) C hf dX11_move_92 hl (k := 7) rfl (by decide) (by decide) (fun v10 => [(7, .int v10), (0, .ref (ra Z a p0)), (1, .int p1), (2, .int p2), (3, .int p3), (4, .int x4), (5, .ref (ra Z a x5)), (6, .ref (ra Z a x6))]) (fun _ => rfl) (fun v10 ls hf hl => ?_)
  refine lv_goto (tgt := 58) C.1 C.2.1 dX11_move_95 (by decide) ?_
  exact hr58 v10 g9 _ ls _ _ hA hW (lv_sub hl [1, 2, 3, 4, 5, 6, 7, 0] rfl) hf
set_option maxRecDepth 20000 in
set_option maxHeartbeats 1000000 in
theorem l_X11_move_58 {l : Launch} {Z : ZT} {h : Hp} {a0 : Nat → Nat} {g0 : PL} {p0 : Nat} {p1 : Int32} {p2 : Int32} {p3 : Int32} {x4 : Int32} {x5 : Nat} {x6 : Nat} {p : Program} {e : Env} {s : State} {m : MethodId} {args : Array Value} {below : List Frame} {meth : Method} {c : Code} (C : CQ p s m args meth c cX11_move RX11 9 (some .int) Z) {out : Int32 × PL} : ∀ (n : Nat) (x7 : Int32) (g : PL) (a : Nat → Nat) (ls : Array Slot) (H : Heap) (locs : List Loc), AG a0 g0 a g → XG Z h a g s.heap H locs → lv_has ls 9 [(0, .ref (ra Z a p0)), (1, .int p1), (2, .int p2), (3, .int p3), (4, .int x4), (5, .ref (ra Z a x5)), (6, .ref (ra Z a x6)), (7, .int x7)] → Lp (Fp_X11_move_58 p0 p1 p2 p3 x4 x5 x6) n (x7, g) = some out → W p l e (rmP 2 7) s m args below meth c H locs 2 (600 * 2) (MQ below (va_Qi (fun r (a1 : Nat → Nat) => r = out.1 ∧ AG a0 g0 a1 out.2) (fun a1 => WdP Z h a1 out.2) (FR Z)) args s 7 (600 * 7) (FR Z)) (F0 m 58 ls []) := by
  intro n
  induction n with
  | zero => intro x7 g a ls H locs hA hW hl hf; cases hf
  | succ n ih =>
    intro x7 g a ls H locs hA hW hl hf
    rw [Lp_s] at hf
    rw [Fp_X11_move_58] at hf
    try dsimp only at hf
    refine lv_iload C.1 C.2.1 dX11_move_58 (lv_at hl 7 rfl) ?_
    refine lv_aload C.1 C.2.1 dX11_move_60 (lv_at hl 6 rfl) ?_
    refine z_alenI C hW hf dX11_move_62 (fun hf => ?_)
    refine z_cmpge (tgt := 98) C hf dX11_move_63 (by decide) (fun hf => ?_) (fun hf => ?_)
    · exact q_X11_move_98 C hA hW (lv_sub hl [0, 1, 2, 3, 4, 5, 6] rfl) hf
    · refine lv_aload C.1 C.2.1 dX11_move_66 (lv_at hl 6 rfl) ?_
      refine lv_iload C.1 C.2.1 dX11_move_68 (lv_at hl 7 rfl) ?_
      refine lv_aload_n C.1 C.2.1 dX11_move_70 rfl (lv_at hl 0 rfl) ?_
      refine zg_X11_40 C hW hf dX11_move_71 (fun q11 hf => ?_)
      refine lv_iload C.1 C.2.1 dX11_move_74 (lv_at hl 7 rfl) ?_
      refine lv_iload_n C.1 C.2.1 dX11_move_76 rfl (lv_at hl 1 rfl) ?_
      refine z_cmpge (tgt := 85) C hf dX11_move_77 (by decide) (fun hf => ?_) (fun hf => ?_)
      · refine lv_iload C.1 C.2.1 dX11_move_85 (lv_at hl 7 rfl) ?_
        refine lv_iload C.1 C.2.1 dX11_move_87 (lv_at hl 4 rfl) ?_
        refine lv_iadd C.1 C.2.1 dX11_move_89 ?_
        exact q_X11_move_90 C ih hA hW (lv_sub hl [0, 1, 2, 3, 4, 5, 6, 7] rfl) hf
      · refine lv_iload C.1 C.2.1 dX11_move_80 (lv_at hl 7 rfl) ?_
        refine lv_goto (tgt := 90) C.1 C.2.1 dX11_move_82 (by decide) ?_
        exact q_X11_move_90 C ih hA hW (lv_sub hl [0, 1, 2, 3, 4, 5, 6, 7] rfl) hf
set_option maxRecDepth 20000 in
set_option maxHeartbeats 1000000 in
theorem q_X11_move_43 {l : Launch} {Z : ZT} {h : Hp} {a0 : Nat → Nat} {g0 : PL} {p0 : Nat} {p1 : Int32} {p2 : Int32} {p3 : Int32} {g : PL} {x4 : Int32} {x5 : Nat} {p : Program} {e : Env} {s : State} {m : MethodId} {args : Array Value} {below : List Frame} {meth : Method} {c : Code} (C : CQ p s m args meth c cX11_move RX11 9 (some .int) Z) {out : Int32 × PL} {a : Nat → Nat} (hA : AG a0 g0 a g) {ls : Array Slot} {H : Heap} {locs : List Loc} (hW : XG Z h a g s.heap H locs) (hl : lv_has ls 9 [(0, .ref (ra Z a p0)), (1, .int p1), (2, .int p2), (3, .int p3), (4, .int x4), (5, .ref (ra Z a x5))]) (hf : Jp_X11_move_43 p0 p1 p2 p3 g x4 x5 = some out) : W p l e (rmP 2 7) s m args below meth c H locs 1 (600 * 1) (MQ below (va_Qi (fun r (a1 : Nat → Nat) => r = out.1 ∧ AG a0 g0 a1 out.2) (fun a1 => WdP Z h a1 out.2) (FR Z)) args s 7 (600 * 7) (FR Z)) (F0 m 43 ls []) := by
  rw [Jp_X11_move_43] at hf
  refine lv_aload_n C.1 C.2.1 dX11_move_43 rfl (lv_at hl 0 rfl) ?_
  refine zg_X11_40 C hW hf dX11_move_44 (fun q12 hf => ?_)
  refine z_alenI C hW hf dX11_move_47 (fun hf => ?_)
  refine lv_iload C.1 C.2.1 dX11_move_48 (lv_at hl 4 rfl) ?_
  refine lv_isub C.1 C.2.1 dX11_move_50 ?_
  obtain ⟨hx0, hf⟩ := ck_t hf
  obtain ⟨hx1, hf⟩ := ck_t hf
  have hpw := hW.2.2.2
  have hl : lv_has ls 9 [(0, .ref (ra Z a p0)), (1, .int p1), (2, .int p2), (3, .int p3), (4, .int x4), (5, .ref (ra Z a x5))] := lv_sub hl [0, 1, 2, 3, 4, 5] rfl
  refine z_newI C hW ac_int hf ⟨by show _ + 1 ≤ 7; omega, by show _ + 600 ≤ 600 * 7; omega⟩ dX11_move_51 (fun a14 g13 H hf hg hW => ?_)
  have e0 := ra_to (Z := Z) hpw hg hx0
  have e1 := ra_to (Z := Z) hpw hg hx1
  rw [← e0] at hl
  rw [← e1] at hl
  have hA := hA.tr hg
  refine W.widen (k := 2) (n := 600 * 2) (by omega) (by omega) ?_
  refine lv_astore (lv' := [(6, .ref (ra Z a14 g.1)), (0, .ref (ra Z a14 p0)), (1, .int p1), (2, .int p2), (3, .int p3), (4, .int x4), (5, .ref (ra Z a14 x5))]) C.1 C.2.1 dX11_move_53 hl (by decide) rfl (fun ls hl => ?_)
  refine lv_iconst (v := 0) C.1 C.2.1 dX11_move_55 (by decide) ?_
  refine lv_istore (lv' := [(7, .int (0 : Int32)), (6, .ref (ra Z a14 g.1)), (0, .ref (ra Z a14 p0)), (1, .int p1), (2, .int p2), (3, .int p3), (4, .int x4), (5, .ref (ra Z a14 x5))]) C.1 C.2.1 dX11_move_56 hl (by decide) rfl (fun ls hl => ?_)
  exact l_X11_move_58 C FU (0 : Int32) g13 _ ls _ _ hA hW (lv_sub hl [2, 3, 4, 5, 6, 7, 1, 0] rfl) hf
set_option maxRecDepth 20000 in
set_option maxHeartbeats 1000000 in
theorem l_X11_move_16 {l : Launch} {Z : ZT} {h : Hp} {a0 : Nat → Nat} {g0 : PL} {p0 : Nat} {p1 : Int32} {p2 : Int32} {p3 : Int32} {x4 : Int32} {x5 : Nat} {p : Program} {e : Env} {s : State} {m : MethodId} {args : Array Value} {below : List Frame} {meth : Method} {c : Code} (C : CQ p s m args meth c cX11_move RX11 9 (some .int) Z) {out : Int32 × PL} : ∀ (n : Nat) (x6 : Int32) (g : PL) (a : Nat → Nat) (ls : Array Slot) (H : Heap) (locs : List Loc), AG a0 g0 a g → XG Z h a g s.heap H locs → lv_has ls 9 [(0, .ref (ra Z a p0)), (1, .int p1), (2, .int p2), (3, .int p3), (4, .int x4), (5, .ref (ra Z a x5)), (6, .int x6)] → Lp (Fp_X11_move_16 p0 p1 p2 p3 x4 x5) n (x6, g) = some out → W p l e (rmP 2 7) s m args below meth c H locs 1 (600 * 1) (MQ below (va_Qi (fun r (a1 : Nat → Nat) => r = out.1 ∧ AG a0 g0 a1 out.2) (fun a1 => WdP Z h a1 out.2) (FR Z)) args s 7 (600 * 7) (FR Z)) (F0 m 16 ls []) := by
  intro n
  induction n with
  | zero => intro x6 g a ls H locs hA hW hl hf; cases hf
  | succ n ih =>
    intro x6 g a ls H locs hA hW hl hf
    rw [Lp_s] at hf
    refine lv_iload C.1 C.2.1 dX11_move_16 (lv_at hl 6 rfl) ?_
    refine lv_iload C.1 C.2.1 dX11_move_18 (lv_at hl 4 rfl) ?_
    refine z_cmpge (tgt := 43) C hf dX11_move_20 (by decide) (fun hf => ?_) (fun hf => ?_)
    · exact q_X11_move_43 C hA hW (lv_sub hl [0, 1, 2, 3, 4, 5] rfl) hf
    · refine lv_aload C.1 C.2.1 dX11_move_23 (lv_at hl 5 rfl) ?_
      refine lv_iload C.1 C.2.1 dX11_move_25 (lv_at hl 6 rfl) ?_
      refine lv_aload_n C.1 C.2.1 dX11_move_27 rfl (lv_at hl 0 rfl) ?_
      refine zg_X11_40 C hW hf dX11_move_28 (fun q15 hf => ?_)
      refine lv_iload_n C.1 C.2.1 dX11_move_31 rfl (lv_at hl 1 rfl) ?_
      refine lv_iload C.1 C.2.1 dX11_move_32 (lv_at hl 6 rfl) ?_
      refine lv_iadd C.1 C.2.1 dX11_move_34 ?_
      refine z_iald C hW hf dX11_move_35 (fun hf => ?_)
      refine z_iast C hW hf dX11_move_36 (fun g16 H locs hf hgn hW => ?_)
      have hA := hA.w (show g16.1 = g.1 from (congrArg (fun q : PL => q.1) hgn).trans rfl)
      refine z_iinc (w := 1) C hf dX11_move_37 hl (k := 6) rfl (by decide) (by decide) (fun v17 => [(6, .int v17), (0, .ref (ra Z a p0)), (1, .int p1), (2, .int p2), (3, .int p3), (4, .int x4), (5, .ref (ra Z a x5))]) (fun _ => rfl) (fun v17 ls hf hl => ?_)
      refine lv_goto (tgt := 16) C.1 C.2.1 dX11_move_40 (by decide) ?_
      exact ih v17 g16 _ ls _ _ hA hW (lv_sub hl [1, 2, 3, 4, 5, 6, 0] rfl) hf
set_option maxRecDepth 20000 in
set_option maxHeartbeats 1000000 in
theorem c_X11_move {l : Launch} {Z : ZT} {h : Hp} {a : Nat → Nat} {g : PL} {p0 : Nat} {p1 : Int32} {p2 : Int32} {p3 : Int32} {out : Int32 × PL} (hf : fp_X11_move g p0 p1 p2 p3 = some out) : Met l yX11_move (wY yX11_move cX11_move 9 (some .int)) (rmP 2 7) (va_Pc [.ref (ra Z a p0), .int p1, .int p2, .int p3] (WdP Z h a g)) (va_Qi (fun r (a1 : Nat → Nat) => r = out.1 ∧ AG a g a1 out.2) (fun a1 => WdP Z h a1 out.2) (FR Z)) 7 (600 * 7) (FR Z) := by
  refine metZ RX11 rfl (by decide +kernel) (Nat.le_of_ble_eq_true rfl) ?_
  intro p e s m args below meth c C hin hW ls hl
  have hl : lv_has ls 9 [(0, .ref (ra Z a p0)), (1, .int p1), (2, .int p2), (3, .int p3)] := hl
  have hA := AG.rf a g
  unfold fp_X11_move at hf
  refine W.widen (k := 0) (n := 600 * 0) (Nat.le_refl _) (Nat.le_refl _) ?_
  refine lv_iload_n C.1 C.2.1 dX11_move_0 rfl (lv_at hl 2 rfl) ?_
  refine lv_iload_n C.1 C.2.1 dX11_move_1 rfl (lv_at hl 1 rfl) ?_
  refine lv_isub C.1 C.2.1 dX11_move_2 ?_
  refine lv_iconst (v := 1) C.1 C.2.1 dX11_move_3 (by decide) ?_
  refine lv_iadd C.1 C.2.1 dX11_move_4 ?_
  refine z_ist C hf dX11_move_5 hl (by decide) (fun v18 => [(4, .int v18), (0, .ref (ra Z a p0)), (1, .int p1), (2, .int p2), (3, .int p3)]) (fun _ => rfl) (fun v18 ls hf hl => ?_)
  refine lv_iload C.1 C.2.1 dX11_move_7 (lv_at hl 0 rfl) ?_
  obtain ⟨hx0, hf⟩ := ck_t hf
  have hpw := hW.2.2.2
  have hl : lv_has ls 9 [(4, .int v18), (0, .ref (ra Z a p0)), (1, .int p1), (2, .int p2), (3, .int p3)] := lv_sub hl [0, 1, 2, 3, 4] rfl
  refine z_newI C hW ac_int hf ⟨by show _ + 1 ≤ 7; omega, by show _ + 600 ≤ 600 * 7; omega⟩ dX11_move_9 (fun a20 g19 H hf hg hW => ?_)
  have e0 := ra_to (Z := Z) hpw hg hx0
  rw [← e0] at hl
  have hA := hA.tr hg
  refine W.widen (k := 1) (n := 600 * 1) (by omega) (by omega) ?_
  refine lv_astore (lv' := [(5, .ref (ra Z a20 g.1)), (4, .int v18), (0, .ref (ra Z a20 p0)), (1, .int p1), (2, .int p2), (3, .int p3)]) C.1 C.2.1 dX11_move_11 hl (by decide) rfl (fun ls hl => ?_)
  refine lv_iconst (v := 0) C.1 C.2.1 dX11_move_13 (by decide) ?_
  refine lv_istore (lv' := [(6, .int (0 : Int32)), (5, .ref (ra Z a20 g.1)), (4, .int v18), (0, .ref (ra Z a20 p0)), (1, .int p1), (2, .int p2), (3, .int p3)]) C.1 C.2.1 dX11_move_14 hl (by decide) rfl (fun ls hl => ?_)
  exact l_X11_move_16 C FU (0 : Int32) g19 _ ls _ _ hA hW (lv_sub hl [3, 4, 5, 6, 2, 1, 0] rfl) hf
