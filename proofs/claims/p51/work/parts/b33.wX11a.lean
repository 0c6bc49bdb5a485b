set_option maxRecDepth 20000 in
set_option maxHeartbeats 1000000 in
theorem l_X11_layBlocks_303 {l : Launch} {Z : ZT} {h : Hp} {a0 : Nat → Nat} {g0 : PL} {p0 : Nat} {p : Program} {e : Env} {s : State} {m : MethodId} {args : Array Value} {below : List Frame} {meth : Method} {c : Code} (C : CQ p s m args meth c cX11_layBlocks RX11 6 none Z) {out : PL} : ∀ (n : Nat) (x1 : Int32) (g : PL) (a : Nat → Nat) (ls : Array Slot) (H : Heap) (locs : List Loc), AG a0 g0 a g → XG Z h a g s.heap H locs → lv_has ls 6 [(0, .ref (ra Z a p0)), (1, .int x1)] → Lp (Fp_X11_layBlocks_303 p0) n (x1, g) = some out → W p l e (rmP 1 1) s m args below meth c H locs 1 (600 * 1) (MQ below (va_Qv (fun (a1 : Nat → Nat) => AG a0 g0 a1 out) (fun a1 => WdP Z h a1 out) (FR Z)) args s 1 (600 * 1) (FR Z)) (F0 m 303 ls []) := by
  intro n
  induction n with
  | zero => intro x1 g a ls H locs hA hW hl hf; cases hf
  | succ n ih =>
    intro x1 g a ls H locs hA hW hl hf
    rw [Lp_s] at hf
    rw [Fp_X11_layBlocks_303] at hf
    try dsimp only at hf
    refine lv_iload_n C.1 C.2.1 dX11_layBlocks_303 rfl (lv_at hl 1 rfl) ?_
    refine lv_aload_n C.1 C.2.1 dX11_layBlocks_304 rfl (lv_at hl 0 rfl) ?_
    refine zg_X11_121 C hW hf dX11_layBlocks_305 (fun hf => ?_)
    refine z_cmpge (tgt := 324) C hf dX11_layBlocks_308 (by decide) (fun hf => ?_) (fun hf => ?_)
    · obtain rfl := Option.some.inj hf
      exact z_vret C hW dX11_layBlocks_324 a hA (fun _ q => q)
    · refine lv_aload_n C.1 C.2.1 dX11_layBlocks_311 rfl (lv_at hl 0 rfl) ?_
      refine zg_X11_40 C hW hf dX11_layBlocks_312 (fun q1 hf => ?_)
      refine lv_iload_n C.1 C.2.1 dX11_layBlocks_315 rfl (lv_at hl 1 rfl) ?_
      refine lv_iload_n C.1 C.2.1 dX11_layBlocks_316 rfl (lv_at hl 1 rfl) ?_
      refine z_iast C hW hf dX11_layBlocks_317 (fun g2 H locs hf hgn hW => ?_)
      have hA := hA.w (show g2.1 = g.1 from (congrArg (fun q : PL => q.1) hgn).trans rfl)
      refine z_iinc (w := 1) C hf dX11_layBlocks_318 hl (k := 1) rfl (by decide) (by decide) (fun v3 => [(1, .int v3), (0, .ref (ra Z a p0))]) (fun _ => rfl) (fun v3 ls hf hl => ?_)
      refine lv_goto (tgt := 303) C.1 C.2.1 dX11_layBlocks_321 (by decide) ?_
      exact ih v3 g2 _ ls _ _ hA hW (lv_sub hl [1, 0] rfl) hf
set_option maxRecDepth 20000 in
set_option maxHeartbeats 1000000 in
theorem q_X11_layBlocks_291 {l : Launch} {Z : ZT} {h : Hp} {a0 : Nat → Nat} {g0 : PL} {p0 : Nat} {g : PL} {p : Program} {e : Env} {s : State} {m : MethodId} {args : Array Value} {below : List Frame} {meth : Method} {c : Code} (C : CQ p s m args meth c cX11_layBlocks RX11 6 none Z) {out : PL} {a : Nat → Nat} (hA : AG a0 g0 a g) {ls : Array Slot} {H : Heap} {locs : List Loc} (hW : XG Z h a g s.heap H locs) (hl : lv_has ls 6 [(0, .ref (ra Z a p0))]) (hf : Jp_X11_layBlocks_291 p0 g = some out) : W p l e (rmP 1 1) s m args below meth c H locs 0 (600 * 0) (MQ below (va_Qv (fun (a1 : Nat → Nat) => AG a0 g0 a1 out) (fun a1 => WdP Z h a1 out) (FR Z)) args s 1 (600 * 1) (FR Z)) (F0 m 291 ls []) := by
  rw [Jp_X11_layBlocks_291] at hf
  refine lv_aload_n C.1 C.2.1 dX11_layBlocks_291 rfl (lv_at hl 0 rfl) ?_
  refine lv_aload_n C.1 C.2.1 dX11_layBlocks_292 rfl (lv_at hl 0 rfl) ?_
  refine zg_X11_121 C hW hf dX11_layBlocks_293 (fun hf => ?_)
  obtain ⟨hx0, hf⟩ := ck_t hf
  have hpw := hW.2.2.2
  have hl : lv_has ls 6 [(0, .ref (ra Z a p0))] := lv_sub hl [0] rfl
  refine z_newI C hW ac_int hf ⟨by show _ + 1 ≤ 1; omega, by show _ + 600 ≤ 600 * 1; omega⟩ dX11_layBlocks_296 (fun a5 g4 H hf hg hW => ?_)
  have e0 := ra_to (Z := Z) hpw hg hx0
  rw [← e0] at hl
  rw [← e0]
  have hA := hA.tr hg
  refine W.widen (k := 1) (n := 600 * 1) (by omega) (by omega) ?_
  refine zp_X11_40 C hW hf dX11_layBlocks_298 (fun g6 H locs hf hgn hW => ?_)
  have hA := hA.w hgn
  refine lv_iconst (v := 0) C.1 C.2.1 dX11_layBlocks_301 (by decide) ?_
  refine lv_istore_n (lv' := [(1, .int (0 : Int32)), (0, .ref (ra Z a5 p0))]) C.1 C.2.1 dX11_layBlocks_302 rfl hl (by decide) rfl (fun ls hl => ?_)
  exact l_X11_layBlocks_303 C FU (0 : Int32) g6 _ ls _ _ hA hW (lv_sub hl [1, 0] rfl) hf
set_option maxRecDepth 20000 in
set_option maxHeartbeats 1000000 in
theorem q_X11_layBlocks_285 {l : Launch} {Z : ZT} {h : Hp} {a0 : Nat → Nat} {g0 : PL} {p0 : Nat} {g : PL} {r163 : Int32 × PL → Option (PL)} {x1 : Int32} {p : Program} {e : Env} {s : State} {m : MethodId} {args : Array Value} {below : List Frame} {meth : Method} {c : Code} (C : CQ p s m args meth c cX11_layBlocks RX11 6 none Z) {out : PL} (hr163 : ∀ (x1 : Int32) (g : PL) (a : Nat → Nat) (ls : Array Slot) (H : Heap) (locs : List Loc), AG a0 g0 a g → XG Z h a g s.heap H locs → lv_has ls 6 [(0, .ref (ra Z a p0)), (1, .int x1)] → r163 (x1, g) = some out → W p l e (rmP 1 1) s m args below meth c H locs 0 (600 * 0) (MQ below (va_Qv (fun (a1 : Nat → Nat) => AG a0 g0 a1 out) (fun a1 => WdP Z h a1 out) (FR Z)) args s 1 (600 * 1) (FR Z)) (F0 m 163 ls [])) {a : Nat → Nat} (hA : AG a0 g0 a g) {ls : Array Slot} {H : Heap} {locs : List Loc} (hW : XG Z h a g s.heap H locs) (hl : lv_has ls 6 [(0, .ref (ra Z a p0)), (1, .int x1)]) (hf : Jp_X11_layBlocks_285 p0 g r163 x1 = some out) : W p l e (rmP 1 1) s m args below meth c H locs 0 (600 * 0) (MQ below (va_Qv (fun (a1 : Nat → Nat) => AG a0 g0 a1 out) (fun a1 => WdP Z h a1 out) (FR Z)) args s 1 (600 * 1) (FR Z)) (F0 m 285 ls []) := by
  rw [Jp_X11_layBlocks_285] at hf
  refine z_iinc (w := 1) C hf dX11_layBlocks_285 hl (k := 1) rfl (by decide) (by decide) (fun v7 => [(1, .int v7), (0, .ref (ra Z a p0))]) (fun _ => rfl) (fun v7 ls hf hl => ?_)
  refine lv_goto (tgt := 163) C.1 C.2.1 dX11_layBlocks_288 (by decide) ?_
  exact hr163 v7 g _ ls _ _ hA hW (lv_sub hl [1, 0] rfl) hf
set_option maxRecDepth 20000 in
set_option maxHeartbeats 1000000 in
theorem q_X11_layBlocks_279 {l : Launch} {Z : ZT} {h : Hp} {a0 : Nat → Nat} {g0 : PL} {p0 : Nat} {g : PL} {r163 : Int32 × PL → Option (PL)} {r200 : Int32 × Int32 × PL → Option (PL)} {x1 : Int32} {x2 : Int32} {x3 : Int32} {p : Program} {e : Env} {s : State} {m : MethodId} {args : Array Value} {below : List Frame} {meth : Method} {c : Code} (C : CQ p s m args meth c cX11_layBlocks RX11 6 none Z) {out : PL} (hr163 : ∀ (x1 : Int32) (g : PL) (a : Nat → Nat) (ls : Array Slot) (H : Heap) (locs : List Loc), AG a0 g0 a g → XG Z h a g s.heap H locs → lv_has ls 6 [(0, .ref (ra Z a p0)), (1, .int x1)] → r163 (x1, g) = some out → W p l e (rmP 1 1) s m args below meth c H locs 0 (600 * 0) (MQ below (va_Qv (fun (a1 : Nat → Nat) => AG a0 g0 a1 out) (fun a1 => WdP Z h a1 out) (FR Z)) args s 1 (600 * 1) (FR Z)) (F0 m 163 ls [])) (hr200 : ∀ (x2 : Int32) (x3 : Int32) (g : PL) (a : Nat → Nat) (ls : Array Slot) (H : Heap) (locs : List Loc), AG a0 g0 a g → XG Z h a g s.heap H locs → lv_has ls 6 [(0, .ref (ra Z a p0)), (1, .int x1), (2, .int x2), (3, .int x3)] → r200 (x2, x3, g) = some out → W p l e (rmP 1 1) s m args below meth c H locs 0 (600 * 0) (MQ below (va_Qv (fun (a1 : Nat → Nat) => AG a0 g0 a1 out) (fun a1 => WdP Z h a1 out) (FR Z)) args s 1 (600 * 1) (FR Z)) (F0 m 200 ls [])) {a : Nat → Nat} (hA : AG a0 g0 a g) {ls : Array Slot} {H : Heap} {locs : List Loc} (hW : XG Z h a g s.heap H locs) (hl : lv_has ls 6 [(0, .ref (ra Z a p0)), (1, .int x1), (2, .int x2), (3, .int x3)]) (hf : Jp_X11_layBlocks_279 p0 g r163 r200 x1 x2 x3 = some out) : W p l e (rmP 1 1) s m args below meth c H locs 0 (600 * 0) (MQ below (va_Qv (fun (a1 : Nat → Nat) => AG a0 g0 a1 out) (fun a1 => WdP Z h a1 out) (FR Z)) args s 1 (600 * 1) (FR Z)) (F0 m 279 ls []) := by
  rw [Jp_X11_layBlocks_279] at hf
  refine z_iinc (w := 1) C hf dX11_layBlocks_279 hl (k := 3) rfl (by decide) (by decide) (fun v8 => [(3, .int v8), (0, .ref (ra Z a p0)), (1, .int x1), (2, .int x2)]) (fun _ => rfl) (fun v8 ls hf hl => ?_)
  refine lv_goto (tgt := 200) C.1 C.2.1 dX11_layBlocks_282 (by decide) ?_
  exact hr200 x2 v8 g _ ls _ _ hA hW (lv_sub hl [1, 2, 3, 0] rfl) hf
set_option maxRecDepth 20000 in
set_option maxHeartbeats 1000000 in
theorem l_X11_layBlocks_200 {l : Launch} {Z : ZT} {h : Hp} {a0 : Nat → Nat} {g0 : PL} {p0 : Nat} {r163 : Int32 × PL → Option (PL)} {x1 : Int32} {p : Program} {e : Env} {s : State} {m : MethodId} {args : Array Value} {below : List Frame} {meth : Method} {c : Code} (C : CQ p s m args meth c cX11_layBlocks RX11 6 none Z) {out : PL} (hr163 : ∀ (x1 : Int32) (g : PL) (a : Nat → Nat) (ls : Array Slot) (H : Heap) (locs : List Loc), AG a0 g0 a g → XG Z h a g s.heap H locs → lv_has ls 6 [(0, .ref (ra Z a p0)), (1, .int x1)] → r163 (x1, g) = some out → W p l e (rmP 1 1) s m args below meth c H locs 0 (600 * 0) (MQ below (va_Qv (fun (a1 : Nat → Nat) => AG a0 g0 a1 out) (fun a1 => WdP Z h a1 out) (FR Z)) args s 1 (600 * 1) (FR Z)) (F0 m 163 ls [])) : ∀ (n : Nat) (x2 : Int32) (x3 : Int32) (g : PL) (a : Nat → Nat) (ls : Array Slot) (H : Heap) (locs : List Loc), AG a0 g0 a g → XG Z h a g s.heap H locs → lv_has ls 6 [(0, .ref (ra Z a p0)), (1, .int x1), (2, .int x2), (3, .int x3)] → Lp (Fp_X11_layBlocks_200 p0 r163 x1) n (x2, x3, g) = some out → W p l e (rmP 1 1) s m args below meth c H locs 0 (600 * 0) (MQ below (va_Qv (fun (a1 : Nat → Nat) => AG a0 g0 a1 out) (fun a1 => WdP Z h a1 out) (FR Z)) args s 1 (600 * 1) (FR Z)) (F0 m 200 ls []) := by
  intro n
  induction n with
  | zero => intro x2 x3 g a ls H locs hA hW hl hf; cases hf
  | succ n ih =>
    intro x2 x3 g a ls H locs hA hW hl hf
    rw [Lp_s] at hf
    rw [Fp_X11_layBlocks_200] at hf
    try dsimp only at hf
    refine lv_iload_n C.1 C.2.1 dX11_layBlocks_200 rfl (lv_at hl 3 rfl) ?_
    refine lv_aload_n C.1 C.2.1 dX11_layBlocks_201 rfl (lv_at hl 0 rfl) ?_
    refine zg_X11_109 C hW hf dX11_layBlocks_202 (fun hf => ?_)
    refine z_cmpge (tgt := 285) C hf dX11_layBlocks_205 (by decide) (fun hf => ?_) (fun hf => ?_)
    · exact q_X11_layBlocks_285 C hr163 hA hW (lv_sub hl [0, 1] rfl) hf
    · refine lv_aload_n C.1 C.2.1 dX11_layBlocks_208 rfl (lv_at hl 0 rfl) ?_
      refine zg_X11_24 C hW hf dX11_layBlocks_209 (fun q9 hf => ?_)
      refine lv_iload_n C.1 C.2.1 dX11_layBlocks_212 rfl (lv_at hl 1 rfl) ?_
      refine z_iald C hW hf dX11_layBlocks_213 (fun hf => ?_)
      refine lv_aload_n C.1 C.2.1 dX11_layBlocks_214 rfl (lv_at hl 0 rfl) ?_
      refine zg_X11_15 C hW hf dX11_layBlocks_215 (fun q10 hf => ?_)
      refine lv_iload_n C.1 C.2.1 dX11_layBlocks_218 rfl (lv_at hl 3 rfl) ?_
      refine z_aald C hW hf dX11_layBlocks_219 (fun q11 hf => ?_)
      refine lv_iconst (v := 0) C.1 C.2.1 dX11_layBlocks_220 (by decide) ?_
      refine z_iald C hW hf dX11_layBlocks_221 (fun hf => ?_)
      refine z_max C hl (ml_X11_80) (rm_m (by decide)) (rm_c0 (by decide)) (Nat.le_of_ble_eq_true rfl) dX11_layBlocks_222 ?_
      refine z_ist C hf dX11_layBlocks_225 hl (by decide) (fun v12 => [(4, .int v12), (0, .ref (ra Z a p0)), (1, .int x1), (2, .int x2), (3, .int x3)]) (fun _ => rfl) (fun v12 ls hf hl => ?_)
      refine lv_aload_n C.1 C.2.1 dX11_layBlocks_227 rfl (lv_at hl 1 rfl) ?_
      refine zg_X11_21 C hW hf dX11_layBlocks_228 (fun q13 hf => ?_)
      refine lv_iload_n C.1 C.2.1 dX11_layBlocks_231 rfl (lv_at hl 2 rfl) ?_
      refine lv_iconst (v := 1) C.1 C.2.1 dX11_layBlocks_232 (by decide) ?_
      refine lv_iadd C.1 C.2.1 dX11_layBlocks_233 ?_
      refine z_iald C hW hf dX11_layBlocks_234 (fun hf => ?_)
      refine lv_aload_n C.1 C.2.1 dX11_layBlocks_235 rfl (lv_at hl 1 rfl) ?_
      refine zg_X11_15 C hW hf dX11_layBlocks_236 (fun q14 hf => ?_)
      refine lv_iload_n C.1 C.2.1 dX11_layBlocks_239 rfl (lv_at hl 4 rfl) ?_
      refine z_aald C hW hf dX11_layBlocks_240 (fun q15 hf => ?_)
      refine lv_iconst (v := 1) C.1 C.2.1 dX11_layBlocks_241 (by decide) ?_
      refine z_iald C hW hf dX11_layBlocks_242 (fun hf => ?_)
      refine z_min C hl (ml_X11_124) (rm_m (by decide)) (rm_c0 (by decide)) (Nat.le_of_ble_eq_true rfl) dX11_layBlocks_243 ?_
      refine z_ist C hf dX11_layBlocks_246 hl (by decide) (fun v16 => [(5, .int v16), (4, .int v12), (0, .ref (ra Z a p0)), (1, .int x1), (2, .int x2), (3, .int x3)]) (fun _ => rfl) (fun v16 ls hf hl => ?_)
      refine lv_iload C.1 C.2.1 dX11_layBlocks_248 (lv_at hl 0 rfl) ?_
      refine lv_iload C.1 C.2.1 dX11_layBlocks_250 (lv_at hl 1 rfl) ?_
      refine lv_isub C.1 C.2.1 dX11_layBlocks_252 ?_
      refine lv_iload_n C.1 C.2.1 dX11_layBlocks_253 rfl (lv_at hl 4 rfl) ?_
      refine z_cmpgt (tgt := 260) C hf dX11_layBlocks_254 (by decide) (fun hf => ?_) (fun hf => ?_)
      · refine lv_iload C.1 C.2.1 dX11_layBlocks_260 (lv_at hl 0 rfl) ?_
        refine lv_iload C.1 C.2.1 dX11_layBlocks_262 (lv_at hl 1 rfl) ?_
        refine lv_isub C.1 C.2.1 dX11_layBlocks_264 ?_
        refine z_istn C hf dX11_layBlocks_265 rfl hl (by decide) (fun v17 => [(2, .int v17), (5, .int v16), (4, .int v12), (0, .ref (ra Z a p0)), (1, .int x1), (3, .int x3)]) (fun _ => rfl) (fun v17 ls hf hl => ?_)
        refine lv_aload_n C.1 C.2.1 dX11_layBlocks_266 rfl (lv_at hl 3 rfl) ?_
        refine zg_X11_27 C hW hf dX11_layBlocks_267 (fun q18 hf => ?_)
        refine lv_iload_n C.1 C.2.1 dX11_layBlocks_270 rfl (lv_at hl 4 rfl) ?_
        refine lv_iload C.1 C.2.1 dX11_layBlocks_271 (lv_at hl 2 rfl) ?_
        refine lv_iload C.1 C.2.1 dX11_layBlocks_273 (lv_at hl 1 rfl) ?_
        refine lv_iadd C.1 C.2.1 dX11_layBlocks_275 ?_
        refine lv_iconst (v := 2) C.1 C.2.1 dX11_layBlocks_276 (by decide) ?_
        refine lv_idiv C.1 C.2.1 dX11_layBlocks_277 (by decide) ?_
        refine z_iast C hW hf dX11_layBlocks_278 (fun g19 H locs hf hgn hW => ?_)
        have hA := hA.w (show g19.1 = g.1 from (congrArg (fun q : PL => q.1) hgn).trans rfl)
        exact q_X11_layBlocks_279 C hr163 ih hA hW (lv_sub hl [3, 4, 0, 5] rfl) hf
      · refine lv_goto (tgt := 279) C.1 C.2.1 dX11_layBlocks_257 (by decide) ?_
        exact q_X11_layBlocks_279 C hr163 ih hA hW (lv_sub hl [2, 3, 4, 5] rfl) hf
set_option maxRecDepth 20000 in
set_option maxHeartbeats 1000000 in
theorem l_X11_layBlocks_163 {l : Launch} {Z : ZT} {h : Hp} {a0 : Nat → Nat} {g0 : PL} {p0 : Nat} {p : Program} {e : Env} {s : State} {m : MethodId} {args : Array Value} {below : List Frame} {meth : Method} {c : Code} (C : CQ p s m args meth c cX11_layBlocks RX11 6 none Z) {out : PL} : ∀ (n : Nat) (x1 : Int32) (g : PL) (a : Nat → Nat) (ls : Array Slot) (H : Heap) (locs : List Loc), AG a0 g0 a g → XG Z h a g s.heap H locs → lv_has ls 6 [(0, .ref (ra Z a p0)), (1, .int x1)] → Lp (Fp_X11_layBlocks_163 p0) n (x1, g) = some out → W p l e (rmP 1 1) s m args below meth c H locs 0 (600 * 0) (MQ below (va_Qv (fun (a1 : Nat → Nat) => AG a0 g0 a1 out) (fun a1 => WdP Z h a1 out) (FR Z)) args s 1 (600 * 1) (FR Z)) (F0 m 163 ls []) := by
  intro n
  induction n with
  | zero => intro x1 g a ls H locs hA hW hl hf; cases hf
  | succ n ih =>
    intro x1 g a ls H locs hA hW hl hf
    rw [Lp_s] at hf
    rw [Fp_X11_layBlocks_163] at hf
    try dsimp only at hf
    refine lv_iload_n C.1 C.2.1 dX11_layBlocks_163 rfl (lv_at hl 1 rfl) ?_
    refine lv_iconst (v := 1) C.1 C.2.1 dX11_layBlocks_164 (by decide) ?_
    refine lv_iadd C.1 C.2.1 dX11_layBlocks_165 ?_
    refine lv_aload_n C.1 C.2.1 dX11_layBlocks_166 rfl (lv_at hl 0 rfl) ?_
    refine zg_X11_121 C hW hf dX11_layBlocks_167 (fun hf => ?_)
    refine z_cmpge (tgt := 291) C hf dX11_layBlocks_170 (by decide) (fun hf => ?_) (fun hf => ?_)
    · exact q_X11_layBlocks_291 C hA hW (lv_sub hl [0] rfl) hf
    · refine lv_aload_n C.1 C.2.1 dX11_layBlocks_173 rfl (lv_at hl 0 rfl) ?_
      refine zg_X11_27 C hW hf dX11_layBlocks_174 (fun q20 hf => ?_)
      refine lv_iload_n C.1 C.2.1 dX11_layBlocks_177 rfl (lv_at hl 1 rfl) ?_
      refine lv_aload_n C.1 C.2.1 dX11_layBlocks_178 rfl (lv_at hl 0 rfl) ?_
      refine zg_X11_24 C hW hf dX11_layBlocks_179 (fun q21 hf => ?_)
      refine lv_iload_n C.1 C.2.1 dX11_layBlocks_182 rfl (lv_at hl 1 rfl) ?_
      refine z_iald C hW hf dX11_layBlocks_183 (fun hf => ?_)
      refine lv_aload_n C.1 C.2.1 dX11_layBlocks_184 rfl (lv_at hl 0 rfl) ?_
      refine zg_X11_21 C hW hf dX11_layBlocks_185 (fun q22 hf => ?_)
      refine lv_iload_n C.1 C.2.1 dX11_layBlocks_188 rfl (lv_at hl 1 rfl) ?_
      refine lv_iconst (v := 1) C.1 C.2.1 dX11_layBlocks_189 (by decide) ?_
      refine lv_iadd C.1 C.2.1 dX11_layBlocks_190 ?_
      refine z_iald C hW hf dX11_layBlocks_191 (fun hf => ?_)
      refine lv_iadd C.1 C.2.1 dX11_layBlocks_192 ?_
      refine lv_iconst (v := 2) C.1 C.2.1 dX11_layBlocks_193 (by decide) ?_
      refine lv_idiv C.1 C.2.1 dX11_layBlocks_194 (by decide) ?_
      refine z_iast C hW hf dX11_layBlocks_195 (fun g23 H locs hf hgn hW => ?_)
      have hA := hA.w (show g23.1 = g.1 from (congrArg (fun q : PL => q.1) hgn).trans rfl)
      refine lv_iconst (v := 0) C.1 C.2.1 dX11_layBlocks_196 (by decide) ?_
      refine lv_istore_n (lv' := [(2, .int (0 : Int32)), (0, .ref (ra Z a p0)), (1, .int x1)]) C.1 C.2.1 dX11_layBlocks_197 rfl hl (by decide) rfl (fun ls hl => ?_)
      refine lv_iconst (v := 0) C.1 C.2.1 dX11_layBlocks_198 (by decide) ?_
      refine lv_istore_n (lv' := [(3, .int (0 : Int32)), (2, .int (0 : Int32)), (0, .ref (ra Z a p0)), (1, .int x1)]) C.1 C.2.1 dX11_layBlocks_199 rfl hl (by decide) rfl (fun ls hl => ?_)
      exact l_X11_layBlocks_200 C ih FU (0 : Int32) (0 : Int32) g23 _ ls _ _ hA hW (lv_sub hl [2, 3, 1, 0] rfl) hf
set_option maxRecDepth 20000 in
set_option maxHeartbeats 1000000 in
theorem q_X11_layBlocks_148 {l : Launch} {Z : ZT} {h : Hp} {a0 : Nat → Nat} {g0 : PL} {p0 : Nat} {g : PL} {p : Program} {e : Env} {s : State} {m : MethodId} {args : Array Value} {below : List Frame} {meth : Method} {c : Code} (C : CQ p s m args meth c cX11_layBlocks RX11 6 none Z) {out : PL} {a : Nat → Nat} (hA : AG a0 g0 a g) {ls : Array Slot} {H : Heap} {locs : List Loc} (hW : XG Z h a g s.heap H locs) (hl : lv_has ls 6 [(0, .ref (ra Z a p0))]) (hf : Jp_X11_layBlocks_148 p0 g = some out) : W p l e (rmP 1 1) s m args below meth c H locs 0 (600 * 0) (MQ below (va_Qv (fun (a1 : Nat → Nat) => AG a0 g0 a1 out) (fun a1 => WdP Z h a1 out) (FR Z)) args s 1 (600 * 1) (FR Z)) (F0 m 148 ls []) := by
  rw [Jp_X11_layBlocks_148] at hf
  refine lv_aload_n C.1 C.2.1 dX11_layBlocks_148 rfl (lv_at hl 0 rfl) ?_
  refine zg_X11_18 C hW hf dX11_layBlocks_149 (fun q24 hf => ?_)
  refine lv_aload_n C.1 C.2.1 dX11_layBlocks_152 rfl (lv_at hl 0 rfl) ?_
  refine zg_X11_121 C hW hf dX11_layBlocks_153 (fun hf => ?_)
  refine lv_aload_n C.1 C.2.1 dX11_layBlocks_156 rfl (lv_at hl 0 rfl) ?_
  refine zg_X11_103 C hW hf dX11_layBlocks_157 (fun hf => ?_)
  refine z_iast C hW hf dX11_layBlocks_160 (fun g25 H locs hf hgn hW => ?_)
  have hA := hA.w (show g25.1 = g.1 from (congrArg (fun q : PL => q.1) hgn).trans rfl)
  refine lv_iconst (v := 0) C.1 C.2.1 dX11_layBlocks_161 (by decide) ?_
  refine lv_istore_n (lv' := [(1, .int (0 : Int32)), (0, .ref (ra Z a p0))]) C.1 C.2.1 dX11_layBlocks_162 rfl hl (by decide) rfl (fun ls hl => ?_)
  exact l_X11_layBlocks_163 C FU (0 : Int32) g25 _ ls _ _ hA hW (lv_sub hl [1, 0] rfl) hf
set_option maxRecDepth 20000 in
set_option maxHeartbeats 1000000 in
theorem q_X11_layBlocks_95 {l : Launch} {Z : ZT} {h : Hp} {a0 : Nat → Nat} {g0 : PL} {p0 : Nat} {g : PL} {r2 : Int32 × PL → Option (PL)} {x1 : Int32} {p : Program} {e : Env} {s : State} {m : MethodId} {args : Array Value} {below : List Frame} {meth : Method} {c : Code} (C : CQ p s m args meth c cX11_layBlocks RX11 6 none Z) {out : PL} (hr2 : ∀ (x1 : Int32) (g : PL) (a : Nat → Nat) (ls : Array Slot) (H : Heap) (locs : List Loc), AG a0 g0 a g → XG Z h a g s.heap H locs → lv_has ls 6 [(0, .ref (ra Z a p0)), (1, .int x1)] → r2 (x1, g) = some out → W p l e (rmP 1 1) s m args below meth c H locs 0 (600 * 0) (MQ below (va_Qv (fun (a1 : Nat → Nat) => AG a0 g0 a1 out) (fun a1 => WdP Z h a1 out) (FR Z)) args s 1 (600 * 1) (FR Z)) (F0 m 2 ls [])) {a : Nat → Nat} (hA : AG a0 g0 a g) {ls : Array Slot} {H : Heap} {locs : List Loc} (hW : XG Z h a g s.heap H locs) (hl : lv_has ls 6 [(0, .ref (ra Z a p0)), (1, .int x1)]) (hf : Jp_X11_layBlocks_95 p0 g r2 x1 = some out) : W p l e (rmP 1 1) s m args below meth c H locs 0 (600 * 0) (MQ below (va_Qv (fun (a1 : Nat → Nat) => AG a0 g0 a1 out) (fun a1 => WdP Z h a1 out) (FR Z)) args s 1 (600 * 1) (FR Z)) (F0 m 95 ls []) := by
  rw [Jp_X11_layBlocks_95] at hf
  refine lv_aload_n C.1 C.2.1 dX11_layBlocks_95 rfl (lv_at hl 0 rfl) ?_
  refine zg_X11_9 C hW hf dX11_layBlocks_96 (fun q26 hf => ?_)
  refine lv_iload_n C.1 C.2.1 dX11_layBlocks_99 rfl (lv_at hl 1 rfl) ?_
  refine z_aald C hW hf dX11_layBlocks_100 (fun q27 hf => ?_)
  refine lv_iconst (v := 4) C.1 C.2.1 dX11_layBlocks_101 (by decide) ?_
  refine lv_aload_n C.1 C.2.1 dX11_layBlocks_102 rfl (lv_at hl 0 rfl) ?_
  refine zg_X11_121 C hW hf dX11_layBlocks_103 (fun hf => ?_)
  refine lv_iconst (v := 1) C.1 C.2.1 dX11_layBlocks_106 (by decide) ?_
  refine lv_isub C.1 C.2.1 dX11_layBlocks_107 ?_
  refine z_iast C hW hf dX11_layBlocks_108 (fun g28 H locs hf hgn hW => ?_)
  have hA := hA.w (show g28.1 = g.1 from (congrArg (fun q : PL => q.1) hgn).trans rfl)
  refine lv_aload_n C.1 C.2.1 dX11_layBlocks_109 rfl (lv_at hl 0 rfl) ?_
  refine zg_X11_24 C hW hf dX11_layBlocks_110 (fun q29 hf => ?_)
  refine lv_aload_n C.1 C.2.1 dX11_layBlocks_113 rfl (lv_at hl 0 rfl) ?_
  refine zg_X11_121 C hW hf dX11_layBlocks_114 (fun hf => ?_)
  refine lv_iconst (v := 1) C.1 C.2.1 dX11_layBlocks_117 (by decide) ?_
  refine lv_isub C.1 C.2.1 dX11_layBlocks_118 ?_
  refine lv_aload_n C.1 C.2.1 dX11_layBlocks_119 rfl (lv_at hl 0 rfl) ?_
  refine zg_X11_24 C hW hf dX11_layBlocks_120 (fun q30 hf => ?_)
  refine lv_aload_n C.1 C.2.1 dX11_layBlocks_123 rfl (lv_at hl 0 rfl) ?_
  refine zg_X11_121 C hW hf dX11_layBlocks_124 (fun hf => ?_)
  refine lv_iconst (v := 1) C.1 C.2.1 dX11_layBlocks_127 (by decide) ?_
  refine lv_isub C.1 C.2.1 dX11_layBlocks_128 ?_
  refine z_iald C hW hf dX11_layBlocks_129 (fun hf => ?_)
  refine lv_aload_n C.1 C.2.1 dX11_layBlocks_130 rfl (lv_at hl 0 rfl) ?_
  refine zg_X11_9 C hW hf dX11_layBlocks_131 (fun q31 hf => ?_)
  refine lv_iload_n C.1 C.2.1 dX11_layBlocks_134 rfl (lv_at hl 1 rfl) ?_
  refine z_aald C hW hf dX11_layBlocks_135 (fun q32 hf => ?_)
  refine lv_iconst (v := 3) C.1 C.2.1 dX11_layBlocks_136 (by decide) ?_
  refine z_iald C hW hf dX11_layBlocks_137 (fun hf => ?_)
  refine z_max C hl (ml_X11_80) (rm_m (by decide)) (rm_c0 (by decide)) (Nat.le_of_ble_eq_true rfl) dX11_layBlocks_138 ?_
  refine z_iast C hW hf dX11_layBlocks_141 (fun g33 H locs hf hgn hW => ?_)
  have hA := hA.w (show g33.1 = g28.1 from (congrArg (fun q : PL => q.1) hgn).trans rfl)
  refine z_iinc (w := 1) C hf dX11_layBlocks_142 hl (k := 1) rfl (by decide) (by decide) (fun v34 => [(1, .int v34), (0, .ref (ra Z a p0))]) (fun _ => rfl) (fun v34 ls hf hl => ?_)
  refine lv_goto (tgt := 2) C.1 C.2.1 dX11_layBlocks_145 (by decide) ?_
  exact hr2 v34 g33 _ ls _ _ hA hW (lv_sub hl [1, 0] rfl) hf
set_option maxRecDepth 20000 in
set_option maxHeartbeats 1000000 in
theorem q_X11_layBlocks_54 {l : Launch} {Z : ZT} {h : Hp} {a0 : Nat → Nat} {g0 : PL} {p0 : Nat} {g : PL} {r2 : Int32 × PL → Option (PL)} {x1 : Int32} {x2 : Int32} {p : Program} {e : Env} {s : State} {m : MethodId} {args : Array Value} {below : List Frame} {meth : Method} {c : Code} (C : CQ p s m args meth c cX11_layBlocks RX11 6 none Z) {out : PL} (hr2 : ∀ (x1 : Int32) (g : PL) (a : Nat → Nat) (ls : Array Slot) (H : Heap) (locs : List Loc), AG a0 g0 a g → XG Z h a g s.heap H locs → lv_has ls 6 [(0, .ref (ra Z a p0)), (1, .int x1)] → r2 (x1, g) = some out → W p l e (rmP 1 1) s m args below meth c H locs 0 (600 * 0) (MQ below (va_Qv (fun (a1 : Nat → Nat) => AG a0 g0 a1 out) (fun a1 => WdP Z h a1 out) (FR Z)) args s 1 (600 * 1) (FR Z)) (F0 m 2 ls [])) {a : Nat → Nat} (hA : AG a0 g0 a g) {ls : Array Slot} {H : Heap} {locs : List Loc} (hW : XG Z h a g s.heap H locs) (hl : lv_has ls 6 [(0, .ref (ra Z a p0)), (1, .int x1), (2, .int x2)]) (hf : Jp_X11_layBlocks_54 p0 g r2 x1 x2 = some out) : W p l e (rmP 1 1) s m args below meth c H locs 0 (600 * 0) (MQ below (va_Qv (fun (a1 : Nat → Nat) => AG a0 g0 a1 out) (fun a1 => WdP Z h a1 out) (FR Z)) args s 1 (600 * 1) (FR Z)) (F0 m 54 ls []) := by
  refine lv_iload_n C.1 C.2.1 dX11_layBlocks_54 rfl (lv_at hl 2 rfl) ?_
  refine z_ifne (tgt := 95) C hf dX11_layBlocks_55 (by decide) (fun hf => ?_) (fun hf => ?_)
  · exact q_X11_layBlocks_95 C hr2 hA hW (lv_sub hl [0, 1] rfl) hf
  · refine lv_aload_n C.1 C.2.1 dX11_layBlocks_58 rfl (lv_at hl 0 rfl) ?_
    refine zg_X11_18 C hW hf dX11_layBlocks_59 (fun q35 hf => ?_)
    refine lv_aload_n C.1 C.2.1 dX11_layBlocks_62 rfl (lv_at hl 0 rfl) ?_
    refine zg_X11_121 C hW hf dX11_layBlocks_63 (fun hf => ?_)
    refine lv_iload_n C.1 C.2.1 dX11_layBlocks_66 rfl (lv_at hl 1 rfl) ?_
    refine z_iast C hW hf dX11_layBlocks_67 (fun g36 H locs hf hgn hW => ?_)
    have hA := hA.w (show g36.1 = g.1 from (congrArg (fun q : PL => q.1) hgn).trans rfl)
    refine lv_aload_n C.1 C.2.1 dX11_layBlocks_68 rfl (lv_at hl 0 rfl) ?_
    refine zg_X11_21 C hW hf dX11_layBlocks_69 (fun q37 hf => ?_)
    refine lv_aload_n C.1 C.2.1 dX11_layBlocks_72 rfl (lv_at hl 0 rfl) ?_
    refine zg_X11_121 C hW hf dX11_layBlocks_73 (fun hf => ?_)
    refine lv_aload_n C.1 C.2.1 dX11_layBlocks_76 rfl (lv_at hl 0 rfl) ?_
    refine zg_X11_9 C hW hf dX11_layBlocks_77 (fun q38 hf => ?_)
    refine lv_iload_n C.1 C.2.1 dX11_layBlocks_80 rfl (lv_at hl 1 rfl) ?_
    refine z_aald C hW hf dX11_layBlocks_81 (fun q39 hf => ?_)
    refine lv_iconst (v := 2) C.1 C.2.1 dX11_layBlocks_82 (by decide) ?_
    refine z_iald C hW hf dX11_layBlocks_83 (fun hf => ?_)
    refine z_iast C hW hf dX11_layBlocks_84 (fun g40 H locs hf hgn hW => ?_)
    have hA := hA.w (show g40.1 = g36.1 from (congrArg (fun q : PL => q.1) hgn).trans rfl)
    refine lv_aload_n C.1 C.2.1 dX11_layBlocks_85 rfl (lv_at hl 0 rfl) ?_
    refine lv_dup C.1 C.2.1 dX11_layBlocks_86 rfl ?_
    refine zg_X11_121 C hW hf dX11_layBlocks_87 (fun hf => ?_)
    refine lv_iconst (v := 1) C.1 C.2.1 dX11_layBlocks_90 (by decide) ?_
    refine lv_iadd C.1 C.2.1 dX11_layBlocks_91 ?_
    refine zp_X11_121 C hW hf dX11_layBlocks_92 (fun g41 H locs hf hgn hW => ?_)
    have hA := hA.w hgn
    exact q_X11_layBlocks_95 C hr2 hA hW (lv_sub hl [0, 1] rfl) hf
set_option maxRecDepth 20000 in
set_option maxHeartbeats 1000000 in
theorem q_X11_layBlocks_47 {l : Launch} {Z : ZT} {h : Hp} {a0 : Nat → Nat} {g0 : PL} {p0 : Nat} {g : PL} {r2 : Int32 × PL → Option (PL)} {r14 : Int32 × Int32 → Option (PL)} {x1 : Int32} {x3 : Int32} {s0 : Int32} {p : Program} {e : Env} {s : State} {m : MethodId} {args : Array Value} {below : List Frame} {meth : Method} {c : Code} (C : CQ p s m args meth c cX11_layBlocks RX11 6 none Z) {out : PL} (hr2 : ∀ (x1 : Int32) (g : PL) (a : Nat → Nat) (ls : Array Slot) (H : Heap) (locs : List Loc), AG a0 g0 a g → XG Z h a g s.heap H locs → lv_has ls 6 [(0, .ref (ra Z a p0)), (1, .int x1)] → r2 (x1, g) = some out → W p l e (rmP 1 1) s m args below meth c H locs 0 (600 * 0) (MQ below (va_Qv (fun (a1 : Nat → Nat) => AG a0 g0 a1 out) (fun a1 => WdP Z h a1 out) (FR Z)) args s 1 (600 * 1) (FR Z)) (F0 m 2 ls [])) (hr14 : ∀ (x2 : Int32) (x3 : Int32) (a : Nat → Nat) (ls : Array Slot) (H : Heap) (locs : List Loc), AG a0 g0 a g → XG Z h a g s.heap H locs → lv_has ls 6 [(0, .ref (ra Z a p0)), (1, .int x1), (2, .int x2), (3, .int x3)] → r14 (x2, x3) = some out → W p l e (rmP 1 1) s m args below meth c H locs 0 (600 * 0) (MQ below (va_Qv (fun (a1 : Nat → Nat) => AG a0 g0 a1 out) (fun a1 => WdP Z h a1 out) (FR Z)) args s 1 (600 * 1) (FR Z)) (F0 m 14 ls [])) {a : Nat → Nat} (hA : AG a0 g0 a g) {ls : Array Slot} {H : Heap} {locs : List Loc} (hW : XG Z h a g s.heap H locs) (hl : lv_has ls 6 [(0, .ref (ra Z a p0)), (1, .int x1), (3, .int x3)]) (hf : Jp_X11_layBlocks_47 p0 g r2 r14 x1 x3 s0 = some out) : W p l e (rmP 1 1) s m args below meth c H locs 0 (600 * 0) (MQ below (va_Qv (fun (a1 : Nat → Nat) => AG a0 g0 a1 out) (fun a1 => WdP Z h a1 out) (FR Z)) args s 1 (600 * 1) (FR Z)) (F0 m 47 ls [.int s0]) := by
  rw [Jp_X11_layBlocks_47] at hf
  refine lv_istore_n (lv' := [(2, .int s0), (0, .ref (ra Z a p0)), (1, .int x1), (3, .int x3)]) C.1 C.2.1 dX11_layBlocks_47 rfl hl (by decide) rfl (fun ls hl => ?_)
  refine z_iinc (w := 1) C hf dX11_layBlocks_48 hl (k := 3) rfl (by decide) (by decide) (fun v42 => [(3, .int v42), (2, .int s0), (0, .ref (ra Z a p0)), (1, .int x1)]) (fun _ => rfl) (fun v42 ls hf hl => ?_)
  refine lv_goto (tgt := 14) C.1 C.2.1 dX11_layBlocks_51 (by decide) ?_
  exact hr14 s0 v42 _ ls _ _ hA hW (lv_sub hl [2, 3, 1, 0] rfl) hf
set_option maxRecDepth 20000 in
set_option maxHeartbeats 1000000 in
theorem q_X11_layBlocks_42 {l : Launch} {Z : ZT} {h : Hp} {a0 : Nat → Nat} {g0 : PL} {p0 : Nat} {g : PL} {r2 : Int32 × PL → Option (PL)} {r14 : Int32 × Int32 → Option (PL)} {x1 : Int32} {x3 : Int32} {p : Program} {e : Env} {s : State} {m : MethodId} {args : Array Value} {below : List Frame} {meth : Method} {c : Code} (C : CQ p s m args meth c cX11_layBlocks RX11 6 none Z) {out : PL} (hr2 : ∀ (x1 : Int32) (g : PL) (a : Nat → Nat) (ls : Array Slot) (H : Heap) (locs : List Loc), AG a0 g0 a g → XG Z h a g s.heap H locs → lv_has ls 6 [(0, .ref (ra Z a p0)), (1, .int x1)] → r2 (x1, g) = some out → W p l e (rmP 1 1) s m args below meth c H locs 0 (600 * 0) (MQ below (va_Qv (fun (a1 : Nat → Nat) => AG a0 g0 a1 out) (fun a1 => WdP Z h a1 out) (FR Z)) args s 1 (600 * 1) (FR Z)) (F0 m 2 ls [])) (hr14 : ∀ (x2 : Int32) (x3 : Int32) (a : Nat → Nat) (ls : Array Slot) (H : Heap) (locs : List Loc), AG a0 g0 a g → XG Z h a g s.heap H locs → lv_has ls 6 [(0, .ref (ra Z a p0)), (1, .int x1), (2, .int x2), (3, .int x3)] → r14 (x2, x3) = some out → W p l e (rmP 1 1) s m args below meth c H locs 0 (600 * 0) (MQ below (va_Qv (fun (a1 : Nat → Nat) => AG a0 g0 a1 out) (fun a1 => WdP Z h a1 out) (FR Z)) args s 1 (600 * 1) (FR Z)) (F0 m 14 ls [])) {a : Nat → Nat} (hA : AG a0 g0 a g) {ls : Array Slot} {H : Heap} {locs : List Loc} (hW : XG Z h a g s.heap H locs) (hl : lv_has ls 6 [(0, .ref (ra Z a p0)), (1, .int x1), (3, .int x3)]) (hf : Jp_X11_layBlocks_42 p0 g r2 r14 x1 x3 = some out) : W p l e (rmP 1 1) s m args below meth c H locs 0 (600 * 0) (MQ below (va_Qv (fun (a1 : Nat → Nat) => AG a0 g0 a1 out) (fun a1 => WdP Z h a1 out) (FR Z)) args s 1 (600 * 1) (FR Z)) (F0 m 42 ls []) := by
  refine lv_iconst (v := 1) C.1 C.2.1 dX11_layBlocks_42 (by decide) ?_
  refine lv_goto (tgt := 47) C.1 C.2.1 dX11_layBlocks_43 (by decide) ?_
  exact q_X11_layBlocks_47 C hr2 hr14 hA hW (lv_sub hl [0, 1, 2] rfl) hf
set_option maxRecDepth 20000 in
set_option maxHeartbeats 1000000 in
theorem l_X11_layBlocks_14 {l : Launch} {Z : ZT} {h : Hp} {a0 : Nat → Nat} {g0 : PL} {p0 : Nat} {g : PL} {r2 : Int32 × PL → Option (PL)} {x1 : Int32} {p : Program} {e : Env} {s : State} {m : MethodId} {args : Array Value} {below : List Frame} {meth : Method} {c : Code} (C : CQ p s m args meth c cX11_layBlocks RX11 6 none Z) {out : PL} (hr2 : ∀ (x1 : Int32) (g : PL) (a : Nat → Nat) (ls : Array Slot) (H : Heap) (locs : List Loc), AG a0 g0 a g → XG Z h a g s.heap H locs → lv_has ls 6 [(0, .ref (ra Z a p0)), (1, .int x1)] → r2 (x1, g) = some out → W p l e (rmP 1 1) s m args below meth c H locs 0 (600 * 0) (MQ below (va_Qv (fun (a1 : Nat → Nat) => AG a0 g0 a1 out) (fun a1 => WdP Z h a1 out) (FR Z)) args s 1 (600 * 1) (FR Z)) (F0 m 2 ls [])) : ∀ (n : Nat) (x2 : Int32) (x3 : Int32) (a : Nat → Nat) (ls : Array Slot) (H : Heap) (locs : List Loc), AG a0 g0 a g → XG Z h a g s.heap H locs → lv_has ls 6 [(0, .ref (ra Z a p0)), (1, .int x1), (2, .int x2), (3, .int x3)] → Lp (Fp_X11_layBlocks_14 p0 g r2 x1) n (x2, x3) = some out → W p l e (rmP 1 1) s m args below meth c H locs 0 (600 * 0) (MQ below (va_Qv (fun (a1 : Nat → Nat) => AG a0 g0 a1 out) (fun a1 => WdP Z h a1 out) (FR Z)) args s 1 (600 * 1) (FR Z)) (F0 m 14 ls []) := by
  intro n
  induction n with
  | zero => intro x2 x3 a ls H locs hA hW hl hf; cases hf
  | succ n ih =>
    intro x2 x3 a ls H locs hA hW hl hf
    rw [Lp_s] at hf
    refine lv_iload_n C.1 C.2.1 dX11_layBlocks_14 rfl (lv_at hl 3 rfl) ?_
    refine lv_iload_n C.1 C.2.1 dX11_layBlocks_15 rfl (lv_at hl 1 rfl) ?_
    refine z_cmpge (tgt := 54) C hf dX11_layBlocks_16 (by decide) (fun hf => ?_) (fun hf => ?_)
    · exact q_X11_layBlocks_54 C hr2 hA hW (lv_sub hl [0, 1, 2] rfl) hf
    · refine lv_iload_n C.1 C.2.1 dX11_layBlocks_19 rfl (lv_at hl 2 rfl) ?_
      refine z_ifne (tgt := 42) C hf dX11_layBlocks_20 (by decide) (fun hf => ?_) (fun hf => ?_)
      · exact q_X11_layBlocks_42 C hr2 ih hA hW (lv_sub hl [0, 1, 3] rfl) hf
      · refine lv_aload_n C.1 C.2.1 dX11_layBlocks_23 rfl (lv_at hl 0 rfl) ?_
        refine zg_X11_9 C hW hf dX11_layBlocks_24 (fun q43 hf => ?_)
        refine lv_iload_n C.1 C.2.1 dX11_layBlocks_27 rfl (lv_at hl 3 rfl) ?_
        refine z_aald C hW hf dX11_layBlocks_28 (fun q44 hf => ?_)
        refine lv_iconst (v := 3) C.1 C.2.1 dX11_layBlocks_29 (by decide) ?_
        refine z_iald C hW hf dX11_layBlocks_30 (fun hf => ?_)
        refine lv_aload_n C.1 C.2.1 dX11_layBlocks_31 rfl (lv_at hl 0 rfl) ?_
        refine zg_X11_9 C hW hf dX11_layBlocks_32 (fun q45 hf => ?_)
        refine lv_iload_n C.1 C.2.1 dX11_layBlocks_35 rfl (lv_at hl 1 rfl) ?_
        refine z_aald C hW hf dX11_layBlocks_36 (fun q46 hf => ?_)
        refine lv_iconst (v := 2) C.1 C.2.1 dX11_layBlocks_37 (by decide) ?_
        refine z_iald C hW hf dX11_layBlocks_38 (fun hf => ?_)
        refine z_cmple (tgt := 46) C hf dX11_layBlocks_39 (by decide) (fun hf => ?_) (fun hf => ?_)
        · refine lv_iconst (v := 0) C.1 C.2.1 dX11_layBlocks_46 (by decide) ?_
          exact q_X11_layBlocks_47 C hr2 ih hA hW (lv_sub hl [0, 1, 3] rfl) hf
        · exact q_X11_layBlocks_42 C hr2 ih hA hW (lv_sub hl [0, 1, 3] rfl) hf
set_option maxRecDepth 20000 in
set_option maxHeartbeats 1000000 in
theorem l_X11_layBlocks_2 {l : Launch} {Z : ZT} {h : Hp} {a0 : Nat → Nat} {g0 : PL} {p0 : Nat} {p : Program} {e : Env} {s : State} {m : MethodId} {args : Array Value} {below : List Frame} {meth : Method} {c : Code} (C : CQ p s m args meth c cX11_layBlocks RX11 6 none Z) {out : PL} : ∀ (n : Nat) (x1 : Int32) (g : PL) (a : Nat → Nat) (ls : Array Slot) (H : Heap) (locs : List Loc), AG a0 g0 a g → XG Z h a g s.heap H locs → lv_has ls 6 [(0, .ref (ra Z a p0)), (1, .int x1)] → Lp (Fp_X11_layBlocks_2 p0) n (x1, g) = some out → W p l e (rmP 1 1) s m args below meth c H locs 0 (600 * 0) (MQ below (va_Qv (fun (a1 : Nat → Nat) => AG a0 g0 a1 out) (fun a1 => WdP Z h a1 out) (FR Z)) args s 1 (600 * 1) (FR Z)) (F0 m 2 ls []) := by
  intro n
  induction n with
  | zero => intro x1 g a ls H locs hA hW hl hf; cases hf
  | succ n ih =>
    intro x1 g a ls H locs hA hW hl hf
    rw [Lp_s] at hf
    rw [Fp_X11_layBlocks_2] at hf
    try dsimp only at hf
    refine lv_iload_n C.1 C.2.1 dX11_layBlocks_2 rfl (lv_at hl 1 rfl) ?_
    refine lv_aload_n C.1 C.2.1 dX11_layBlocks_3 rfl (lv_at hl 0 rfl) ?_
    refine zg_X11_103 C hW hf dX11_layBlocks_4 (fun hf => ?_)
    refine z_cmpge (tgt := 148) C hf dX11_layBlocks_7 (by decide) (fun hf => ?_) (fun hf => ?_)
    · exact q_X11_layBlocks_148 C hA hW (lv_sub hl [0] rfl) hf
    · refine lv_iconst (v := 0) C.1 C.2.1 dX11_layBlocks_10 (by decide) ?_
      refine lv_istore_n (lv' := [(2, .int (0 : Int32)), (0, .ref (ra Z a p0)), (1, .int x1)]) C.1 C.2.1 dX11_layBlocks_11 rfl hl (by decide) rfl (fun ls hl => ?_)
      refine lv_iconst (v := 0) C.1 C.2.1 dX11_layBlocks_12 (by decide) ?_
      refine lv_istore_n (lv' := [(3, .int (0 : Int32)), (2, .int (0 : Int32)), (0, .ref (ra Z a p0)), (1, .int x1)]) C.1 C.2.1 dX11_layBlocks_13 rfl hl (by decide) rfl (fun ls hl => ?_)
      exact l_X11_layBlocks_14 C ih FU (0 : Int32) (0 : Int32) _ ls _ _ hA hW (lv_sub hl [2, 3, 1, 0] rfl) hf
set_option maxRecDepth 20000 in
set_option maxHeartbeats 1000000 in
theorem c_X11_layBlocks {l : Launch} {Z : ZT} {h : Hp} {a : Nat → Nat} {g : PL} {p0 : Nat} {out : PL} (hf : fp_X11_layBlocks g p0 = some out) : Met l yX11_layBlocks (wY yX11_layBlocks cX11_layBlocks 6 none) (rmP 1 1) (va_Pc [.ref (ra Z a p0)] (WdP Z h a g)) (va_Qv (fun (a1 : Nat → Nat) => AG a g a1 out) (fun a1 => WdP Z h a1 out) (FR Z)) 1 (600 * 1) (FR Z) := by
  refine metZ RX11 rfl (by decide +kernel) (Nat.le_of_ble_eq_true rfl) ?_
  intro p e s m args below meth c C hin hW ls hl
  have hl : lv_has ls 6 [(0, .ref (ra Z a p0))] := hl
  have hA := AG.rf a g
  unfold fp_X11_layBlocks at hf
  refine W.widen (k := 0) (n := 600 * 0) (Nat.le_refl _) (Nat.le_refl _) ?_
  refine lv_iconst (v := 0) C.1 C.2.1 dX11_layBlocks_0 (by decide) ?_
  refine lv_istore_n (lv' := [(1, .int (0 : Int32)), (0, .ref (ra Z a p0))]) C.1 C.2.1 dX11_layBlocks_1 rfl hl (by decide) rfl (fun ls hl => ?_)
  exact l_X11_layBlocks_2 C FU (0 : Int32) g _ ls _ _ hA hW (lv_sub hl [1, 0] rfl) hf
set_option maxRecDepth 20000 in
set_option maxHeartbeats 1000000 in
theorem q_X11_putWord_77 {l : Launch} {Z : ZT} {h : Hp} {a : Nat → Nat} {p0 : Nat} {p1 : Nat} {g : PL} {x2 : Int32} {p : Program} {e : Env} {s : State} {m : MethodId} {args : Array Value} {below : List Frame} {meth : Method} {c : Code} (C : CQ p s m args meth c cX11_putWord RX11 3 none Z) {out : PL} {ls : Array Slot} {H : Heap} {locs : List Loc} (hW : XG Z h a g s.heap H locs) (hl : lv_has ls 3 [(0, .ref (ra Z a p0)), (1, .ref (ra Z a p1)), (2, .int x2)]) (hf : Jp_X11_putWord_77 p0 p1 g x2 = some out) : W p l e (rmP 1 0) s m args below meth c H locs 0 (600 * 0) (MQ below (va_Qv (fun (_ : Unit) => True) (fun _ => WdP Z h a out) (FR Z)) args s 0 (600 * 0) (FR Z)) (F0 m 77 ls []) := by
  rw [Jp_X11_putWord_77] at hf
  refine lv_aload_n C.1 C.2.1 dX11_putWord_77 rfl (lv_at hl 0 rfl) ?_
  refine zg_X11_9 C hW hf dX11_putWord_78 (fun q1 hf => ?_)
  refine lv_iload_n C.1 C.2.1 dX11_putWord_81 rfl (lv_at hl 2 rfl) ?_
  refine lv_aload_n C.1 C.2.1 dX11_putWord_82 rfl (lv_at hl 1 rfl) ?_
  refine z_aast C hW hf dX11_putWord_83 (fun g2 H locs hf hgn hW => ?_)
  refine lv_aload_n C.1 C.2.1 dX11_putWord_84 rfl (lv_at hl 0 rfl) ?_
  refine lv_dup C.1 C.2.1 dX11_putWord_85 rfl ?_
  refine zg_X11_103 C hW hf dX11_putWord_86 (fun hf => ?_)
  refine lv_iconst (v := 1) C.1 C.2.1 dX11_putWord_89 (by decide) ?_
  refine lv_iadd C.1 C.2.1 dX11_putWord_90 ?_
  refine zp_X11_103 C hW hf dX11_putWord_91 (fun g3 H locs hf hgn hW => ?_)
  obtain rfl := Option.some.inj hf
  exact z_vret C hW dX11_putWord_94 () trivial (fun _ q => q)
set_option maxRecDepth 20000 in
set_option maxHeartbeats 1000000 in
theorem q_X11_putWord_57 {l : Launch} {Z : ZT} {h : Hp} {a : Nat → Nat} {p0 : Nat} {p1 : Nat} {g : PL} {r5 : Int32 × PL → Option (PL)} {x2 : Int32} {p : Program} {e : Env} {s : State} {m : MethodId} {args : Array Value} {below : List Frame} {meth : Method} {c : Code} (C : CQ p s m args meth c cX11_putWord RX11 3 none Z) {out : PL} (hr5 : ∀ (x2 : Int32) (g : PL) (ls : Array Slot) (H : Heap) (locs : List Loc), XG Z h a g s.heap H locs → lv_has ls 3 [(0, .ref (ra Z a p0)), (1, .ref (ra Z a p1)), (2, .int x2)] → r5 (x2, g) = some out → W p l e (rmP 1 0) s m args below meth c H locs 0 (600 * 0) (MQ below (va_Qv (fun (_ : Unit) => True) (fun _ => WdP Z h a out) (FR Z)) args s 0 (600 * 0) (FR Z)) (F0 m 5 ls [])) {ls : Array Slot} {H : Heap} {locs : List Loc} (hW : XG Z h a g s.heap H locs) (hl : lv_has ls 3 [(0, .ref (ra Z a p0)), (1, .ref (ra Z a p1)), (2, .int x2)]) (hf : Jp_X11_putWord_57 p0 p1 g r5 x2 = some out) : W p l e (rmP 1 0) s m args below meth c H locs 0 (600 * 0) (MQ below (va_Qv (fun (_ : Unit) => True) (fun _ => WdP Z h a out) (FR Z)) args s 0 (600 * 0) (FR Z)) (F0 m 57 ls []) := by
  rw [Jp_X11_putWord_57] at hf
  refine lv_aload_n C.1 C.2.1 dX11_putWord_57 rfl (lv_at hl 0 rfl) ?_
  refine zg_X11_9 C hW hf dX11_putWord_58 (fun q4 hf => ?_)
  refine lv_iload_n C.1 C.2.1 dX11_putWord_61 rfl (lv_at hl 2 rfl) ?_
  refine lv_aload_n C.1 C.2.1 dX11_putWord_62 rfl (lv_at hl 0 rfl) ?_
  refine zg_X11_9 C hW hf dX11_putWord_63 (fun q5 hf => ?_)
  refine lv_iload_n C.1 C.2.1 dX11_putWord_66 rfl (lv_at hl 2 rfl) ?_
  refine lv_iconst (v := 1) C.1 C.2.1 dX11_putWord_67 (by decide) ?_
  refine lv_isub C.1 C.2.1 dX11_putWord_68 ?_
  refine z_aald C hW hf dX11_putWord_69 (fun q6 hf => ?_)
  refine z_aast C hW hf dX11_putWord_70 (fun g7 H locs hf hgn hW => ?_)
  refine z_iinc (w := -1) C hf dX11_putWord_71 hl (k := 2) rfl (by decide) (by decide) (fun v8 => [(2, .int v8), (0, .ref (ra Z a p0)), (1, .ref (ra Z a p1))]) (fun _ => rfl) (fun v8 ls hf hl => ?_)
  refine lv_goto (tgt := 5) C.1 C.2.1 dX11_putWord_74 (by decide) ?_
  exact hr5 v8 g7 ls _ _ hW (lv_sub hl [1, 2, 0] rfl) hf
set_option maxRecDepth 20000 in
set_option maxHeartbeats 1000000 in
theorem l_X11_putWord_5 {l : Launch} {Z : ZT} {h : Hp} {a : Nat → Nat} {p0 : Nat} {p1 : Nat} {p : Program} {e : Env} {s : State} {m : MethodId} {args : Array Value} {below : List Frame} {meth : Method} {c : Code} (C : CQ p s m args meth c cX11_putWord RX11 3 none Z) {out : PL} : ∀ (n : Nat) (x2 : Int32) (g : PL) (ls : Array Slot) (H : Heap) (locs : List Loc), XG Z h a g s.heap H locs → lv_has ls 3 [(0, .ref (ra Z a p0)), (1, .ref (ra Z a p1)), (2, .int x2)] → Lp (Fp_X11_putWord_5 p0 p1) n (x2, g) = some out → W p l e (rmP 1 0) s m args below meth c H locs 0 (600 * 0) (MQ below (va_Qv (fun (_ : Unit) => True) (fun _ => WdP Z h a out) (FR Z)) args s 0 (600 * 0) (FR Z)) (F0 m 5 ls []) := by
  intro n
  induction n with
  | zero => intro x2 g ls H locs hW hl hf; cases hf
  | succ n ih =>
    intro x2 g ls H locs hW hl hf
    rw [Lp_s] at hf
    refine lv_iload_n C.1 C.2.1 dX11_putWord_5 rfl (lv_at hl 2 rfl) ?_
    refine z_ifle (tgt := 77) C hf dX11_putWord_6 (by decide) (fun hf => ?_) (fun hf => ?_)
    · exact q_X11_putWord_77 C hW (lv_sub hl [0, 1, 2] rfl) hf
    · refine lv_aload_n C.1 C.2.1 dX11_putWord_9 rfl (lv_at hl 0 rfl) ?_
      refine zg_X11_9 C hW hf dX11_putWord_10 (fun q9 hf => ?_)
      refine lv_iload_n C.1 C.2.1 dX11_putWord_13 rfl (lv_at hl 2 rfl) ?_
      refine lv_iconst (v := 1) C.1 C.2.1 dX11_putWord_14 (by decide) ?_
      refine lv_isub C.1 C.2.1 dX11_putWord_15 ?_
      refine z_aald C hW hf dX11_putWord_16 (fun q10 hf => ?_)
      refine lv_iconst (v := 2) C.1 C.2.1 dX11_putWord_17 (by decide) ?_
      refine z_iald C hW hf dX11_putWord_18 (fun hf => ?_)
      refine lv_aload_n C.1 C.2.1 dX11_putWord_19 rfl (lv_at hl 1 rfl) ?_
      refine lv_iconst (v := 2) C.1 C.2.1 dX11_putWord_20 (by decide) ?_
      refine z_iald C hW hf dX11_putWord_21 (fun hf => ?_)
      refine z_cmpgt (tgt := 57) C hf dX11_putWord_22 (by decide) (fun hf => ?_) (fun hf => ?_)
      · exact q_X11_putWord_57 C ih hW (lv_sub hl [0, 1, 2] rfl) hf
      · refine lv_aload_n C.1 C.2.1 dX11_putWord_25 rfl (lv_at hl 0 rfl) ?_
        refine zg_X11_9 C hW hf dX11_putWord_26 (fun q11 hf => ?_)
        refine lv_iload_n C.1 C.2.1 dX11_putWord_29 rfl (lv_at hl 2 rfl) ?_
        refine lv_iconst (v := 1) C.1 C.2.1 dX11_putWord_30 (by decide) ?_
        refine lv_isub C.1 C.2.1 dX11_putWord_31 ?_
        refine z_aald C hW hf dX11_putWord_32 (fun q12 hf => ?_)
        refine lv_iconst (v := 2) C.1 C.2.1 dX11_putWord_33 (by decide) ?_
        refine z_iald C hW hf dX11_putWord_34 (fun hf => ?_)
        refine lv_aload_n C.1 C.2.1 dX11_putWord_35 rfl (lv_at hl 1 rfl) ?_
        refine lv_iconst (v := 2) C.1 C.2.1 dX11_putWord_36 (by decide) ?_
        refine z_iald C hW hf dX11_putWord_37 (fun hf => ?_)
        refine z_cmpne (tgt := 77) C hf dX11_putWord_38 (by decide) (fun hf => ?_) (fun hf => ?_)
        · exact q_X11_putWord_77 C hW (lv_sub hl [0, 1, 2] rfl) hf
        · refine lv_aload_n C.1 C.2.1 dX11_putWord_41 rfl (lv_at hl 0 rfl) ?_
          refine zg_X11_9 C hW hf dX11_putWord_42 (fun q13 hf => ?_)
          refine lv_iload_n C.1 C.2.1 dX11_putWord_45 rfl (lv_at hl 2 rfl) ?_
          refine lv_iconst (v := 1) C.1 C.2.1 dX11_putWord_46 (by decide) ?_
          refine lv_isub C.1 C.2.1 dX11_putWord_47 ?_
          refine z_aald C hW hf dX11_putWord_48 (fun q14 hf => ?_)
          refine lv_iconst (v := 0) C.1 C.2.1 dX11_putWord_49 (by decide) ?_
          refine z_iald C hW hf dX11_putWord_50 (fun hf => ?_)
          refine lv_aload_n C.1 C.2.1 dX11_putWord_51 rfl (lv_at hl 1 rfl) ?_
          refine lv_iconst (v := 0) C.1 C.2.1 dX11_putWord_52 (by decide) ?_
          refine z_iald C hW hf dX11_putWord_53 (fun hf => ?_)
          refine z_cmple (tgt := 77) C hf dX11_putWord_54 (by decide) (fun hf => ?_) (fun hf => ?_)
          · exact q_X11_putWord_77 C hW (lv_sub hl [0, 1, 2] rfl) hf
          · exact q_X11_putWord_57 C ih hW (lv_sub hl [0, 1, 2] rfl) hf
set_option maxRecDepth 20000 in
set_option maxHeartbeats 1000000 in
theorem c_X11_putWord {l : Launch} {Z : ZT} {h : Hp} {a : Nat → Nat} {g : PL} {p0 : Nat} {p1 : Nat} {out : PL} (hf : fp_X11_putWord g p0 p1 = some out) : Met l yX11_putWord (wY yX11_putWord cX11_putWord 3 none) (rmP 1 0) (va_Pc [.ref (ra Z a p0), .ref (ra Z a p1)] (WdP Z h a g)) (va_Qv (fun (_ : Unit) => True) (fun _ => WdP Z h a out) (FR Z)) 0 (600 * 0) (FR Z) := by
  refine metZ RX11 rfl (by decide +kernel) (Nat.le_of_ble_eq_true rfl) ?_
  intro p e s m args below meth c C hin hW ls hl
  have hl : lv_has ls 3 [(0, .ref (ra Z a p0)), (1, .ref (ra Z a p1))] := hl
  unfold fp_X11_putWord at hf
  refine W.widen (k := 0) (n := 600 * 0) (Nat.le_refl _) (Nat.le_refl _) ?_
  refine lv_aload_n C.1 C.2.1 dX11_putWord_0 rfl (lv_at hl 0 rfl) ?_
  refine zg_X11_103 C hW hf dX11_putWord_1 (fun hf => ?_)
  refine z_istn C hf dX11_putWord_4 rfl hl (by decide) (fun v15 => [(2, .int v15), (0, .ref (ra Z a p0)), (1, .ref (ra Z a p1))]) (fun _ => rfl) (fun v15 ls hf hl => ?_)
  exact l_X11_putWord_5 C FU v15 g ls _ _ hW (lv_sub hl [1, 2, 0] rfl) hf
set_option maxRecDepth 20000 in
set_option maxHeartbeats 1000000 in
theorem q_X11_wordOf_41 {l : Launch} {Z : ZT} {h : Hp} {a : Nat → Nat} {g : PL} {p0 : Nat} {p1 : Int32} {p2 : Int32} {r2 : Int32 → Option (Nat)} {x3 : Int32} {p : Program} {e : Env} {s : State} {m : MethodId} {args : Array Value} {below : List Frame} {meth : Method} {c : Code} (C : CQ p s m args meth c cX11_wordOf RX11 4 (some (.array .int)) Z) {out : Nat} (hr2 : ∀ (x3 : Int32) (ls : Array Slot) (H : Heap) (locs : List Loc), XG Z h a g s.heap H locs → lv_has ls 4 [(0, .ref (ra Z a p0)), (1, .int p1), (2, .int p2), (3, .int x3)] → r2 x3 = some out → W p l e (rmP 1 0) s m args below meth c H locs 0 (600 * 0) (MQ below (va_Qr (fun (_ : Unit) => True) (fun _ x t => x = ra Z a out ∧ WdP Z h a g t) (FR Z)) args s 0 (600 * 0) (FR Z)) (F0 m 2 ls [])) {ls : Array Slot} {H : Heap} {locs : List Loc} (hW : XG Z h a g s.heap H locs) (hl : lv_has ls 4 [(0, .ref (ra Z a p0)), (1, .int p1), (2, .int p2), (3, .int x3)]) (hf : Jp_X11_wordOf_41 g p0 p1 p2 r2 x3 = some out) : W p l e (rmP 1 0) s m args below meth c H locs 0 (600 * 0) (MQ below (va_Qr (fun (_ : Unit) => True) (fun _ x t => x = ra Z a out ∧ WdP Z h a g t) (FR Z)) args s 0 (600 * 0) (FR Z)) (F0 m 41 ls []) := by
  rw [Jp_X11_wordOf_41] at hf
  refine z_iinc (w := 1) C hf dX11_wordOf_41 hl (k := 3) rfl (by decide) (by decide) (fun v1 => [(3, .int v1), (0, .ref (ra Z a p0)), (1, .int p1), (2, .int p2)]) (fun _ => rfl) (fun v1 ls hf hl => ?_)
  refine lv_goto (tgt := 2) C.1 C.2.1 dX11_wordOf_44 (by decide) ?_
  exact hr2 v1 ls _ _ hW (lv_sub hl [1, 2, 3, 0] rfl) hf
set_option maxRecDepth 20000 in
set_option maxHeartbeats 1000000 in
theorem l_X11_wordOf_2 {l : Launch} {Z : ZT} {h : Hp} {a : Nat → Nat} {g : PL} {p0 : Nat} {p1 : Int32} {p2 : Int32} {p : Program} {e : Env} {s : State} {m : MethodId} {args : Array Value} {below : List Frame} {meth : Method} {c : Code} (C : CQ p s m args meth c cX11_wordOf RX11 4 (some (.array .int)) Z) {out : Nat} : ∀ (n : Nat) (x3 : Int32) (ls : Array Slot) (H : Heap) (locs : List Loc), XG Z h a g s.heap H locs → lv_has ls 4 [(0, .ref (ra Z a p0)), (1, .int p1), (2, .int p2), (3, .int x3)] → Lp (Fp_X11_wordOf_2 g p0 p1 p2) n x3 = some out → W p l e (rmP 1 0) s m args below meth c H locs 0 (600 * 0) (MQ below (va_Qr (fun (_ : Unit) => True) (fun _ x t => x = ra Z a out ∧ WdP Z h a g t) (FR Z)) args s 0 (600 * 0) (FR Z)) (F0 m 2 ls []) := by
  intro n
  induction n with
  | zero => intro x3 ls H locs hW hl hf; cases hf
  | succ n ih =>
    intro x3 ls H locs hW hl hf
    rw [Lp_s] at hf
    rw [Fp_X11_wordOf_2] at hf
    try dsimp only at hf
    refine lv_iload_n C.1 C.2.1 dX11_wordOf_2 rfl (lv_at hl 3 rfl) ?_
    refine lv_aload_n C.1 C.2.1 dX11_wordOf_3 rfl (lv_at hl 0 rfl) ?_
    refine zg_X11_103 C hW hf dX11_wordOf_4 (fun hf => ?_)
    refine z_cmpge (tgt := 47) C hf dX11_wordOf_7 (by decide) (fun hf => ?_) (fun hf => ?_)
    · refine lv_aload_n C.1 C.2.1 dX11_wordOf_47 rfl (lv_at hl 0 rfl) ?_
      refine zg_X11_9 C hW hf dX11_wordOf_48 (fun q2 hf => ?_)
      refine lv_iconst (v := 0) C.1 C.2.1 dX11_wordOf_51 (by decide) ?_
      refine z_aald C hW hf dX11_wordOf_52 (fun q3 hf => ?_)
      obtain rfl := Option.some.inj hf
      exact z_aret C hW (Or.inr ⟨_, rfl⟩) dX11_wordOf_53 () trivial (fun _ q => ⟨rfl, q⟩)
    · refine lv_aload_n C.1 C.2.1 dX11_wordOf_10 rfl (lv_at hl 0 rfl) ?_
      refine zg_X11_9 C hW hf dX11_wordOf_11 (fun q4 hf => ?_)
      refine lv_iload_n C.1 C.2.1 dX11_wordOf_14 rfl (lv_at hl 3 rfl) ?_
      refine z_aald C hW hf dX11_wordOf_15 (fun q5 hf => ?_)
      refine lv_iconst (v := 0) C.1 C.2.1 dX11_wordOf_16 (by decide) ?_
      refine z_iald C hW hf dX11_wordOf_17 (fun hf => ?_)
      refine lv_iload_n C.1 C.2.1 dX11_wordOf_18 rfl (lv_at hl 1 rfl) ?_
      refine z_cmpne (tgt := 41) C hf dX11_wordOf_19 (by decide) (fun hf => ?_) (fun hf => ?_)
      · exact q_X11_wordOf_41 C ih hW (lv_sub hl [0, 1, 2, 3] rfl) hf
      · refine lv_aload_n C.1 C.2.1 dX11_wordOf_22 rfl (lv_at hl 0 rfl) ?_
        refine zg_X11_9 C hW hf dX11_wordOf_23 (fun q6 hf => ?_)
        refine lv_iload_n C.1 C.2.1 dX11_wordOf_26 rfl (lv_at hl 3 rfl) ?_
        refine z_aald C hW hf dX11_wordOf_27 (fun q7 hf => ?_)
        refine lv_iconst (v := 2) C.1 C.2.1 dX11_wordOf_28 (by decide) ?_
        refine z_iald C hW hf dX11_wordOf_29 (fun hf => ?_)
        refine lv_iload_n C.1 C.2.1 dX11_wordOf_30 rfl (lv_at hl 2 rfl) ?_
        refine z_cmpne (tgt := 41) C hf dX11_wordOf_31 (by decide) (fun hf => ?_) (fun hf => ?_)
        · exact q_X11_wordOf_41 C ih hW (lv_sub hl [0, 1, 2, 3] rfl) hf
        · refine lv_aload_n C.1 C.2.1 dX11_wordOf_34 rfl (lv_at hl 0 rfl) ?_
          refine zg_X11_9 C hW hf dX11_wordOf_35 (fun q8 hf => ?_)
          refine lv_iload_n C.1 C.2.1 dX11_wordOf_38 rfl (lv_at hl 3 rfl) ?_
          refine z_aald C hW hf dX11_wordOf_39 (fun q9 hf => ?_)
          obtain rfl := Option.some.inj hf
          exact z_aret C hW (Or.inr ⟨_, rfl⟩) dX11_wordOf_40 () trivial (fun _ q => ⟨rfl, q⟩)
set_option maxRecDepth 20000 in
set_option maxHeartbeats 1000000 in
theorem c_X11_wordOf {l : Launch} {Z : ZT} {h : Hp} {a : Nat → Nat} {g : PL} {p0 : Nat} {p1 : Int32} {p2 : Int32} {out : Nat} (hf : fp_X11_wordOf g p0 p1 p2 = some out) : Met l yX11_wordOf (wY yX11_wordOf cX11_wordOf 4 (some (.array .int))) (rmP 1 0) (va_Pc [.ref (ra Z a p0), .int p1, .int p2] (WdP Z h a g)) (va_Qr (fun (_ : Unit) => True) (fun _ x t => x = ra Z a out ∧ WdP Z h a g t) (FR Z)) 0 (600 * 0) (FR Z) := by
  refine metZ RX11 rfl (by decide +kernel) (Nat.le_of_ble_eq_true rfl) ?_
  intro p e s m args below meth c C hin hW ls hl
  have hl : lv_has ls 4 [(0, .ref (ra Z a p0)), (1, .int p1), (2, .int p2)] := hl
  unfold fp_X11_wordOf at hf
  refine W.widen (k := 0) (n := 600 * 0) (Nat.le_refl _) (Nat.le_refl _) ?_
  refine lv_iconst (v := 0) C.1 C.2.1 dX11_wordOf_0 (by decide) ?_
  refine lv_istore_n (lv' := [(3, .int (0 : Int32)), (0, .ref (ra Z a p0)), (1, .int p1), (2, .int p2)]) C.1 C.2.1 dX11_wordOf_1 rfl hl (by decide) rfl (fun ls hl => ?_)
  exact l_X11_wordOf_2 C FU (0 : Int32) ls _ _ hW (lv_sub hl [1, 2, 3, 0] rfl) hf
set_option maxRecDepth 20000 in
set_option maxHeartbeats 1000000 in
theorem c_X11_from {l : Launch} {Z : ZT} {h : Hp} {a : Nat → Nat} {g : PL} {p0 : Nat} {p1 : Int32} {out : Int32} (hf : fp_X11_from g p0 p1 = some out) : Met l yX11_from (wY yX11_from cX11_from 2 (some .int)) (rmP 1 0) (va_Pc [.ref (ra Z a p0), .int p1] (WdP Z h a g)) (va_Qi (fun r (_ : Unit) => r = out) (fun _ => WdP Z h a g) (FR Z)) 0 (600 * 0) (FR Z) := by
  refine metZ RX11 rfl (by decide +kernel) (Nat.le_of_ble_eq_true rfl) ?_
  intro p e s m args below meth c C hin hW ls hl
  have hl : lv_has ls 2 [(0, .ref (ra Z a p0)), (1, .int p1)] := hl
  unfold fp_X11_from at hf
  refine W.widen (k := 0) (n := 600 * 0) (Nat.le_refl _) (Nat.le_refl _) ?_
  refine lv_iload_n C.1 C.2.1 dX11_from_0 rfl (lv_at hl 1 rfl) ?_
  refine z_ifne (tgt := 18) C hf dX11_from_1 (by decide) (fun hf => ?_) (fun hf => ?_)
  · refine lv_aload_n C.1 C.2.1 dX11_from_18 rfl (lv_at hl 0 rfl) ?_
    refine zg_X11_24 C hW hf dX11_from_19 (fun q1 hf => ?_)
    refine lv_iload_n C.1 C.2.1 dX11_from_22 rfl (lv_at hl 1 rfl) ?_
    refine lv_iconst (v := 1) C.1 C.2.1 dX11_from_23 (by decide) ?_
    refine lv_isub C.1 C.2.1 dX11_from_24 ?_
    refine z_iald C hW hf dX11_from_25 (fun hf => ?_)
    refine lv_aload_n C.1 C.2.1 dX11_from_26 rfl (lv_at hl 0 rfl) ?_
    refine zg_X11_27 C hW hf dX11_from_27 (fun q2 hf => ?_)
    refine lv_iload_n C.1 C.2.1 dX11_from_30 rfl (lv_at hl 1 rfl) ?_
    refine lv_iconst (v := 1) C.1 C.2.1 dX11_from_31 (by decide) ?_
    refine lv_isub C.1 C.2.1 dX11_from_32 ?_
    refine z_iald C hW hf dX11_from_33 (fun hf => ?_)
    refine lv_aload_n C.1 C.2.1 dX11_from_34 rfl (lv_at hl 0 rfl) ?_
    refine zg_X11_30 C hW hf dX11_from_35 (fun q3 hf => ?_)
    refine lv_iload_n C.1 C.2.1 dX11_from_38 rfl (lv_at hl 1 rfl) ?_
    refine z_iald C hW hf dX11_from_39 (fun hf => ?_)
    refine lv_isub C.1 C.2.1 dX11_from_40 ?_
    refine z_max C hl (ml_X11_80) (rm_m (by decide)) (rm_c0 (by decide)) (Nat.le_of_ble_eq_true rfl) dX11_from_41 ?_
    obtain rfl := Option.some.inj hf
    exact z_iret C hW dX11_from_44 () rfl (fun _ q => q)
  · refine lv_iconst (v := 0) C.1 C.2.1 dX11_from_4 (by decide) ?_
    refine lv_aload_n C.1 C.2.1 dX11_from_5 rfl (lv_at hl 0 rfl) ?_
    refine zg_X11_30 C hW hf dX11_from_6 (fun q4 hf => ?_)
    refine lv_iload_n C.1 C.2.1 dX11_from_9 rfl (lv_at hl 1 rfl) ?_
    refine z_iald C hW hf dX11_from_10 (fun hf => ?_)
    refine lv_ineg C.1 C.2.1 dX11_from_11 ?_
    refine z_max C hl (ml_X11_80) (rm_m (by decide)) (rm_c0 (by decide)) (Nat.le_of_ble_eq_true rfl) dX11_from_12 ?_
    refine lv_goto (tgt := 44) C.1 C.2.1 dX11_from_15 (by decide) ?_
    obtain rfl := Option.some.inj hf
    exact z_iret C hW dX11_from_44 () rfl (fun _ q => q)
set_option maxRecDepth 20000 in
set_option maxHeartbeats 1000000 in
theorem c_X11_to {l : Launch} {Z : ZT} {h : Hp} {a : Nat → Nat} {g : PL} {p0 : Nat} {p1 : Int32} {out : Int32} (hf : fp_X11_to g p0 p1 = some out) : Met l yX11_to (wY yX11_to cX11_to 2 (some .int)) (rmP 1 0) (va_Pc [.ref (ra Z a p0), .int p1] (WdP Z h a g)) (va_Qi (fun r (_ : Unit) => r = out) (fun _ => WdP Z h a g) (FR Z)) 0 (600 * 0) (FR Z) := by
  refine metZ RX11 rfl (by decide +kernel) (Nat.le_of_ble_eq_true rfl) ?_
  intro p e s m args below meth c C hin hW ls hl
  have hl : lv_has ls 2 [(0, .ref (ra Z a p0)), (1, .int p1)] := hl
  unfold fp_X11_to at hf
  refine W.widen (k := 0) (n := 600 * 0) (Nat.le_refl _) (Nat.le_refl _) ?_
  refine lv_iload_n C.1 C.2.1 dX11_to_0 rfl (lv_at hl 1 rfl) ?_
  refine lv_aload_n C.1 C.2.1 dX11_to_1 rfl (lv_at hl 0 rfl) ?_
  refine zg_X11_121 C hW hf dX11_to_2 (fun hf => ?_)
  refine lv_iconst (v := 1) C.1 C.2.1 dX11_to_5 (by decide) ?_
  refine lv_isub C.1 C.2.1 dX11_to_6 ?_
  refine z_cmpne (tgt := 17) C hf dX11_to_7 (by decide) (fun hf => ?_) (fun hf => ?_)
  · refine lv_aload_n C.1 C.2.1 dX11_to_17 rfl (lv_at hl 0 rfl) ?_
    refine zg_X11_21 C hW hf dX11_to_18 (fun q1 hf => ?_)
    refine lv_iload_n C.1 C.2.1 dX11_to_21 rfl (lv_at hl 1 rfl) ?_
    refine lv_iconst (v := 1) C.1 C.2.1 dX11_to_22 (by decide) ?_
    refine lv_iadd C.1 C.2.1 dX11_to_23 ?_
    refine z_iald C hW hf dX11_to_24 (fun hf => ?_)
    refine lv_aload_n C.1 C.2.1 dX11_to_25 rfl (lv_at hl 0 rfl) ?_
    refine zg_X11_27 C hW hf dX11_to_26 (fun q2 hf => ?_)
    refine lv_iload_n C.1 C.2.1 dX11_to_29 rfl (lv_at hl 1 rfl) ?_
    refine z_iald C hW hf dX11_to_30 (fun hf => ?_)
    refine lv_aload_n C.1 C.2.1 dX11_to_31 rfl (lv_at hl 0 rfl) ?_
    refine zg_X11_33 C hW hf dX11_to_32 (fun q3 hf => ?_)
    refine lv_iload_n C.1 C.2.1 dX11_to_35 rfl (lv_at hl 1 rfl) ?_
    refine z_iald C hW hf dX11_to_36 (fun hf => ?_)
    refine lv_iadd C.1 C.2.1 dX11_to_37 ?_
    refine z_min C hl (ml_X11_124) (rm_m (by decide)) (rm_c0 (by decide)) (Nat.le_of_ble_eq_true rfl) dX11_to_38 ?_
    obtain rfl := Option.some.inj hf
    exact z_iret C hW dX11_to_41 () rfl (fun _ q => q)
  · refine lv_aload_n C.1 C.2.1 dX11_to_10 rfl (lv_at hl 0 rfl) ?_
    refine zg_X11_106 C hW hf dX11_to_11 (fun hf => ?_)
    refine lv_goto (tgt := 41) C.1 C.2.1 dX11_to_14 (by decide) ?_
    obtain rfl := Option.some.inj hf
    exact z_iret C hW dX11_to_41 () rfl (fun _ q => q)
set_option maxRecDepth 20000 in
set_option maxHeartbeats 1000000 in
theorem l_X11_filmLength_13 {l : Launch} {Z : ZT} {h : Hp} {a : Nat → Nat} {g : PL} {p0 : Nat} {x2 : Nat} {x3 : Int32} {p : Program} {e : Env} {s : State} {m : MethodId} {args : Array Value} {below : List Frame} {meth : Method} {c : Code} (C : CQ p s m args meth c cX11_filmLength RX11 6 (some .int) Z) {out : Int32} : ∀ (n : Nat) (x1 : Int32) (x4 : Int32) (ls : Array Slot) (H : Heap) (locs : List Loc), XG Z h a g s.heap H locs → lv_has ls 6 [(0, .ref (ra Z a p0)), (1, .int x1), (2, .ref (ra Z a x2)), (3, .int x3), (4, .int x4)] → Lp (Fp_X11_filmLength_13 g p0 x2 x3) n (x1, x4) = some out → W p l e (rmP 2 0) s m args below meth c H locs 0 (600 * 0) (MQ below (va_Qi (fun r (_ : Unit) => r = out) (fun _ => WdP Z h a g) (FR Z)) args s 0 (600 * 0) (FR Z)) (F0 m 13 ls []) := by
  intro n
  induction n with
  | zero => intro x1 x4 ls H locs hW hl hf; cases hf
  | succ n ih =>
    intro x1 x4 ls H locs hW hl hf
    rw [Lp_s] at hf
    refine lv_iload C.1 C.2.1 dX11_filmLength_13 (lv_at hl 4 rfl) ?_
    refine lv_iload_n C.1 C.2.1 dX11_filmLength_15 rfl (lv_at hl 3 rfl) ?_
    refine z_cmpge (tgt := 47) C hf dX11_filmLength_16 (by decide) (fun hf => ?_) (fun hf => ?_)
    · refine lv_iload_n C.1 C.2.1 dX11_filmLength_47 rfl (lv_at hl 1 rfl) ?_
      obtain rfl := Option.some.inj hf
      exact z_iret C hW dX11_filmLength_48 () rfl (fun _ q => q)
    · refine lv_aload_n C.1 C.2.1 dX11_filmLength_19 rfl (lv_at hl 2 rfl) ?_
      refine lv_iload C.1 C.2.1 dX11_filmLength_20 (lv_at hl 4 rfl) ?_
      refine z_iald C hW hf dX11_filmLength_22 (fun hf => ?_)
      refine z_ist C hf dX11_filmLength_23 hl (by decide) (fun v1 => [(5, .int v1), (0, .ref (ra Z a p0)), (1, .int x1), (2, .ref (ra Z a x2)), (3, .int x3), (4, .int x4)]) (fun _ => rfl) (fun v1 ls hf hl => ?_)
      refine lv_iload_n C.1 C.2.1 dX11_filmLength_25 rfl (lv_at hl 2 rfl) ?_
      refine lv_aload_n C.1 C.2.1 dX11_filmLength_26 rfl (lv_at hl 1 rfl) ?_
      refine lv_iload C.1 C.2.1 dX11_filmLength_27 (lv_at hl 0 rfl) ?_
      obtain ⟨hb, hf⟩ := ck_t hf
      obtain ⟨u2, hu2, hf⟩ := bnd_t hf
      refine z_calli hW (z_runV C hW hl hb (ci := 9) (fs := fl_X11 Z a (g.2.2 p0)) rfl rfl rfl (c_X11_to hu2) cw_X11_127 ci_X11_to cs_X11_to (rm_okP (by decide) (by decide)) (rm_cs (by decide)) (As := [.int v1]) rfl rfl (Nat.le_of_ble_eq_true rfl) dX11_filmLength_29) (fun H locs hW => ?_)
      refine W.widen (k := 0) (n := 600 * 0) (by omega) (by omega) ?_
      refine lv_aload_n C.1 C.2.1 dX11_filmLength_32 rfl (lv_at hl 1 rfl) ?_
      refine lv_iload C.1 C.2.1 dX11_filmLength_33 (lv_at hl 0 rfl) ?_
      obtain ⟨hb, hf⟩ := ck_t hf
      obtain ⟨u3, hu3, hf⟩ := bnd_t hf
      refine z_calli hW (z_runV C hW hl hb (ci := 9) (fs := fl_X11 Z a (g.2.2 p0)) rfl rfl rfl (c_X11_from hu3) cw_X11_130 ci_X11_from cs_X11_from (rm_okP (by decide) (by decide)) (rm_cs (by decide)) (As := [.int v1]) rfl rfl (Nat.le_of_ble_eq_true rfl) dX11_filmLength_35) (fun H locs hW => ?_)
      refine W.widen (k := 0) (n := 600 * 0) (by omega) (by omega) ?_
      refine lv_isub C.1 C.2.1 dX11_filmLength_38 ?_
      refine lv_iadd C.1 C.2.1 dX11_filmLength_39 ?_
      refine z_istn C hf dX11_filmLength_40 rfl hl (by decide) (fun v4 => [(1, .int v4), (5, .int v1), (0, .ref (ra Z a p0)), (2, .ref (ra Z a x2)), (3, .int x3), (4, .int x4)]) (fun _ => rfl) (fun v4 ls hf hl => ?_)
      refine z_iinc (w := 1) C hf dX11_filmLength_41 hl (k := 5) rfl (by decide) (by decide) (fun v5 => [(4, .int v5), (1, .int v4), (5, .int v1), (0, .ref (ra Z a p0)), (2, .ref (ra Z a x2)), (3, .int x3)]) (fun _ => rfl) (fun v5 ls hf hl => ?_)
      refine lv_goto (tgt := 13) C.1 C.2.1 dX11_filmLength_44 (by decide) ?_
      exact ih v4 v5 ls _ _ hW (lv_sub hl [3, 1, 4, 5, 0] rfl) hf
set_option maxRecDepth 20000 in
set_option maxHeartbeats 1000000 in
theorem c_X11_filmLength {l : Launch} {Z : ZT} {h : Hp} {a : Nat → Nat} {g : PL} {p0 : Nat} {out : Int32} (hf : fp_X11_filmLength g p0 = some out) : Met l yX11_filmLength (wY yX11_filmLength cX11_filmLength 6 (some .int)) (rmP 2 0) (va_Pc [.ref (ra Z a p0)] (WdP Z h a g)) (va_Qi (fun r (_ : Unit) => r = out) (fun _ => WdP Z h a g) (FR Z)) 0 (600 * 0) (FR Z) := by
  refine metZ RX11 rfl (by decide +kernel) (Nat.le_of_ble_eq_true rfl) ?_
  intro p e s m args below meth c C hin hW ls hl
  have hl : lv_has ls 6 [(0, .ref (ra Z a p0))] := hl
  unfold fp_X11_filmLength at hf
  refine W.widen (k := 0) (n := 600 * 0) (Nat.le_refl _) (Nat.le_refl _) ?_
  refine lv_iconst (v := 0) C.1 C.2.1 dX11_filmLength_0 (by decide) ?_
  refine lv_istore_n (lv' := [(1, .int (0 : Int32)), (0, .ref (ra Z a p0))]) C.1 C.2.1 dX11_filmLength_1 rfl hl (by decide) rfl (fun ls hl => ?_)
  refine lv_aload_n C.1 C.2.1 dX11_filmLength_2 rfl (lv_at hl 1 rfl) ?_
  refine zg_X11_40 C hW hf dX11_filmLength_3 (fun q6 hf => ?_)
  refine lv_astore_n (lv' := [(2, .ref (ra Z a q6)), (1, .int (0 : Int32)), (0, .ref (ra Z a p0))]) C.1 C.2.1 dX11_filmLength_6 rfl hl (by decide) rfl (fun ls hl => ?_)
  refine lv_aload_n C.1 C.2.1 dX11_filmLength_7 rfl (lv_at hl 0 rfl) ?_
  refine z_alenI C hW hf dX11_filmLength_8 (fun hf => ?_)
  refine z_istn C hf dX11_filmLength_9 rfl hl (by decide) (fun v7 => [(3, .int v7), (2, .ref (ra Z a q6)), (1, .int (0 : Int32)), (0, .ref (ra Z a p0))]) (fun _ => rfl) (fun v7 ls hf hl => ?_)
  refine lv_iconst (v := 0) C.1 C.2.1 dX11_filmLength_10 (by decide) ?_
  refine lv_istore (lv' := [(4, .int (0 : Int32)), (3, .int v7), (2, .ref (ra Z a q6)), (1, .int (0 : Int32)), (0, .ref (ra Z a p0))]) C.1 C.2.1 dX11_filmLength_11 hl (by decide) rfl (fun ls hl => ?_)
  exact l_X11_filmLength_13 C FU (0 : Int32) (0 : Int32) ls _ _ hW (lv_sub hl [4, 3, 2, 1, 0] rfl) hf
set_option maxRecDepth 20000 in
set_option maxHeartbeats 1000000 in
theorem l_X11_shotOf_2 {l : Launch} {Z : ZT} {h : Hp} {a : Nat → Nat} {g : PL} {p0 : Nat} {p1 : Int32} {p : Program} {e : Env} {s : State} {m : MethodId} {args : Array Value} {below : List Frame} {meth : Method} {c : Code} (C : CQ p s m args meth c cX11_shotOf RX11 3 (some .int) Z) {out : Int32} : ∀ (n : Nat) (x2 : Int32) (ls : Array Slot) (H : Heap) (locs : List Loc), XG Z h a g s.heap H locs → lv_has ls 3 [(0, .ref (ra Z a p0)), (1, .int p1), (2, .int x2)] → Lp (Fp_X11_shotOf_2 g p0 p1) n x2 = some out → W p l e (rmP 1 0) s m args below meth c H locs 0 (600 * 0) (MQ below (va_Qi (fun r (_ : Unit) => r = out) (fun _ => WdP Z h a g) (FR Z)) args s 0 (600 * 0) (FR Z)) (F0 m 2 ls []) := by
  intro n
  induction n with
  | zero => intro x2 ls H locs hW hl hf; cases hf
  | succ n ih =>
    intro x2 ls H locs hW hl hf
    rw [Lp_s] at hf
    rw [Fp_X11_shotOf_2] at hf
    try dsimp only at hf
    refine lv_iload_n C.1 C.2.1 dX11_shotOf_2 rfl (lv_at hl 2 rfl) ?_
    refine lv_aload_n C.1 C.2.1 dX11_shotOf_3 rfl (lv_at hl 0 rfl) ?_
    refine zg_X11_40 C hW hf dX11_shotOf_4 (fun q1 hf => ?_)
    refine z_alenI C hW hf dX11_shotOf_7 (fun hf => ?_)
    refine z_cmpge (tgt := 29) C hf dX11_shotOf_8 (by decide) (fun hf => ?_) (fun hf => ?_)
    · refine lv_iconst (v := -1) C.1 C.2.1 dX11_shotOf_29 (by decide) ?_
      obtain rfl := Option.some.inj hf
      exact z_iret C hW dX11_shotOf_30 () rfl (fun _ q => q)
    · refine lv_aload_n C.1 C.2.1 dX11_shotOf_11 rfl (lv_at hl 0 rfl) ?_
      refine zg_X11_40 C hW hf dX11_shotOf_12 (fun q2 hf => ?_)
      refine lv_iload_n C.1 C.2.1 dX11_shotOf_15 rfl (lv_at hl 2 rfl) ?_
      refine z_iald C hW hf dX11_shotOf_16 (fun hf => ?_)
      refine lv_iload_n C.1 C.2.1 dX11_shotOf_17 rfl (lv_at hl 1 rfl) ?_
      refine z_cmpne (tgt := 23) C hf dX11_shotOf_18 (by decide) (fun hf => ?_) (fun hf => ?_)
      · refine z_iinc (w := 1) C hf dX11_shotOf_23 hl (k := 2) rfl (by decide) (by decide) (fun v3 => [(2, .int v3), (0, .ref (ra Z a p0)), (1, .int p1)]) (fun _ => rfl) (fun v3 ls hf hl => ?_)
        refine lv_goto (tgt := 2) C.1 C.2.1 dX11_shotOf_26 (by decide) ?_
        exact ih v3 ls _ _ hW (lv_sub hl [1, 2, 0] rfl) hf
      · refine lv_iload_n C.1 C.2.1 dX11_shotOf_21 rfl (lv_at hl 2 rfl) ?_
        obtain rfl := Option.some.inj hf
        exact z_iret C hW dX11_shotOf_22 () rfl (fun _ q => q)
set_option maxRecDepth 20000 in
set_option maxHeartbeats 1000000 in
theorem c_X11_shotOf {l : Launch} {Z : ZT} {h : Hp} {a : Nat → Nat} {g : PL} {p0 : Nat} {p1 : Int32} {out : Int32} (hf : fp_X11_shotOf g p0 p1 = some out) : Met l yX11_shotOf (wY yX11_shotOf cX11_shotOf 3 (some .int)) (rmP 1 0) (va_Pc [.ref (ra Z a p0), .int p1] (WdP Z h a g)) (va_Qi (fun r (_ : Unit) => r = out) (fun _ => WdP Z h a g) (FR Z)) 0 (600 * 0) (FR Z) := by
  refine metZ RX11 rfl (by decide +kernel) (Nat.le_of_ble_eq_true rfl) ?_
  intro p e s m args below meth c C hin hW ls hl
  have hl : lv_has ls 3 [(0, .ref (ra Z a p0)), (1, .int p1)] := hl
  unfold fp_X11_shotOf at hf
  refine W.widen (k := 0) (n := 600 * 0) (Nat.le_refl _) (Nat.le_refl _) ?_
  refine lv_iconst (v := 0) C.1 C.2.1 dX11_shotOf_0 (by decide) ?_
  refine lv_istore_n (lv' := [(2, .int (0 : Int32)), (0, .ref (ra Z a p0)), (1, .int p1)]) C.1 C.2.1 dX11_shotOf_1 rfl hl (by decide) rfl (fun ls hl => ?_)
  exact l_X11_shotOf_2 C FU (0 : Int32) ls _ _ hW (lv_sub hl [1, 2, 0] rfl) hf
set_option maxRecDepth 20000 in
set_option maxHeartbeats 1000000 in
theorem c_X11_state {l : Launch} {Z : ZT} {h : Hp} {a : Nat → Nat} {g : PL} {p0 : Nat} {p1 : Int32} {out : Int32} (hf : fp_X11_state g p0 p1 = some out) : Met l yX11_state (wY yX11_state cX11_state 2 (some .int)) (rmP 2 0) (va_Pc [.ref (ra Z a p0), .int p1] (WdP Z h a g)) (va_Qi (fun r (_ : Unit) => r = out) (fun _ => WdP Z h a g) (FR Z)) 0 (600 * 0) (FR Z) := by
  refine metZ RX11 rfl (by decide +kernel) (Nat.le_of_ble_eq_true rfl) ?_
  intro p e s m args below meth c C hin hW ls hl
  have hl : lv_has ls 2 [(0, .ref (ra Z a p0)), (1, .int p1)] := hl
  unfold fp_X11_state at hf
  refine W.widen (k := 0) (n := 600 * 0) (Nat.le_refl _) (Nat.le_refl _) ?_
  refine lv_aload_n C.1 C.2.1 dX11_state_0 rfl (lv_at hl 0 rfl) ?_
  refine zg_X11_36 C hW hf dX11_state_1 (fun q1 hf => ?_)
  refine lv_iload_n C.1 C.2.1 dX11_state_4 rfl (lv_at hl 1 rfl) ?_
  refine z_zald C hW hf dX11_state_5 (fun hf => ?_)
  refine z_ifne (tgt := 13) C hf dX11_state_6 (by decide) (fun hf => ?_) (fun hf => ?_)
  · refine lv_aload_n C.1 C.2.1 dX11_state_13 rfl (lv_at hl 0 rfl) ?_
    refine lv_aload_n C.1 C.2.1 dX11_state_14 rfl (lv_at hl 0 rfl) ?_
    refine zg_X11_9 C hW hf dX11_state_15 (fun q2 hf => ?_)
    refine lv_iload_n C.1 C.2.1 dX11_state_18 rfl (lv_at hl 1 rfl) ?_
    refine z_aald C hW hf dX11_state_19 (fun q3 hf => ?_)
    refine lv_iconst (v := 4) C.1 C.2.1 dX11_state_20 (by decide) ?_
    refine z_iald C hW hf dX11_state_21 (fun hf => ?_)
    obtain ⟨hb, hf⟩ := ck_t hf
    obtain ⟨u4, hu4, hf⟩ := bnd_t hf
    refine z_calli hW (z_runV C hW hl hb (ci := 9) (fs := fl_X11 Z a (g.2.2 p0)) rfl rfl rfl (c_X11_shotOf hu4) cw_X11_133 ci_X11_shotOf cs_X11_shotOf (rm_okP (by decide) (by decide)) (rm_cs (by decide)) (As := [.int (g.2.2 q3 (ix (4 : Int32)))]) rfl rfl (Nat.le_of_ble_eq_true rfl) dX11_state_22) (fun H locs hW => ?_)
    refine W.widen (k := 0) (n := 600 * 0) (by omega) (by omega) ?_
    refine z_ifge (tgt := 32) C hf dX11_state_25 (by decide) (fun hf => ?_) (fun hf => ?_)
    · refine lv_iconst (v := 1) C.1 C.2.1 dX11_state_32 (by decide) ?_
      obtain rfl := Option.some.inj hf
      exact z_iret C hW dX11_state_33 () rfl (fun _ q => q)
    · refine lv_iconst (v := 2) C.1 C.2.1 dX11_state_28 (by decide) ?_
      refine lv_goto (tgt := 33) C.1 C.2.1 dX11_state_29 (by decide) ?_
      obtain rfl := Option.some.inj hf
      exact z_iret C hW dX11_state_33 () rfl (fun _ q => q)
  · refine lv_iconst (v := 0) C.1 C.2.1 dX11_state_9 (by decide) ?_
    refine lv_goto (tgt := 33) C.1 C.2.1 dX11_state_10 (by decide) ?_
    obtain rfl := Option.some.inj hf
    exact z_iret C hW dX11_state_33 () rfl (fun _ q => q)
