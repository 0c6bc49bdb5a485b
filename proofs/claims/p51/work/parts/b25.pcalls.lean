/-! rows over the pool: calls and ends -/
section ZL
variable {p : Program} {l : Launch} {e : Env} {R : Room} {s : State} {m : MethodId} {args : Array Value} {below : List Frame} {meth : Method} {c : Code} {H : Heap} {locs : List Loc} {cells slots : Nat} {Q : State → Prop} {cc bytes : ByteArray} {pc nL tgt maxL n idx mc ms : Nat} {ret rt : Option FieldType} {ls : Array Slot} {rest st As : List Value} {Z : ZT} {h h1 : Hp} {a a0 : Nat → Nat} {g g0 g1 : PL} {own : String} {α : Type} {out : α} {rm : Room} {lv : List (Nat × Value)} {y : MethodName} {Qc : Array Value → State → Outcome → State → Prop} {arr : Array Value} {st0 : List Value}
theorem z_runV (C : CQ p s m args meth c cc own nL ret Z) (hW : XG Z h a g s.heap H locs) (hl : lv_has ls nL lv) {o kd ci N : Nat} {T : u_T} {fs : List Value} {Cn : String} (ho : gk g o kd = true) (he : celP Z a kd (gl g o) (g.2.2 o) = .inr (ci, fs)) (hc : vwCl[ci]? = some (Cn, T, N)) (hcn : y.cls = Cn) (hm : Met l y (wY y bytes maxL rt) rm (va_Pc (.ref (ra Z a o) :: As) (WdP Z h a g)) Qc mc ms (FR Z)) (hw : CWd own idx y bytes maxL rt n) (hi : Cond.instanceMethod y ∈ TW) (hs : Cond.selects y.cls y y ∈ TW) (hr : RmK rm R maxL mc ms) (hcs : cells + mc ≤ R.cells ∧ slots + ms ≤ R.slots) (hn : As.length = n) (hst : st = As.reverse ++ .ref (ra Z a o) :: rest) (hcat : (rest.map fun v => v.category).sum ≤ 8) (hd : decode cc pc = .ok (.invokevirtual idx, 3)) : va_Run p l e R s m args below meth c H locs cells slots mc ms (F0 m pc ls st) rest (Qc (Value.ref (ra Z a o) :: As).toArray) (FR Z) := by
  have hts := C.2.2.1
  refine va_runV (bytes := bytes) (maxL := maxL) (ret := rt) (As := As) (rest := rest) (b := ra Z a o) (C := Cn) (n := n) ⟨C.1, C.2.1, C.2.2.2.2.1, C.2.2.2.1, hts⟩ hm ?_ ⟨WdP_blind, va_recv C.2.2.2.2.2.2.2.1 hW.1 hc (pk_at hW.2.2.2 ho he), (z_pre C hW).2⟩ rfl hn hl.1 hst (lv_room hcat) hd hcs
  subst hcn
  exact ⟨callB_of n hts (wY_good hw.2.1) rfl hr.1 hr.2.1 (hts _ hw.2.2.1) (hts _ hw.1) hw.2.2.2 hr.2.2, hts _ hi, hts _ hs⟩
theorem z_runU (C : CQ p s m args meth c cc own nL ret Z) (hW : XG Z h a g s.heap H locs) (hl : lv_has ls nL lv) {o kd ci N : Nat} {T : u_T} {fs : List Value} {Cn : String} (ho : gk g o kd = true) (he : celP Z a kd (gl g o) (g.2.2 o) = .inr (ci, fs)) (hc : vwCl[ci]? = some (Cn, T, N)) (hm : Met l y (wY y bytes maxL rt) rm (va_Pc (.ref (ra Z a o) :: As) (WdP Z h a g)) Qc mc ms (FR Z)) (hw : CWd own idx y bytes maxL rt n) (hi : Cond.instanceMethod y ∈ TW) (hsm : Cond.sameMethod y.cls y.cls y.name y.desc ∈ TW) (hs : Cond.selects Cn y y ∈ TW) (hr : RmK rm R maxL mc ms) (hcs : cells + mc ≤ R.cells ∧ slots + ms ≤ R.slots) (hn : As.length = n) (hst : st = As.reverse ++ .ref (ra Z a o) :: rest) (hcat : (rest.map fun v => v.category).sum ≤ 8) (hd : decode cc pc = .ok (.invokevirtual idx, 3)) : va_Run p l e R s m args below meth c H locs cells slots mc ms (F0 m pc ls st) rest (Qc (Value.ref (ra Z a o) :: As).toArray) (FR Z) := by
  have hts := C.2.2.1
  have cw : va_CU R s args own Cn y.cls idx y y bytes maxL rt (wY y bytes maxL rt) rm mc ms n := by
    refine va_cwU n hts (fun w hw' => ?_) rfl hr.1 hr.2.1 rfl hw.2.2.2 hr.2.2
    unfold va_wsU at hw'
    rcases List.mem_append.mp hw' with hw' | hw'
    · have hm' : w ∈ TW := by
        simp only [List.mem_cons, List.not_mem_nil, or_false] at hw'
        rcases hw' with rfl | rfl | rfl | rfl | rfl
        · exact hw.1
        · exact hsm
        · exact hs
        · exact hi
        · exact hw.2.2.1
      exact ⟨hm', good_of_word (List.mem_filter.mp hm').2⟩
    · exact wY_good hw.2.1 w hw'
  exact va_runU (bytes := bytes) (maxL := maxL) (ret := rt) (As := As) (rest := rest) (b := ra Z a o) (C := Cn) (n := n) ⟨C.1, C.2.1, C.2.2.2.2.1, C.2.2.2.1, hts⟩ hm cw ⟨WdP_blind, va_recv C.2.2.2.2.2.2.2.1 hW.1 hc (pk_at hW.2.2.2 ho he), (z_pre C hW).2⟩ rfl hn hl.1 hst (lv_room hcat) hd hcs
theorem z_runSU (C : CQ p s m args meth c cc own nL ret Z) (hW : XG Z h a g s.heap H locs) (hl : lv_has ls nL lv) {o kd ci N : Nat} {T : u_T} {fs : List Value} {Cn : String} (ho : gk g o kd = true) (he : celP Z a kd (gl g o) (g.2.2 o) = .inr (ci, fs)) (hc : vwCl[ci]? = some (Cn, T, N)) (hm : Met l y (wY y bytes maxL rt) rm (va_Pc (.ref (ra Z a o) :: As) (WdP Z h a g)) Qc mc ms (FR Z)) (hw : CWd own idx y bytes maxL rt n) (hi : Cond.instanceMethod y ∈ TW) (hsm : Cond.sameMethod y.cls y.cls y.name y.desc ∈ TW) (hsu : Cond.superclass own y.cls ∈ TW) (hni : y.name ≠ "<init>") (hr : RmK rm R maxL mc ms) (hcs : cells + mc ≤ R.cells ∧ slots + ms ≤ R.slots) (hn : As.length = n) (hst : st = As.reverse ++ .ref (ra Z a o) :: rest) (hcat : (rest.map fun v => v.category).sum ≤ 8) (hd : decode cc pc = .ok (.invokespecial idx, 3)) : va_Run p l e R s m args below meth c H locs cells slots mc ms (F0 m pc ls st) rest (Qc (Value.ref (ra Z a o) :: As).toArray) (FR Z) := by
  have hts := C.2.2.1
  have cw : va_CS R s args own idx y bytes maxL rt (wY y bytes maxL rt) rm mc ms n := by
    refine va_cwSU n hts (fun w hw' => ?_) rfl hr.1 hr.2.1 ⟨hni, hw.2.2.2.2.2⟩ hr.2.2
    unfold va_wsSU at hw'
    rcases List.mem_append.mp hw' with hw' | hw'
    · have hm' : w ∈ TW := by
        simp only [List.mem_cons, List.not_mem_nil, or_false] at hw'
        rcases hw' with rfl | rfl | rfl | rfl | rfl
        · exact hw.1
        · exact hsm
        · exact hsu
        · exact hi
        · exact hw.2.2.1
      exact ⟨hm', good_of_word (List.mem_filter.mp hm').2⟩
    · exact wY_good hw.2.1 w hw'
  exact va_runSU (bytes := bytes) (maxL := maxL) (ret := rt) (As := As) (rest := rest) (b := ra Z a o) (C := Cn) (n := n) (C.2.2.2.2.2.2.2.1.1 ci _ hc).2 ⟨C.1, C.2.1, C.2.2.2.2.1, C.2.2.2.1, hts⟩ hm cw ⟨WdP_blind, va_recv C.2.2.2.2.2.2.2.1 hW.1 hc (pk_at hW.2.2.2 ho he), (z_pre C hW).2⟩ rfl hn hl.1 hst (lv_room hcat) hd hcs
theorem z_runI (C : CQ p s m args meth c cc own nL ret Z) (hW : XG Z h a g s.heap H locs) (hl : lv_has ls nL lv) {b : Nat} (hm : Met l y (wY y bytes maxL none) rm (va_Pc (.ref b :: As) (WdP Z h a g)) Qc mc ms (FR Z)) (hw : CWd own idx y bytes maxL none n) (hi : Cond.instanceMethod y ∈ TW) (hni : y.name = "<init>") (hr : RmK rm R maxL mc ms) (hcs : cells + mc ≤ R.cells ∧ slots + ms ≤ R.slots) (hn : As.length = n) (hst : st = As.reverse ++ .ref b :: rest) (hcat : (rest.map fun v => v.category).sum ≤ 8) (hd : decode cc pc = .ok (.invokespecial idx, 3)) : va_Run p l e R s m args below meth c H locs cells slots mc ms (F0 m pc ls st) rest (Qc (Value.ref b :: As).toArray) (FR Z) := by
  have hts := C.2.2.1
  exact va_runI (bytes := bytes) (maxL := maxL) (As := As) (rest := rest) (n := n) ⟨C.1, C.2.1, C.2.2.2.2.1, C.2.2.2.1, hts⟩ hm ⟨callB_of n hts (wY_good hw.2.1) rfl hr.1 hr.2.1 (hts _ hw.2.2.1) (hts _ hw.1) hw.2.2.2 hr.2.2, hni, hts _ hi⟩ (z_pre C hW) rfl hn hl.1 hst (lv_room hcat) hd hcs
theorem z_runS (C : CQ p s m args meth c cc own nL ret Z) (hW : XG Z h a g s.heap H locs) (hl : lv_has ls nL lv) (hm : Met l y (wY y bytes maxL rt) rm (va_Pc As (WdP Z h a g)) Qc mc ms (FR Z)) (hw : CWd own idx y bytes maxL rt n) (hi : Cond.static y ∈ TW) (hr : RmK rm R maxL mc ms) (hcs : cells + mc ≤ R.cells ∧ slots + ms ≤ R.slots) (hn : As.length = n) (hst : st = As.reverse ++ rest) (hcat : (rest.map fun v => v.category).sum ≤ 8) (hd : decode cc pc = .ok (.invokestatic idx, 3)) : va_Run p l e R s m args below meth c H locs cells slots mc ms (F0 m pc ls st) rest (Qc As.toArray) (FR Z) := by
  have hts := C.2.2.1
  exact va_runS (bytes := bytes) (maxL := maxL) (ret := rt) (As := As) (rest := rest) (n := n) ⟨C.1, C.2.1, C.2.2.2.2.1, C.2.2.2.1, hts⟩ hm ⟨callB_of n hts (wY_good hw.2.1) rfl hr.1 hr.2.1 (hts _ hw.2.2.1) (hts _ hw.1) hw.2.2.2 hr.2.2, hts _ hi⟩ (z_pre C hW) rfl hn hl.1 hst (lv_room hcat) hd hcs
theorem z_run0 (C : CQ p s m args meth c cc own nL ret Z) (hW : XG Z h a g s.heap H locs) (hl : lv_has ls nL lv) (hcn : y.cls = RX10) (hm : Met l y (wY y bytes maxL rt) rm (va_Pc (.ref (Z.1 0) :: As) (Wd Z h (pl Z a g))) Qc mc ms (FR Z)) (hw : CWd own idx y bytes maxL rt n) (hi : Cond.instanceMethod y ∈ TW) (hs : Cond.selects y.cls y y ∈ TW) (hr : RmK rm R maxL mc ms) (hcs : cells + mc ≤ R.cells ∧ slots + ms ≤ R.slots) (hn : As.length = n) (hst : st = As.reverse ++ .ref (Z.1 0) :: rest) (hcat : (rest.map fun v => v.category).sum ≤ 8) (hd : decode cc pc = .ok (.invokevirtual idx, 3)) : va_Run p l e R s m args below meth c H locs cells slots mc ms (F0 m pc ls st) rest (Qc (Value.ref (Z.1 0) :: As).toArray) (FR Z) := by
  have hts := C.2.2.1
  refine va_runV (bytes := bytes) (maxL := maxL) (ret := rt) (As := As) (rest := rest) (b := Z.1 0) (C := RX10) (n := n) ⟨C.1, C.2.1, C.2.2.2.2.1, C.2.2.2.1, hts⟩ hm ?_ ⟨Wd_blind, va_recv C.2.2.2.2.2.2.2.1 hW.1 (ci := 8) rfl (wk8 k_0), (z_pre0 C hW).2⟩ rfl hn hl.1 hst (lv_room hcat) hd hcs
  refine ⟨callB_of n hts (wY_good hw.2.1) rfl hr.1 hr.2.1 (hts _ hw.2.2.1) (hts _ hw.1) hw.2.2.2 hr.2.2, hts _ hi, ?_⟩
  rw [hcn] at hs
  exact hts _ hs
theorem z_calli {v : Int32} (hW : XG Z h a g s.heap H locs) (hr : va_Run p l e R s m args below meth c H locs cells slots mc ms (F0 m pc ls st0) rest (va_Qi (fun r (_ : Unit) => r = v) (fun _ => WdP Z h1 a g1) (FR Z) arr) (FR Z)) (kk : ∀ (H1 : Heap) (locs1 : List Loc), XG Z h1 a g1 s.heap H1 locs1 → W p l e R s m args below meth c H1 locs1 (cells + mc) (slots + ms) Q (F0 m (pc + 3) ls (.int v :: rest))) : W p l e R s m args below meth c H locs cells slots Q (F0 m pc ls st0) :=
  va_calli hr hW.2.1 (fun _ _ q => q) (fun _ q => q) (fun r u t H1 locs1 ht hvm hp hB _ _ hS => by
    subst hp
    exact kk H1 locs1 ⟨by rw [← ht]; exact hB.1, hS, hB.2.2.1, hB.2.2.2.2.2.2⟩)
theorem z_calliA {v : Int32} (hW : XG Z h a g s.heap H locs) (hr : va_Run p l e R s m args below meth c H locs cells slots mc ms (F0 m pc ls st0) rest (va_Qi (fun r (a1 : Nat → Nat) => r = v ∧ AG a g a1 g1) (fun a1 => WdP Z h1 a1 g1) (FR Z) arr) (FR Z)) (kk : ∀ (a1 : Nat → Nat) (H1 : Heap) (locs1 : List Loc), AG a g a1 g1 → XG Z h1 a1 g1 s.heap H1 locs1 → W p l e R s m args below meth c H1 locs1 (cells + mc) (slots + ms) Q (F0 m (pc + 3) ls (.int v :: rest))) : W p l e R s m args below meth c H locs cells slots Q (F0 m pc ls st0) :=
  va_calli hr hW.2.1 (fun _ _ q => q) (fun _ q => q) (fun r u t H1 locs1 ht hvm hp hB _ _ hS => by
    obtain ⟨rfl, hag⟩ := hp
    exact kk u H1 locs1 hag ⟨by rw [← ht]; exact hB.1, hS, hB.2.2.1, hB.2.2.2.2.2.2⟩)
theorem z_callv (hW : XG Z h a g s.heap H locs) (hr : va_Run p l e R s m args below meth c H locs cells slots mc ms (F0 m pc ls st0) rest (va_Qv (fun (_ : Unit) => True) (fun _ => WdP Z h1 a g1) (FR Z) arr) (FR Z)) (kk : ∀ (H1 : Heap) (locs1 : List Loc), XG Z h1 a g1 s.heap H1 locs1 → W p l e R s m args below meth c H1 locs1 (cells + mc) (slots + ms) Q (F0 m (pc + 3) ls rest)) : W p l e R s m args below meth c H locs cells slots Q (F0 m pc ls st0) :=
  va_callv hr hW.2.1 (fun _ _ q => q) (fun _ q => q) (fun u t H1 locs1 ht hvm hp hB _ _ hS => kk H1 locs1 ⟨by rw [← ht]; exact hB.1, hS, hB.2.2.1, hB.2.2.2.2.2.2⟩)
theorem z_callvA (hW : XG Z h a g s.heap H locs) (hr : va_Run p l e R s m args below meth c H locs cells slots mc ms (F0 m pc ls st0) rest (va_Qv (fun (a1 : Nat → Nat) => AG a g a1 g1) (fun a1 => WdP Z h1 a1 g1) (FR Z) arr) (FR Z)) (kk : ∀ (a1 : Nat → Nat) (H1 : Heap) (locs1 : List Loc), AG a g a1 g1 → XG Z h1 a1 g1 s.heap H1 locs1 → W p l e R s m args below meth c H1 locs1 (cells + mc) (slots + ms) Q (F0 m (pc + 3) ls rest)) : W p l e R s m args below meth c H locs cells slots Q (F0 m pc ls st0) :=
  va_callv hr hW.2.1 (fun _ _ q => q) (fun _ q => q) (fun u t H1 locs1 ht hvm hp hB _ _ hS => kk u H1 locs1 hp ⟨by rw [← ht]; exact hB.1, hS, hB.2.2.1, hB.2.2.2.2.2.2⟩)
theorem z_callr {v : Nat} (hW : XG Z h a g s.heap H locs) (hr : va_Run p l e R s m args below meth c H locs cells slots mc ms (F0 m pc ls st0) rest (va_Qr (fun (_ : Unit) => True) (fun _ x t => x = ra Z a v ∧ WdP Z h1 a g1 t) (FR Z) arr) (FR Z)) (kk : ∀ (H1 : Heap) (locs1 : List Loc), XG Z h1 a g1 s.heap H1 locs1 → W p l e R s m args below meth c H1 locs1 (cells + mc) (slots + ms) Q (F0 m (pc + 3) ls (.ref (ra Z a v) :: rest))) : W p l e R s m args below meth c H locs cells slots Q (F0 m pc ls st0) :=
  va_callr hr hW.2.1 (fun _ _ q => q) (fun _ q => q) (fun u x t H1 locs1 ht hvm hp hB _ _ hS => by
    obtain ⟨rfl, hB⟩ := hB
    exact kk H1 locs1 ⟨by rw [← ht]; exact hB.1, hS, hB.2.2.1, hB.2.2.2.2.2.2⟩)
theorem z_callrA {v : Nat} (hW : XG Z h a g s.heap H locs) (hr : va_Run p l e R s m args below meth c H locs cells slots mc ms (F0 m pc ls st0) rest (va_Qr (fun (a1 : Nat → Nat) => AG a g a1 g1) (fun a1 x t => x = ra Z a1 v ∧ WdP Z h1 a1 g1 t) (FR Z) arr) (FR Z)) (kk : ∀ (a1 : Nat → Nat) (H1 : Heap) (locs1 : List Loc), AG a g a1 g1 → XG Z h1 a1 g1 s.heap H1 locs1 → W p l e R s m args below meth c H1 locs1 (cells + mc) (slots + ms) Q (F0 m (pc + 3) ls (.ref (ra Z a1 v) :: rest))) : W p l e R s m args below meth c H locs cells slots Q (F0 m pc ls st0) :=
  va_callr hr hW.2.1 (fun _ _ q => q) (fun _ q => q) (fun u x t H1 locs1 ht hvm hp hB _ _ hS => by
    obtain ⟨rfl, hB⟩ := hB
    exact kk u H1 locs1 hp ⟨by rw [← ht]; exact hB.1, hS, hB.2.2.1, hB.2.2.2.2.2.2⟩)
theorem z_calli0 {v : Int32} (hW : XG Z h a g s.heap H locs) (hr : va_Run p l e R s m args below meth c H locs cells slots mc ms (F0 m pc ls st0) rest (va_Qi (fun r (_ : Unit) => r = v) (fun _ => Wd Z h1 (pl Z a g)) (FR Z) arr) (FR Z)) (kk : ∀ (H1 : Heap) (locs1 : List Loc), XG Z h1 a g s.heap H1 locs1 → W p l e R s m args below meth c H1 locs1 (cells + mc) (slots + ms) Q (F0 m (pc + 3) ls (.int v :: rest))) : W p l e R s m args below meth c H locs cells slots Q (F0 m pc ls st0) :=
  va_calli hr hW.2.1 (fun _ _ q => q) (fun _ q => q) (fun r u t H1 locs1 ht hvm hp hB _ _ hS => by
    subst hp
    exact kk H1 locs1 ⟨by rw [← ht]; exact hB.1, hS, wl_D hW.2.2.1, hW.2.2.2⟩)
theorem z_runS0 (C : CQ p s m args meth c cc own nL ret Z) (hW : XG Z h a g s.heap H locs) (hl : lv_has ls nL lv) (hm : Met l y (wY y bytes maxL rt) rm (va_Pc As (Wd Z h (pl Z a g))) Qc mc ms (FR Z)) (hw : CWd own idx y bytes maxL rt n) (hi : Cond.static y ∈ TW) (hr : RmK rm R maxL mc ms) (hcs : cells + mc ≤ R.cells ∧ slots + ms ≤ R.slots) (hn : As.length = n) (hst : st = As.reverse ++ rest) (hcat : (rest.map fun v => v.category).sum ≤ 8) (hd : decode cc pc = .ok (.invokestatic idx, 3)) : va_Run p l e R s m args below meth c H locs cells slots mc ms (F0 m pc ls st) rest (Qc As.toArray) (FR Z) := by
  have hts := C.2.2.1
  exact va_runS (bytes := bytes) (maxL := maxL) (ret := rt) (As := As) (rest := rest) (n := n) ⟨C.1, C.2.1, C.2.2.2.2.1, C.2.2.2.1, hts⟩ hm ⟨callB_of n hts (wY_good hw.2.1) rfl hr.1 hr.2.1 (hts _ hw.2.2.1) (hts _ hw.1) hw.2.2.2 hr.2.2, hts _ hi⟩ (z_pre0 C hW) rfl hn hl.1 hst (lv_room hcat) hd hcs
theorem z_callv0 (hW : XG Z h a g s.heap H locs) (hr : va_Run p l e R s m args below meth c H locs cells slots mc ms (F0 m pc ls st0) rest (va_Qv (fun (_ : Unit) => True) (fun _ => Wd Z h1 (pl Z a g)) (FR Z) arr) (FR Z)) (kk : ∀ (H1 : Heap) (locs1 : List Loc), XG Z h1 a g s.heap H1 locs1 → W p l e R s m args below meth c H1 locs1 (cells + mc) (slots + ms) Q (F0 m (pc + 3) ls rest)) : W p l e R s m args below meth c H locs cells slots Q (F0 m pc ls st0) :=
  va_callv hr hW.2.1 (fun _ _ q => q) (fun _ q => q) (fun u t H1 locs1 ht hvm hp hB _ _ hS => kk H1 locs1 ⟨by rw [← ht]; exact hB.1, hS, wl_D hW.2.2.1, hW.2.2.2⟩)
theorem z_iret {S : Type} {x : Int32} {post : Int32 → S → Prop} {B : S → State → Prop} (C : CQ p s m args meth c cc own nL (some .int) Z) (hW : XG Z h a g s.heap H locs) (hd : decode cc pc = .ok (.ireturn, 1)) (u : S) (hp : post x u) (hB : ∀ t, WdP Z h a g t → B u t) : W p l e R s m args below meth c H locs cells slots (MQ below (va_Qi post B (FR Z)) args s cells slots (FR Z)) (F0 m pc ls [.int x]) :=
  W.iret C.1 C.2.1 C.2.2.2.2.2.1 (fun t ht hw => ⟨⟨x, u, rfl, hp, hB t (z_wd C hW ht hw)⟩, hW.2.1.F ht⟩) hW.2.1.2.2 hd C.2.2.2.2.2.2.1
theorem z_zret {S : Type} {x : Int32} {post : Int32 → S → Prop} {B : S → State → Prop} (C : CQ p s m args meth c cc own nL (some .boolean) Z) (hW : XG Z h a g s.heap H locs) (hz : zb x = true) (hd : decode cc pc = .ok (.ireturn, 1)) (u : S) (hp : post x u) (hB : ∀ t, WdP Z h a g t → B u t) : W p l e R s m args below meth c H locs cells slots (MQ below (va_Qi post B (FR Z)) args s cells slots (FR Z)) (F0 m pc ls [.int x]) :=
  W.zret C.1 C.2.1 C.2.2.2.2.2.1 (zb_n hz) (fun t ht hw => ⟨⟨x, u, rfl, hp, hB t (z_wd C hW ht hw)⟩, hW.2.1.F ht⟩) hW.2.1.2.2 hd C.2.2.2.2.2.2.1
theorem z_nret {S : Type} {x : Int32} {ty : FieldType} {post : Int32 → S → Prop} {B : S → State → Prop} (C : CQ p s m args meth c cc own nL (some ty) Z) (hW : XG Z h a g s.heap H locs) (hnr : narrow ty (.int x) = .int x) (hd : decode cc pc = .ok (.ireturn, 1)) (u : S) (hp : post x u) (hB : ∀ t, WdP Z h a g t → B u t) : W p l e R s m args below meth c H locs cells slots (MQ below (va_Qi post B (FR Z)) args s cells slots (FR Z)) (F0 m pc ls [.int x]) :=
  W.zret C.1 C.2.1 C.2.2.2.2.2.1 hnr (fun t ht hw => ⟨⟨x, u, rfl, hp, hB t (z_wd C hW ht hw)⟩, hW.2.1.F ht⟩) hW.2.1.2.2 hd C.2.2.2.2.2.2.1
theorem z_vret {S : Type} {post : S → Prop} {B : S → State → Prop} (C : CQ p s m args meth c cc own nL none Z) (hW : XG Z h a g s.heap H locs) (hd : decode cc pc = .ok (.return_, 1)) (u : S) (hp : post u) (hB : ∀ t, WdP Z h a g t → B u t) : W p l e R s m args below meth c H locs cells slots (MQ below (va_Qv post B (FR Z)) args s cells slots (FR Z)) (F0 m pc ls []) :=
  W.vret C.1 C.2.1 C.2.2.2.2.2.1 (fun t ht hw => ⟨⟨u, rfl, hp, hB t (z_wd C hW ht hw)⟩, hW.2.1.F ht⟩) hW.2.1.2.2 hd C.2.2.2.2.2.2.1
theorem z_aret {S : Type} {v : Nat} {ty : FieldType} {post : S → Prop} {B : S → Nat → State → Prop} (C : CQ p s m args meth c cc own nL (some ty) Z) (hW : XG Z h a g s.heap H locs) (hty : (∃ n, ty = .object n) ∨ ∃ t, ty = .array t) (hd : decode cc pc = .ok (.areturn, 1)) (u : S) (hp : post u) (hB : ∀ t, WdP Z h a g t → B u (ra Z a v) t) : W p l e R s m args below meth c H locs cells slots (MQ below (va_Qr post B (FR Z)) args s cells slots (FR Z)) (F0 m pc ls [.ref (ra Z a v)]) :=
  W.aret C.1 C.2.1 C.2.2.2.2.2.1 hty (Or.inr ⟨_, rfl⟩) (fun t ht hw => ⟨⟨u, ra Z a v, rfl, hp, hB t (z_wd C hW ht hw)⟩, hW.2.1.F ht⟩) hW.2.1.2.2 hd C.2.2.2.2.2.2.1
end ZL
theorem metZ {l : Launch} {y : MethodName} {cc : ByteArray} {maxL mc ms : Nat} {ret : Option FieldType} {rm : Room} {As : List Value} {Z : ZT} {h : Hp} {a : Nat → Nat} {g : PL} {Qc : Array Value → State → Outcome → State → Prop} (own : String) (hown : y.cls = own) (hpl : plainName y.cls = true) (hlen : (lg_sl As).length ≤ maxL)
    (body : ∀ (p : Program) (e : Env) (s : State) (m : MethodId) (args : Array Value) (below : List Frame) (meth : Method) (c : Code), CQ p s m args meth c cc own maxL ret Z → meth.name = y.name → XG Z h a g s.heap s.heap [] → ∀ ls : Array Slot, lv_has ls maxL (lv_args 0 As) → W p l e rm s m args below meth c s.heap [] 0 0 (MQ below Qc args s mc ms (FR Z)) (F0 m 0 ls [])) :
    Met l y (wY y cc maxL ret) rm (va_Pc As (WdP Z h a g)) Qc mc ms (FR Z) := by
  refine Met.ofW (cc := cc) (maxL := maxL) (ret := ret) hpl rfl ?_
  intro p e s m args below meth c s₁ B hml hv
  obtain ⟨rfl, hP, hK, hD, hz, hSX, hPX, hPW⟩ := hv
  have hts := atoms_spec (ws := wY y cc maxL ret) B.pre
  have hin : meth.name = y.name := (name_of_methodNamed B.named B.method).1
  have hl := lv_entry As (n := maxL) hlen
  rw [lg_entry_eq]
  generalize (lg_sl As ++ List.replicate (maxL - (lg_sl As).length) Slot.unset).toArray = ls at hl ⊢
  exact body p e s m _ below meth c ⟨B.exec, B.bytes, fun w hw => hts w (List.mem_cons_of_mem _ hw), by rw [← hown]; exact findClass_of_methodNamed B.named, hml, B.returns, B.notSynchronized, hK, hz, hSX, hPX⟩ hin ⟨hP, va_S.rf, hD, hPW⟩ ls hl
