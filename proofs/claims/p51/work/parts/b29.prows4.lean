/-! rows over the pool: Math, Object's constructor, texts by name, a method that a subclass gives, asks -/
theorem rm_m {b n : Nat} (_h : 1 ≤ b) : 1 ≤ (rmP b n).frames ∧ 21 ≤ (rmP b n).locals := ⟨by show 1 ≤ 2 + b; omega, by show 21 ≤ 50 + 50 * b; omega⟩
theorem rm_o {b n : Nat} (_h : 1 ≤ b) : 1 ≤ (rmP b n).frames ∧ 12 ≤ (rmP b n).locals := ⟨by show 1 ≤ 2 + b; omega, by show 12 ≤ 50 + 50 * b; omega⟩
theorem rm_k {b n : Nat} (_h : 1 ≤ b) : 1 ≤ (rmP b n).frames ∧ 22 ≤ (rmP b n).locals := ⟨by show 1 ≤ 2 + b; omega, by show 22 ≤ 50 + 50 * b; omega⟩
theorem nfw : 8 + (nativeFrameWords "java/lang/System" "arraycopy" 5 + 11) ≤ 50 := by decide
theorem rm_cp {b n : Nat} (_h : 1 ≤ b) : 1 ≤ (rmP b n).frames ∧ 8 + (nativeFrameWords "java/lang/System" "arraycopy" 5 + 11) ≤ (rmP b n).locals := ⟨by show 1 ≤ 2 + b; omega, Nat.le_trans nfw (by show 50 ≤ 50 + 50 * b; omega)⟩
theorem rm_c00 {c n b : Nat} (h : c ≤ n) : c + 0 ≤ (rmP b n).cells ∧ 600 * c + 0 ≤ (rmP b n).slots := ⟨h, by show 600 * c ≤ 600 * n; omega⟩
theorem rm_okA {a b k k2 : Nat} (h : a < b) : RmK (rmP a k) (rmP b k2) 6 k (600 * k) := rm_okP h (by decide)
theorem kn_le {t : Nat} : kn t ≤ 1 := by unfold kn; split <;> omega
theorem rm_a0 {c n b t : Nat} (ht : t = 0) (h : c ≤ n) : c + kn t ≤ (rmP b n).cells ∧ 600 * c + 600 * kn t ≤ (rmP b n).slots := by
  rw [kn_0 ht]
  exact rm_c00 h
theorem rm_a1 {c n b t : Nat} (h : c + 1 ≤ n) : c + kn t ≤ (rmP b n).cells ∧ 600 * c + 600 * kn t ≤ (rmP b n).slots := by
  have := kn_le (t := t)
  exact ⟨by show c + kn t ≤ n; omega, by show 600 * c + 600 * kn t ≤ 600 * n; omega⟩
theorem kn_w0 {c t : Nat} (ht : t = 0) : c + kn t ≤ c := by rw [kn_0 ht]; exact Nat.le_refl _
theorem kn_w1 {c t : Nat} (ht : t = 0) : 600 * c + 600 * kn t ≤ 600 * c := by rw [kn_0 ht]; exact Nat.le_refl _
theorem kn_v0 {c t : Nat} : c + kn t ≤ c + 1 := by have := kn_le (t := t); omega
theorem kn_v1 {c t : Nat} : 600 * c + 600 * kn t ≤ 600 * (c + 1) := by have := kn_le (t := t); omega
/-- a call to a method that a subclass gives: x is named, y is run -/
def CWX (own : String) (idx : Nat) (x y : MethodName) (bx bytes : ByteArray) (nx maxL : Nat) (rx ret : Option FieldType) (n : Nat) (Cn : String) : Prop :=
  Cond.methodLink own idx x ∈ TW ∧ Cond.code y bytes maxL ret ∈ TW ∧ Cond.initialized y.cls ∈ TW ∧ Cond.sameMethod x.cls x.cls x.name x.desc ∈ TW ∧ Cond.instanceMethod x ∈ TW ∧ Cond.code x bx nx rx ∈ TW ∧ Cond.instanceMethod y ∈ TW ∧ Cond.selects Cn x y ∈ TW ∧ (x.cls ≠ "java/lang/invoke/MethodHandle" ∧ x.cls ≠ "java/lang/invoke/VarHandle" ∧ (parseMethodDescriptor x.desc).map (fun d => d.parameters.length) = some n)
section ZP
variable {p : Program} {l : Launch} {e : Env} {R : Room} {s : State} {m : MethodId} {args : Array Value} {below : List Frame} {meth : Method} {c : Code} {H : Heap} {locs : List Loc} {cells slots : Nat} {Q : State → Prop} {cc bytes bx : ByteArray} {pc nL tgt maxL n nx idx mc ms : Nat} {ret rt rx : Option FieldType} {ls : Array Slot} {rest st As : List Value} {Z : ZT} {h h1 : Hp} {a a0 : Nat → Nat} {g g0 g1 : PL} {own : String} {rm : Room} {lv : List (Nat × Value)} {x y : MethodName} {Qc : Array Value → State → Outcome → State → Prop} {hh : List (Nat × Nat × Nat × Nat)}
theorem z_max (C : CQ p s m args meth c cc own nL ret Z) (hl : lv_has ls nL lv) {x y : Int32} (hk : Cond.methodLink own idx Lib.Math.max.name ∈ TW) (hR : 1 ≤ R.frames ∧ 21 ≤ R.locals) (hcs : cells ≤ R.cells ∧ slots ≤ R.slots) (hcat : (rest.map fun v => v.category).sum ≤ 8) (hd : decode cc pc = .ok (.invokestatic idx, 3)) (kk : W p l e R s m args below meth c H locs cells slots Q (F0 m (pc + 3) ls (.int (imax x y) :: rest))) : W p l e R s m args below meth c H locs cells slots Q (F0 m pc ls (.int y :: .int x :: rest)) :=
  va_mmax C.1 C.2.1 (C.2.2.2.2.1.trans hl.1.symm) C.2.2.2.1 (C.2.2.1 _ hk) (C.2.2.1 _ wj_max.1) (C.2.2.1 _ wj_max.2.1) (C.2.2.1 _ wj_max.2.2) hR.1 (by omega) hcs.1 hcs.2 hd kk
theorem z_min (C : CQ p s m args meth c cc own nL ret Z) (hl : lv_has ls nL lv) {x y : Int32} (hk : Cond.methodLink own idx Lib.Math.min.name ∈ TW) (hR : 1 ≤ R.frames ∧ 21 ≤ R.locals) (hcs : cells ≤ R.cells ∧ slots ≤ R.slots) (hcat : (rest.map fun v => v.category).sum ≤ 8) (hd : decode cc pc = .ok (.invokestatic idx, 3)) (kk : W p l e R s m args below meth c H locs cells slots Q (F0 m (pc + 3) ls (.int (imin x y) :: rest))) : W p l e R s m args below meth c H locs cells slots Q (F0 m pc ls (.int y :: .int x :: rest)) :=
  va_mmin C.1 C.2.1 (C.2.2.2.2.1.trans hl.1.symm) C.2.2.2.1 (C.2.2.1 _ hk) (C.2.2.1 _ wj_min.1) (C.2.2.1 _ wj_min.2.1) (C.2.2.1 _ wj_min.2.2) hR.1 (by omega) hcs.1 hcs.2 hd kk
theorem z_objX (hi : Cond.instanceMethod objectInit ∈ TW) (hc : Cond.code objectInit ⟨#[0xb1]⟩ 1 none ∈ TW) (C : CQ p s m args meth c cc own nL ret Z) (hl : lv_has ls nL lv) (hk : Cond.methodLink own idx objectInit ∈ TW) {b : Nat} (hd : decode cc pc = .ok (.invokespecial idx, 3)) (hR : 1 ≤ R.frames ∧ 12 ≤ R.locals) (kk : W p l e R s m args below meth c H locs cells slots Q (F0 m (pc + 3) ls [])) : W p l e R s m args below meth c H locs cells slots Q (F0 m pc ls [.ref b]) :=
  W.objInit C.1 C.2.1 C.2.2.2.1 (C.2.2.1 _ hk) (C.2.2.1 _ hi) (C.2.2.1 _ hc) rfl (by rw [C.2.2.2.2.1]; exact hl.1) rfl hd hR.1 hR.2 kk
theorem z_ldcS (C : CQ p s m args meth c cc own nL ret Z) {x i index : Nat} {t : String} (hx : x = 1000000 + i) (hm : (own, index, t, 100 + i) ∈ strs) (hd : decode cc pc = .ok (.ldc index, 2)) (k : W p l e R s m args below meth c H locs cells slots Q (F0 m (pc + 2) ls (.ref (ra Z a x) :: rest))) : W p l e R s m args below meth c H locs cells slots Q (F0 m pc ls rest) := by
  subst hx
  have e : ra Z a (1000000 + i) = Z.2.2.2.2 (2 * (100 + i)) := by
    rw [ra_T (by omega)]
    exact congrArg Z.2.2.2.2 (by omega)
  rw [e] at k
  exact va_ldcS C.1 C.2.1 C.2.2.2.1 (C.2.2.2.2.2.2.2.2.2.1.2.1 _ hm) hd k
theorem z_runX (C : CQ p s m args meth c cc own nL ret Z) (hW : XG Z h a g s.heap H locs) (hl : lv_has ls nL lv) {o kd ci N : Nat} {T : u_T} {fs : List Value} {Cn : String} (ho : gk g o kd = true) (he : celP Z a kd (gl g o) (g.2.2 o) = .inr (ci, fs)) (hc : vwCl[ci]? = some (Cn, T, N)) (hm : Met l y (wY y bytes maxL rt) rm (va_Pc (.ref (ra Z a o) :: As) (WdP Z h a g)) Qc mc ms (FR Z)) (hw : CWX own idx x y bx bytes nx maxL rx rt n Cn) (hr : RmK rm R maxL mc ms) (hcs : cells + mc ≤ R.cells ∧ slots + ms ≤ R.slots) (hn : As.length = n) (hst : st = As.reverse ++ .ref (ra Z a o) :: rest) (hcat : (rest.map fun v => v.category).sum ≤ 8) (hd : decode cc pc = .ok (.invokevirtual idx, 3)) : va_Run p l e R s m args below meth c H locs cells slots mc ms (F0 m pc ls st) rest (Qc (Value.ref (ra Z a o) :: As).toArray) (FR Z) := by
  have hts := C.2.2.1
  obtain ⟨w1, w2, w3, w4, w5, w6, w7, w8, d1, d2, d3⟩ := hw
  have cw : va_CU R s args own Cn x.cls idx x y bytes maxL rt (wY y bytes maxL rt) rm mc ms n := by
    refine ⟨⟨hr.1, hr.2.1, hr.2.2.1, hr.2.2.2, pay_in hts (wY_good w2), List.mem_cons_self⟩, hts _ w2, hts _ w3, ⟨d1, d2⟩, fun sig q => ?_, hts _ w1, hts _ w4, va_Decl.of (hts _ w5) (hts _ w6), hts _ w8, hts _ w7⟩
    rw [q] at d3
    exact (Option.some.inj d3).symm
  exact va_runU (bytes := bytes) (maxL := maxL) (ret := rt) (As := As) (rest := rest) (b := ra Z a o) (C := Cn) (n := n) ⟨C.1, C.2.1, C.2.2.2.2.1, C.2.2.2.1, hts⟩ hm cw ⟨WdP_blind, va_recv C.2.2.2.2.2.2.2.1 hW.1 hc (pk_at hW.2.2.2 ho he), (z_pre C hW).2⟩ rfl hn hl.1 hst (lv_room hcat) hd hcs
def wYW (y : MethodName) (b : ByteArray) (n : Nat) (r : Option FieldType) (hh : List (Nat × Nat × Nat × Nat)) : List Cond := .codeWith y b n r hh :: TW
theorem wYW_good {b : ByteArray} {n : Nat} {r : Option FieldType} (h : Cond.codeWith y b n r hh ∈ TW) : GoodIn TW (wYW y b n r hh) := by
  intro w hw
  have hm : w ∈ TW := by
    rcases List.mem_cons.mp hw with rfl | q
    · exact h
    · exact q
  exact ⟨hm, good_of_word (List.mem_filter.mp hm).2⟩
theorem z_runSW (C : CQ p s m args meth c cc own nL ret Z) (hW : XG Z h a g s.heap H locs) (hl : lv_has ls nL lv)
    (hm : Met l y (wYW y bytes maxL rt hh) rm (va_Pc As (WdP Z h a g)) Qc mc ms (FR Z)) (hcd : Cond.codeWith y bytes maxL rt hh ∈ TW) (hstt : Cond.static y ∈ TW) (hlk : (Cond.methodLink own idx y ∈ TW ∧ Cond.initialized y.cls ∈ TW) ∧ (y.cls ≠ "java/lang/invoke/MethodHandle" ∧ y.cls ≠ "java/lang/invoke/VarHandle" ∧ (parseMethodDescriptor y.desc).map (fun d => d.parameters.length) = some n))
    (hr : RmK rm R maxL mc ms) (hcs : cells + mc ≤ R.cells ∧ slots + ms ≤ R.slots) (hn : As.length = n) (hst : st = As.reverse ++ rest) (hcat : (rest.map fun v => v.category).sum ≤ 8) (hd : decode cc pc = .ok (.invokestatic idx, 3)) :
    va_Run p l e R s m args below meth c H locs cells slots mc ms (F0 m pc ls st) rest (Qc As.toArray) (FR Z) := by
  have hts := C.2.2.1
  refine vx_runSW (hh := hh) (bytes := bytes) (maxL := maxL) (ret := rt) (As := As) (rest := rest) (n := n) ⟨C.1, C.2.1, C.2.2.2.2.1, C.2.2.2.1, hts⟩ hm ⟨⟨hr.1, hr.2.1, hr.2.2.1, hr.2.2.2, pay_in hts (wYW_good hcd), List.mem_cons_self⟩, hts _ hcd, hts _ hlk.1.2, ⟨hlk.2.1, hlk.2.2.1⟩, fun sig hq => ?_, hts _ hlk.1.1, hts _ hstt⟩ (z_pre C hW) rfl hn hl.1 hst (lv_room hcat) hd hcs
  have h2 := hlk.2.2.2
  rw [hq] at h2
  exact (Option.some.inj h2).symm
end ZP
