/-! methods that throw: tag 0 is a return, 1, 2, 3 the exceptions -/
def exn : Nat → String
  | 1 => "java/lang/IndexOutOfBoundsException"
  | 2 => "java/lang/IllegalArgumentException"
  | _ => "java/lang/IllegalStateException"
def rmC (k c : Nat) : Room := { frames := 2 + k, cells := c, slots := 6 * c, locals := 50 + 50 * k }
theorem rm_okC {a b n maxL : Nat} (h : a < b) (hm : maxL ≤ 30) : RmOk (rmD a) (rmC b n) maxL := ⟨rfl, rfl, by show 2 + a + 1 ≤ 2 + b; omega, by show 8 + (maxL + 11) + (50 + 50 * a) ≤ 50 + 50 * b; omega⟩
def kn (t : Nat) : Nat := if t = 0 then 0 else 1
theorem kn_1 {t : Nat} (h : t ≠ 0) : kn t = 1 := if_neg h
theorem kn_0 {t : Nat} (h : t = 0) : kn t = 0 := if_pos h
theorem kn_thr {d t : Nat} (h : t ≠ 0) : 0 + 1 ≤ (rmC d (kn t)).cells ∧ 0 + 6 ≤ (rmC d (kn t)).slots := by
  rw [kn_1 h]; exact ⟨Nat.le_refl _, Nat.le_refl _⟩
theorem kn_thn {t : Nat} (h : t ≠ 0) : 0 + 1 ≤ kn t ∧ 0 + 6 ≤ 6 * kn t := by
  rw [kn_1 h]; exact ⟨Nat.le_refl _, Nat.le_refl _⟩
theorem kn_z {d t k : Nat} (h : t = 0) : 0 + kn t ≤ (rmC d k).cells ∧ 0 + 6 * kn t ≤ (rmC d k).slots := by
  rw [kn_0 h]; exact ⟨Nat.zero_le _, Nat.zero_le _⟩
theorem kn_s {d t : Nat} : 0 + kn t ≤ (rmC d (kn t)).cells ∧ 0 + 6 * kn t ≤ (rmC d (kn t)).slots := ⟨Nat.le_of_eq (Nat.zero_add _), Nat.le_of_eq (Nat.zero_add _)⟩
theorem kn_n {t : Nat} : 0 + kn t ≤ kn t ∧ 0 + 6 * kn t ≤ 6 * kn t := ⟨Nat.le_of_eq (Nat.zero_add _), Nat.le_of_eq (Nat.zero_add _)⟩
theorem rm_thr {d c : Nat} (h : 8 ≤ d) : 5 < (rmC d c).frames ∧ 90 ≤ (rmC d c).locals := ⟨by show 5 < 2 + d; omega, by show 90 ≤ 50 + 50 * d; omega⟩
def RmX (rm R : Room) (maxL mc : Nat) : Prop := rm.cells = mc ∧ rm.slots = 6 * mc ∧ rm.frames + 1 ≤ R.frames ∧ 8 + (maxL + 11) + rm.locals ≤ R.locals
theorem rm_okX {a b n k maxL : Nat} (h : a < b) (hm : maxL ≤ 30) : RmX (rmC a n) (rmC b k) maxL n := ⟨rfl, rfl, by show 2 + a + 1 ≤ 2 + b; omega, by show 8 + (maxL + 11) + (50 + 50 * a) ≤ 50 + 50 * b; omega⟩
abbrev XX (Z : ZT) (h : Hp) (g : va_W) (tag : Nat) : String → State → State → Prop := vx_X (fun (_ : Unit) => tag ≠ 0) (fun E _ t => E = exn tag ∧ va_P Z.2.1 vwCl (wl Z h g) t.heap) (FR Z)
def thNames : List String := ["java/lang/RuntimeException", "java/lang/Exception"]
def decs : List Cond := [.declares ⟨"java/lang/RuntimeException", "<init>", "(Ljava/lang/String;)V"⟩, .declares ⟨"java/lang/Exception", "<init>", "(Ljava/lang/String;)V"⟩, .declares ⟨"java/lang/Throwable", "<init>", "(Ljava/lang/String;)V"⟩]
theorem declares_ok {args : Array Value} {s : State} (hts : ∀ w ∈ TW, w.before args s = true) {x : MethodName} {b : ByteArray} {n : Nat} {r : Option FieldType} (hi : Cond.instanceMethod x ∈ TW) (hc : Cond.code x b n r ∈ TW) : (Cond.declares x).before args s = true := by
  obtain ⟨m, meth, hn, hm, hst, hab⟩ := Cond.instanceMethod_spec (hts _ hi)
  obtain ⟨meth', c, hm', -, -, -, -, -, -, hsig⟩ := Cond.code_spec hn (hts _ hc)
  cases hm.symm.trans hm'
  unfold Cond.before Cond.holds
  simp only [Cond.value]
  rw [hn]
  simp [hm, hst, hsig]
theorem decs_ok {args : Array Value} {s : State} (hts : ∀ w ∈ TW, w.before args s = true) : ∀ w ∈ decs, w.before args s = true := by
  intro w hw
  rcases List.mem_cons.mp hw with rfl | hw
  · exact declares_ok (b := prog_25_method_2_code) (n := 2) (r := none) hts (TW_of 690 (by decide +kernel) (by decide +kernel)) (TW_of 691 (by decide +kernel) (by decide +kernel))
  rcases List.mem_cons.mp hw with rfl | hw
  · exact declares_ok (b := prog_18_method_2_code) (n := 2) (r := none) hts (TW_of 693 (by decide +kernel) (by decide +kernel)) (TW_of 694 (by decide +kernel) (by decide +kernel))
  rcases List.mem_cons.mp hw with rfl | hw
  · exact declares_ok (b := prog_31_method_2_code) (n := 2) (r := none) hts (TW_of 696 (by decide +kernel) (by decide +kernel)) (TW_of 697 (by decide +kernel) (by decide +kernel))
  · cases hw
def THW (own : String) (ik ic : Nat) (cls : String) : Prop := Bundle.fit cls = true ∧ (∀ n ∈ thNames, Bundle.fit n = true) ∧ Cond.classLink own ik cls ∈ TW ∧ Cond.initialized cls ∈ TW ∧ (∀ w ∈ (vx_atS own ic cls thNames).filter goodWord, w ∈ lw_tbl) ∧ ((∀ w ∈ (vx_atS own ic cls thNames).filter (fun w => !goodWord w), w ∈ Cond.castable cls cls :: decs) ∧ (cls, cls) ∈ casts) ∧ (Cond.classLink own ik cls :: Cond.initialized cls :: vx_atS own ic cls thNames).all vx_ot = true
theorem metXX {l : Launch} {y : MethodName} {cc : ByteArray} {maxL n : Nat} {ret : Option FieldType} {rm : Room} {As : List Value} {Z : ZT} {h : Hp} {g : va_W} {Qc : Array Value → State → Outcome → State → Prop} {XC : String → State → State → Prop} (own : String) (hown : y.cls = own) (hpl : plainName y.cls = true) (hlen : (lg_sl As).length ≤ maxL)
    (body : ∀ (p : Program) (e : Env) (s : State) (m : MethodId) (args : Array Value) (below : List Frame) (meth : Method) (c : Code), CX p s m args meth c cc own maxL ret Z g → (∀ x ∈ c.exceptionTable.toList, False) → XW Z h g s.heap s.heap [] → ∀ ls : Array Slot, lv_has ls maxL (lv_args 0 As) → W p l e rm s m args below meth c s.heap [] 0 0 (vx_MQ below Qc XC args s n (6 * n) (FR Z)) (F0 m 0 ls [])) :
    vx_Met l y (wY y cc maxL ret) rm (va_Pc As (Wd Z h g)) Qc XC n (6 * n) (FR Z) := by
  refine vx_ofW (cc := cc) (maxL := maxL) (ret := ret) hpl rfl ?_
  intro p e s m args below meth c s₁ B hml hex hv
  obtain ⟨rfl, hP, hK, hD, hz, hSX⟩ := hv
  have hts := atoms_spec (ws := wY y cc maxL ret) B.pre
  have hl := lv_entry As (n := maxL) hlen
  rw [lg_entry_eq]
  generalize (lg_sl As ++ List.replicate (maxL - (lg_sl As).length) Slot.unset).toArray = ls at hl ⊢
  exact body p e s m _ below meth c ⟨B.exec, B.bytes, fun w hw => hts w (List.mem_cons_of_mem _ hw), by rw [← hown]; exact findClass_of_methodNamed B.named, hml, B.returns, B.notSynchronized, hK, hD, hz, hSX⟩ hex ⟨hP, va_S.rf⟩ ls hl
section XE
variable {p : Program} {l : Launch} {e : Env} {R : Room} {s : State} {m : MethodId} {args : Array Value} {below : List Frame} {meth : Method} {c : Code} {H : Heap} {locs : List Loc} {cells slots : Nat} {Q : State → Prop} {cc bytes : ByteArray} {pc nL maxL n idx i mc : Nat} {ret rt : Option FieldType} {ls : Array Slot} {rest st As : List Value} {Z : ZT} {h h1 : Hp} {g g1 : va_W} {own : String} {y : MethodName} {rm : Room} {lv : List (Nat × Value)}
theorem x_runVx (C : CX p s m args meth c cc own nL ret Z g) (hW : XW Z h g s.heap H locs) (hl : lv_has ls nL lv) {o ci N : Nat} {T : u_T} {fs : List Value} {Cn : String} {Qc : Array Value → State → Outcome → State → Prop} {XC : String → State → State → Prop} (ho : (wl Z h g)[o]? = some (Z.1 o, .inr (ci, fs))) (hc : vwCl[ci]? = some (Cn, T, N)) (hcn : y.cls = Cn)
    (hm : vx_Met l y (wY y bytes maxL rt) rm (va_Pc (.ref (Z.1 o) :: As) (Wd Z h g)) Qc XC mc (6 * mc) (FR Z)) (hw : CWd own idx y bytes maxL rt n) (hi : Cond.instanceMethod y ∈ TW) (hs : Cond.selects y.cls y y ∈ TW) (hr : RmX rm R maxL mc) (hcs : cells + mc ≤ R.cells ∧ slots + 6 * mc ≤ R.slots) (hn : As.length = n) (hst : st = As.reverse ++ .ref (Z.1 o) :: rest) (hcat : (rest.map fun v => v.category).sum ≤ 8) (hd : decode cc pc = .ok (.invokevirtual idx, 3)) :
    vx_Run p l e R s m args below meth c H locs cells slots mc (6 * mc) (F0 m pc ls st) rest (Qc (Value.ref (Z.1 o) :: As).toArray) XC (FR Z) := by
  have hts := C.2.2.1
  refine vx_runV (bytes := bytes) (maxL := maxL) (ret := rt) (As := As) (rest := rest) (b := Z.1 o) (C := Cn) (n := n) ⟨C.1, C.2.1, C.2.2.2.2.1, C.2.2.2.1, hts⟩ hm ?_ ⟨Wd_blind, va_recv C.2.2.2.2.2.2.2.1 hW.1 hc ho, (x_pre C hW).2⟩ rfl hn hl.1 hst (lv_room hcat) hd ⟨hcs.1, hcs.2⟩
  subst hcn
  exact ⟨callB_of n hts (wY_good hw.2.1) rfl hr.1 hr.2.1 (hts _ hw.2.2.1) (hts _ hw.1) hw.2.2.2 hr.2.2, hts _ hi, hts _ hs⟩
theorem x_thN {a : Array Value} {st0 : List Value} {tag : Nat} (hW : XW Z h g s.heap H locs) (hr : vx_Run p l e R s m args below meth c H locs cells slots (kn tag) (6 * kn tag) (F0 m pc ls st0) rest (va_Qv (fun (_ : Unit) => tag = 0) (fun _ => Wd Z h g) (FR Z) a) (XX Z h g tag) (FR Z)) (hn : tag = 0)
    (kk : ∀ (H1 : Heap) (locs1 : List Loc), XW Z h g s.heap H1 locs1 → W p l e R s m args below meth c H1 locs1 cells slots Q (F0 m (pc + 3) ls rest)) : W p l e R s m args below meth c H locs cells slots Q (F0 m pc ls st0) := by
  subst hn
  exact vx_callv hr hW.2 (fun _ _ q => q) (fun _ q => q) (fun _ _ q => q) (fun E ce q9 u t H1 locs1 ht hvm hp hB _ _ hS _ _ _ => absurd rfl hp) (fun u t H1 locs1 ht hvm hp hB _ _ hS => kk H1 locs1 ⟨by rw [← ht]; exact hB.1, hS⟩)
theorem x_thE {a : Array Value} {st0 : List Value} {tag n ns : Nat} {Qc : Array Value → State → Outcome → State → Prop} (C : CX p s m args meth c cc own nL ret Z g) (hex : ∀ x ∈ c.exceptionTable.toList, False) (hW : XW Z h g s.heap H locs) (hr : vx_Run p l e R s m args below meth c H locs cells slots mc (6 * mc) (F0 m pc ls st0) rest (va_Qv (fun (_ : Unit) => tag = 0) (fun _ => Wd Z h g) (FR Z) a) (XX Z h g tag) (FR Z)) (hn : ¬ tag = 0) (hc : cells + mc ≤ n ∧ slots + 6 * mc ≤ ns) :
    W p l e R s m args below meth c H locs cells slots (vx_MQ below Qc (XX Z h g tag) args s n ns (FR Z)) (F0 m pc ls st0) :=
  vx_callv hr hW.2 (fun _ _ q => q) (fun _ q => q) (fun _ _ q => q) (fun E ce q9 u t H1 locs1 ht hvm hp hB _ _ hS hce hcv hcl => vx_out (fun x hx => (hex x hx).elim) C.2.2.2.2.2.2.1 hce hcv hcl (fun t' ht' hvm' => ⟨(), hp, ⟨hB.1, by rw [ht', ← ht]; exact hB.2⟩, hS.F ht'⟩) hS.2.2 hc.1 hc.2) (fun u t H1 locs1 ht hvm hp hB _ _ hS => absurd hp hn)
theorem x_throw {tag n ns ik is ic : Nat} {tt : String} {Qc : Array Value → State → Outcome → State → Prop} (C : CX p s m args meth c cc own nL ret Z g) (hex : ∀ x ∈ c.exceptionTable.toList, False) (hlt : l.stackTraces = false) (hW : XW Z h g s.heap H locs) (hl : lv_has ls nL lv) (htag : tag ≠ 0) (hw : THW own ik ic (exn tag)) (hm : (own, is, tt, i) ∈ strs)
    (d0 : decode cc pc = .ok (.new ik, 3)) (d3 : decode cc (pc + 3) = .ok (.dup, 1)) (d4 : decode cc (pc + 4) = .ok (.ldc is, 2)) (d6 : decode cc (pc + 6) = .ok (.invokespecial ic, 3)) (d9 : decode cc (pc + 9) = .ok (.athrow, 1)) (hR : 5 < R.frames ∧ 90 ≤ R.locals) (hcat : (rest.map fun v => v.category).sum ≤ 8) (hcs : cells + 1 ≤ R.cells ∧ slots + 6 ≤ R.slots) (hn : cells + 1 ≤ n ∧ slots + 6 ≤ ns) :
    W p l e R s m args below meth c H locs cells slots (vx_MQ below Qc (XX Z h g tag) args s n ns (FR Z)) (F0 m pc ls rest) := by
  obtain ⟨w1, w2, w3, w4, w5, w6, w7⟩ := hw
  have hts := C.2.2.1
  have S := C.2.2.2.2.2.2.2.2.2.2
  exact vx_throwS C.1 C.2.1 hlt (names := thNames) C.2.2.2.1 w1 w2 (hts _ w3) (hts _ w4) (S.2.1 _ hm) (vx_hat (fun w q => hts _ (List.mem_filter.mpr ⟨List.mem_append_left _ (w5 w q), (List.mem_filter.mp q).2⟩)) w6.1 (fun w q => by
    rcases List.mem_cons.mp q with rfl | q
    · exact va_Nw.use rfl (S.2.2.2.2.2.2.1 _ w6.2)
    · exact decs_ok hts _ q)) (fun w q => List.all_eq_true.mp w7 w q) S.2.2.2.2.1 S.2.2.2.2.2.1 hW.2 (hl.1.trans C.2.2.2.2.1.symm) d0 d3 d4 d6 d9 (fun x hx => (hex x hx).elim) (by show 2 + 3 < R.frames; omega) (by show _ + (13 * (2 + 1) + 43) ≤ R.locals; omega) hcs.1 hcs.2 C.2.2.2.2.2.2.1
    (fun t hvm hz hq => ⟨(), htag, ⟨rfl, hW.1.kept (fun k q hk => hq _ (hW.1 k q hk).lt)⟩, Nat.le_trans hW.2.1 hz, fun q h1 h2 => by rw [hq q (Nat.lt_of_lt_of_le h1 hW.2.1)]; exact hW.2.2.1 q h1 h2⟩) hW.2.2.2 hn.1 hn.2
theorem x_throwW {tag n ns ik is ic : Nat} {tt : String} {Qc : Array Value → State → Outcome → State → Prop} (C : CX p s m args meth c cc own nL ret Z g) (hex : ∀ x ∈ c.exceptionTable.toList, False) (hlt : l.stackTraces = false) (hW : XW Z h g s.heap H locs) (hl : lv_has ls nL lv) (htag : tag ≠ 0) (hw : THW own ik ic (exn tag)) (hm : (own, is, tt, i) ∈ strs)
    (d0 : decode cc pc = .ok (.new ik, 3)) (d3 : decode cc (pc + 3) = .ok (.dup, 1)) (d4 : decode cc (pc + 4) = .ok (.ldc_w is, 3)) (d7 : decode cc (pc + 7) = .ok (.invokespecial ic, 3)) (d10 : decode cc (pc + 10) = .ok (.athrow, 1)) (hR : 5 < R.frames ∧ 90 ≤ R.locals) (hcat : (rest.map fun v => v.category).sum ≤ 8) (hcs : cells + 1 ≤ R.cells ∧ slots + 6 ≤ R.slots) (hn : cells + 1 ≤ n ∧ slots + 6 ≤ ns) :
    W p l e R s m args below meth c H locs cells slots (vx_MQ below Qc (XX Z h g tag) args s n ns (FR Z)) (F0 m pc ls rest) := by
  obtain ⟨w1, w2, w3, w4, w5, w6, w7⟩ := hw
  have hts := C.2.2.1
  have S := C.2.2.2.2.2.2.2.2.2.2
  exact vx_throwSW C.1 C.2.1 hlt (names := thNames) C.2.2.2.1 w1 w2 (hts _ w3) (hts _ w4) (S.2.1 _ hm) (vx_hat (fun w q => hts _ (List.mem_filter.mpr ⟨List.mem_append_left _ (w5 w q), (List.mem_filter.mp q).2⟩)) w6.1 (fun w q => by
    rcases List.mem_cons.mp q with rfl | q
    · exact va_Nw.use rfl (S.2.2.2.2.2.2.1 _ w6.2)
    · exact decs_ok hts _ q)) (fun w q => List.all_eq_true.mp w7 w q) S.2.2.2.2.1 S.2.2.2.2.2.1 hW.2 (hl.1.trans C.2.2.2.2.1.symm) d0 d3 d4 d7 d10 (fun x hx => (hex x hx).elim) (by show 2 + 3 < R.frames; omega) (by show _ + (13 * (2 + 1) + 43) ≤ R.locals; omega) hcs.1 hcs.2 C.2.2.2.2.2.2.1
    (fun t hvm hz hq => ⟨(), htag, ⟨rfl, hW.1.kept (fun k q hk => hq _ (hW.1 k q hk).lt)⟩, Nat.le_trans hW.2.1 hz, fun q h1 h2 => by rw [hq q (Nat.lt_of_lt_of_le h1 hW.2.1)]; exact hW.2.2.1 q h1 h2⟩) hW.2.2.2 hn.1 hn.2
end XE
theorem th_X10_76 : THW RX10 72 76 (exn 2) := ⟨by decide +kernel, by decide +kernel, TW_of 965 (by decide +kernel) (by decide +kernel), TW_of 39 (by decide +kernel) (by decide +kernel), by decide +kernel, by decide +kernel, by decide +kernel⟩
theorem th_X10_356 : THW RX10 352 356 (exn 1) := ⟨by decide +kernel, by decide +kernel, TW_of 1009 (by decide +kernel) (by decide +kernel), TW_of 43 (by decide +kernel) (by decide +kernel), by decide +kernel, by decide +kernel, by decide +kernel⟩
theorem th_X10_299 : THW RX10 295 299 (exn 3) := ⟨by decide +kernel, by decide +kernel, TW_of 1167 (by decide +kernel) (by decide +kernel), TW_of 44 (by decide +kernel) (by decide +kernel), by decide +kernel, by decide +kernel, by decide +kernel⟩
