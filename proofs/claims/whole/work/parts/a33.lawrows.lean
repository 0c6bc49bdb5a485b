/-! the law's own methods: they catch -/
def wYW (y : MethodName) (b : ByteArray) (n : Nat) (r : Option FieldType) (hh : List (Nat × Nat × Nat × Nat)) : List Cond := .codeWith y b n r hh :: TW
theorem wYW_good {y : MethodName} {b : ByteArray} {n : Nat} {r : Option FieldType} {hh : List (Nat × Nat × Nat × Nat)} (h : Cond.codeWith y b n r hh ∈ TW) : GoodIn TW (wYW y b n r hh) := by
  intro w hw
  have hm : w ∈ TW := by
    rcases List.mem_cons.mp hw with rfl | q
    · exact h
    · exact q
  exact ⟨hm, good_of_word (List.mem_filter.mp hm).2⟩
theorem metXW {l : Launch} {y : MethodName} {cc : ByteArray} {maxL mc ms : Nat} {ret : Option FieldType} {hh : List (Nat × Nat × Nat × Nat)} {rm : Room} {As : List Value} {Z : ZT} {h g : Hp} {Qc : Array Value → State → Outcome → State → Prop} (own : String) (hown : y.cls = own) (hpl : plainName y.cls = true) (hlen : (lg_sl As).length ≤ maxL)
    (body : ∀ (p : Program) (e : Env) (s : State) (m : MethodId) (args : Array Value) (below : List Frame) (meth : Method) (c : Code), CX p s m args meth c cc own maxL ret Z → c.exceptionTable.toList = tableOf hh → XW Z h g s.heap s.heap [] → ∀ ls : Array Slot, lv_has ls maxL (lv_args 0 As) → W p l e rm s m args below meth c s.heap [] 0 0 (MQ below Qc args s mc ms (FR Z)) (F0 m 0 ls [])) :
    Met l y (wYW y cc maxL ret hh) rm (va_Pc As (Wd Z h g)) Qc mc ms (FR Z) := by
  refine MetFree.of_bodyS (code := cc) (maxLocals := maxL) (ret := ret) hpl ?_ ?_
  · intro args s m hq hn
    obtain ⟨m9, meth, c, hn9, h1, h2, h3, h4, -, h5, h6, -⟩ := Cond.codeWith_spec (atoms_spec (ws := wYW y cc maxL ret hh) hq _ List.mem_cons_self)
    cases hn.symm.trans hn9
    exact ⟨meth, c, h1, h2, h3, h4, h5, h6⟩
  · intro p e s m args below meth c s₁ B hml hv _
    have hh0 : s₁.heap = s.heap := by rw [B.state]; rfl
    obtain ⟨rfl, hP, hK, hD, hz, hSX⟩ := hv
    have hts := atoms_spec (ws := wYW y cc maxL ret hh) B.pre
    have htab := vx_table (x := y) B (hts _ List.mem_cons_self)
    have hl := lv_entry As (n := maxL) hlen
    have body' : ∀ ls : Array Slot, lv_has ls maxL (lv_args 0 As) → W p l e rm s m As.toArray below meth c s.heap [] 0 0 (MQ below Qc As.toArray s mc ms (FR Z)) (F0 m 0 ls []) := body p e s m _ below meth c ⟨B.exec, B.bytes, fun w hw => hts w (List.mem_cons_of_mem _ hw), by rw [← hown]; exact findClass_of_methodNamed B.named, hml, B.returns, B.notSynchronized, hK, hD, hz, hSX⟩ htab ⟨hP, va_S.rf⟩
    have K : W p l e rm s m As.toArray below meth c s.heap [] 0 0 (MQ below Qc As.toArray s mc ms (FR Z)) (entryFrame m As.toArray maxL) := by
      rw [lg_entry_eq]
      exact body' _ hl
    obtain ⟨t, a1, o, b1, b2, b3⟩ := K s₁ hh0 (Stand.of_body B)
    exact ⟨t, o, a1, b1, b2, ⟨b3.1, b3.2⟩⟩
section XT
variable {p : Program} {l : Launch} {e : Env} {R : Room} {s : State} {m : MethodId} {args : Array Value} {below : List Frame} {meth : Method} {c : Code} {H : Heap} {locs : List Loc} {cells slots : Nat} {Q : State → Prop} {cc bytes : ByteArray} {pc nL maxL n idx i mc ms : Nat} {ret rt : Option FieldType} {ls : Array Slot} {rest st As : List Value} {Z : ZT} {h g h1 g1 : Hp} {own : String} {y : MethodName} {rm : Room} {lv : List (Nat × Value)}
theorem x_tryI {v : Int32} {a : Array Value} {st0 : List Value} {tag : Nat} (hW : XW Z h g s.heap H locs) (hr : vx_Run p l e R s m args below meth c H locs cells slots mc (6 * mc) (F0 m pc ls st0) rest (va_Qi (fun r (_ : Unit) => tag = 0 ∧ r = v) (fun _ => Wd Z h1 g1) (FR Z) a) (XX Z h1 g1 tag) (FR Z))
    (kx : tag ≠ 0 → ∀ (H1 : Heap) (locs1 : List Loc) (q : Nat) (ce : Cell), XW Z h1 g1 s.heap H1 locs1 → H1[q]? = some ce → ce.vm = .none → s.vm.findClass (exn tag) = some ce.cls → vx_W p l e R s m args below meth c H1 locs1 (cells + mc) (slots + 6 * mc) Q (F0 m pc ls rest) q)
    (kk : tag = 0 → ∀ (H1 : Heap) (locs1 : List Loc), XW Z h1 g1 s.heap H1 locs1 → W p l e R s m args below meth c H1 locs1 (cells + mc) (slots + 6 * mc) Q (F0 m (pc + 3) ls (.int v :: rest))) : W p l e R s m args below meth c H locs cells slots Q (F0 m pc ls st0) :=
  vx_calli hr hW.2 (fun _ _ q => q) (fun _ q => q) (fun _ _ q => q) (fun E ce q9 u t H1 locs1 ht hvm hp hB _ _ hS hce hcv hcl => by
    obtain ⟨rfl, hP⟩ := hB
    exact kx hp H1 locs1 q9 ce ⟨by rw [← ht]; exact hP, hS⟩ hce hcv hcl) (fun r u t H1 locs1 ht hvm hp hB _ _ hS => by
    obtain ⟨h0, rfl⟩ := hp
    exact kk h0 H1 locs1 ⟨by rw [← ht]; exact hB.1, hS⟩)
/-- the first handler takes it -/
theorem x_catch1 {q st1 en hd ct tag : Nat} {ce : Cell} {suf : List (Nat × Nat × Nat × Nat)} (C : CX p s m args meth c cc own nL ret Z) (htab : c.exceptionTable.toList = tableOf ((st1, en, hd, ct) :: suf)) (hcov : st1 ≤ pc ∧ pc < en) (h0 : ct ≠ 0) (hlink : Cond.classLink own ct (exn tag) ∈ TW) (hcast : (exn tag, exn tag) ∈ casts) (hcell : H[q]? = some ce) (hv : ce.vm = .none) (hcl : s.vm.findClass (exn tag) = some ce.cls)
    (kk : W p l e R s m args below meth c H locs cells slots Q (F0 m hd ls [.ref q])) : vx_W p l e R s m args below meth c H locs cells slots Q (F0 m pc ls rest) q :=
  vx_catch C.2.2.2.1 [] ⟨st1, en, hd, ct⟩ (tableOf suf) htab (fun z hz => absurd hz List.not_mem_nil) (by unfold covers; simp [hcov.1, hcov.2]) h0 (C.2.2.1 _ hlink) (va_Nw.use rfl (C.2.2.2.2.2.2.2.2.2.2.2.2.2.2.2.2.1 _ hcast)) hcell hv hcl kk
/-- the second handler takes it -/
theorem x_catch2 {q st1 en hd ct st2 en2 hd2 ct2 tag tag2 : Nat} {ce : Cell} {suf : List (Nat × Nat × Nat × Nat)} (C : CX p s m args meth c cc own nL ret Z) (htab : c.exceptionTable.toList = tableOf ((st2, en2, hd2, ct2) :: (st1, en, hd, ct) :: suf)) (hcov : st1 ≤ pc ∧ pc < en) (h0 : ct ≠ 0) (h2 : ct2 ≠ 0) (hlink : Cond.classLink own ct (exn tag) ∈ TW) (hlink2 : Cond.classLink own ct2 (exn tag2) ∈ TW) (hcast : (exn tag, exn tag) ∈ casts) (hn : (exn tag, exn tag2) ∈ ncasts) (hcell : H[q]? = some ce) (hv : ce.vm = .none) (hcl : s.vm.findClass (exn tag) = some ce.cls)
    (kk : W p l e R s m args below meth c H locs cells slots Q (F0 m hd ls [.ref q])) : vx_W p l e R s m args below meth c H locs cells slots Q (F0 m pc ls rest) q :=
  vx_catch C.2.2.2.1 [⟨st2, en2, hd2, ct2⟩] ⟨st1, en, hd, ct⟩ (tableOf suf) htab (fun z hz => by
    rw [List.mem_singleton] at hz
    subst hz
    exact Or.inr ⟨h2, _, C.2.2.1 _ hlink2, C.2.2.2.2.2.2.2.2.2.2.2.2.2.2.2.2.2 _ hn⟩) (by unfold covers; simp [hcov.1, hcov.2]) h0 (C.2.2.1 _ hlink) (va_Nw.use rfl (C.2.2.2.2.2.2.2.2.2.2.2.2.2.2.2.2.1 _ hcast)) hcell hv hcl kk
/-- the answer into out[0] -/
theorem x_outst (hm : Z.2.2.2.2 1000 = 1) (C : CX p s m args meth c cc own nL ret Z) (hW : XW Z h g s.heap H locs) {v : Int32} {w : Int64} (hw : w = v.toInt64) (hd : decode cc pc = .ok (.lastore, 1)) (k : ∀ (H1 : Heap) (locs1 : List Loc), XW Z h (up g 145 0 v) s.heap H1 locs1 → W p l e R s m args below meth c H1 locs1 cells slots Q (F0 m (pc + 1) ls rest)) : W p l e R s m args below meth c H locs cells slots Q (F0 m pc ls (.long w :: .int 0 :: .ref (Z.1 145) :: rest)) := by
  have ha : (wl Z h g)[145]? = some (Z.1 145, .inl (Z.2.2.1 4, 1, .inr (.inl (fun j => (g 145 j).toInt64)))) := wl_atm (by unfold NM; omega)
  refine va_last C.1 C.2.1 C.2.2.2.2.2.2.2.1 hW.1 (wl_D C.2.2.2.2.2.2.2.2.1) hW.2 145 4 ha rfl (by unfold vp_in; decide) hd (fun H1 locs1 a _ b => k H1 locs1 ⟨?_, b⟩)
  have hs : (wl Z h g).set 145 (Z.1 145, .inl (Z.2.2.1 4, 1, .inr (.inl (vp_updL (fun j => (g 145 j).toInt64) 0 w)))) = wl Z h (up g 145 0 v) := by
    refine wl_setm (by unfold NM; omega) ?_ mx_upr
    show (Sum.inl (Z.2.2.1 4, 1, Sum.inr (Sum.inl (fun j => (up g 145 0 v 145 j).toInt64))) : va_E) = _
    have e1 : (fun j => (up g 145 0 v 145 j).toInt64) = vp_updL (fun j => (g 145 j).toInt64) 0 w := by
      funext j
      rw [up_eq, hw]
      unfold vp_updL
      by_cases hj : j = 0
      · simp [hj]
      · simp [hj]
    rw [e1]
  rw [← hs]
  exact a
/-- out[0] read -/
theorem x_outld (hm : Z.2.2.2.2 1000 = 1) (C : CX p s m args meth c cc own nL ret Z) (hW : XW Z h g s.heap H locs) (hd : decode cc pc = .ok (.laload, 1)) (k : W p l e R s m args below meth c H locs cells slots Q (F0 m (pc + 1) ls (.long (g 145 0).toInt64 :: rest))) : W p l e R s m args below meth c H locs cells slots Q (F0 m pc ls (.int 0 :: .ref (Z.1 145) :: rest)) := by
  have ha : (wl Z h g)[145]? = some (Z.1 145, .inl (Z.2.2.1 4, 1, .inr (.inl (fun j => (g 145 j).toInt64)))) := wl_atm (by unfold NM; omega)
  exact va_lald C.1 C.2.1 C.2.2.2.2.2.2.2.1 hW.1 145 4 ha rfl (by unfold vp_in; decide) hd k
end XT
theorem lgc_eq {x : Int64} : lg_cmp x x = 0 := by simp [lg_cmp]
section XRW
variable {p : Program} {l : Launch} {e : Env} {R : Room} {s : State} {m : MethodId} {args : Array Value} {below : List Frame} {meth : Method} {c : Code} {H : Heap} {locs : List Loc} {cells slots : Nat} {Q : State → Prop} {cc bytes : ByteArray} {pc nL maxL n idx i mc ms : Nat} {ret rt : Option FieldType} {ls : Array Slot} {rest st As : List Value} {Z : ZT} {h g h1 g1 : Hp} {own : String} {y : MethodName} {rm : Room} {lv : List (Nat × Value)} {hh : List (Nat × Nat × Nat × Nat)}
theorem x_runSW (C : CX p s m args meth c cc own nL ret Z) (hW : XW Z h g s.heap H locs) (hl : lv_has ls nL lv) {Qc : Array Value → State → Outcome → State → Prop}
    (hm : Met l y (wYW y bytes maxL rt hh) rm (va_Pc As (Wd Z h g)) Qc mc ms (FR Z)) (hcd : Cond.codeWith y bytes maxL rt hh ∈ TW) (hstt : Cond.static y ∈ TW) (hlk : (Cond.methodLink own idx y ∈ TW ∧ Cond.initialized y.cls ∈ TW) ∧ (y.cls ≠ "java/lang/invoke/MethodHandle" ∧ y.cls ≠ "java/lang/invoke/VarHandle" ∧ (parseMethodDescriptor y.desc).map (fun d => d.parameters.length) = some n))
    (hr : rm.cells = mc ∧ rm.slots = ms ∧ rm.frames + 1 ≤ R.frames ∧ 8 + (maxL + 11) + rm.locals ≤ R.locals) (hcs : cells + mc ≤ R.cells ∧ slots + ms ≤ R.slots) (hn : As.length = n) (hst : st = As.reverse ++ rest) (hcat : (rest.map fun v => v.category).sum ≤ 8) (hd : decode cc pc = .ok (.invokestatic idx, 3)) :
    va_Run p l e R s m args below meth c H locs cells slots mc ms (F0 m pc ls st) rest (Qc As.toArray) (FR Z) := by
  have hts := C.2.2.1
  refine vx_runSW (hh := hh) (bytes := bytes) (maxL := maxL) (ret := rt) (As := As) (rest := rest) (n := n) ⟨C.1, C.2.1, C.2.2.2.2.1, C.2.2.2.1, hts⟩ hm ⟨⟨hr.1, hr.2.1, hr.2.2.1, hr.2.2.2, pay_in hts (wYW_good hcd), List.mem_cons_self⟩, hts _ hcd, hts _ hlk.1.2, ⟨hlk.2.1, hlk.2.2.1⟩, fun sig hq => ?_, hts _ hlk.1.1, hts _ hstt⟩ (x_pre C hW) rfl hn hl.1 hst (lv_room hcat) hd hcs
  have h2 := hlk.2.2.2
  rw [hq] at h2
  exact (Option.some.inj h2).symm
theorem x_callX {v : Int32} {a : Array Value} {st0 : List Value} (hW : XW Z h g s.heap H locs) (hr : va_Run p l e R s m args below meth c H locs cells slots mc ms (F0 m pc ls st0) rest (va_Qi (fun r (_ : Unit) => r = v) (fun _ => Wd Z h1 g1) (FR Z) a) (FR Z))
    (kk : ∀ (H1 : Heap) (locs1 : List Loc), XW Z h1 g1 s.heap H1 locs1 → W p l e R s m args below meth c H1 locs1 (cells + mc) (slots + ms) Q (F0 m (pc + 3) ls (.int v :: rest))) : W p l e R s m args below meth c H locs cells slots Q (F0 m pc ls st0) :=
  va_calli hr hW.2 (fun _ _ q => q) (fun _ q => q) (fun r u t H1 locs1 ht hvm hp hB _ _ hS => by
    subst hp
    exact kk H1 locs1 ⟨by rw [← ht]; exact hB.1, hS⟩)
end XRW

