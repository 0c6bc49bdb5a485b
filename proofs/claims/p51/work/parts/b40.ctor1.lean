/-! objects are made: what the constructors' walks stand on -/
def tyG (dA : Nat → ClassId) : List (ClassId × FieldType) := [(dA 0, .byte), (dA 1, .int), (dA 2, .boolean), (dA 3, .object RX0), (dA 4, .array .int)]
def nlk : List (String × Nat × MethodName × String) := [("TranscriptCutter", 9, ⟨RX9, "<init>", "()V"⟩, "TranscriptCutter"), ("TranscriptCutter", 18, ⟨RX1, "<init>", "()V"⟩, "TranscriptCutter"), ("TranscriptCutter$Film", 11, ⟨RX4, "<init>", "()V"⟩, "TranscriptCutter"), ("TranscriptCutter$Film", 20, ⟨RX0, "<init>", "()V"⟩, "TranscriptCutter"), ("TranscriptCutter$History", 17, ⟨RX0, "<init>", "()V"⟩, "TranscriptCutter"), ("TranscriptCutter", 32, ⟨RX5, "<init>", "()V"⟩, "TranscriptCutter"), ("TranscriptCutter$Runner", 11, ⟨RX6, "<init>", "()V"⟩, "TranscriptCutter"), ("TranscriptCutter", 39, ⟨RX2, "<init>", "()V"⟩, "TranscriptCutter"), ("TranscriptCutter", 46, ⟨RX4, "<init>", "()V"⟩, "TranscriptCutter"), ("TranscriptCutter", 53, ⟨RX6, "<init>", "()V"⟩, "TranscriptCutter")]
def KG (D : va_G) (dA : Nat → ClassId) (U : State) : Prop := va_K D vwCl (tyG dA) U ∧ va_AO RX0 U ∧ ∀ q ∈ nlk, va_Nw (.methodLinkNest q.1 q.2.1 q.2.2.1 q.2.2.2) U
theorem KG.warm {D : va_G} {dA : Nat → ClassId} {s U : State} (h : KG D dA s) (hw : s.WarmedH U.vm) : KG D dA U := ⟨va_K.moved hw.alike h.1, va_AO.moved hw.alike h.2.1, fun q hq => va_Nw.warmM hw (h.2.2 q hq)⟩
theorem KG.calls {D : va_G} {dA : Nat → ClassId} {U : State} (h : KG D dA U) (g : JFrame) (mk : MethodId) (a : Array Value) : KG D dA (U.calling g mk a) := ⟨va_K.moved (u := U) (U := U.calling g mk a) (Vm.Alike.refl U.vm) h.1, va_AO.moved (u := U) (U := U.calling g mk a) (Vm.Alike.refl U.vm) h.2.1, fun q hq => va_Nw.warmM (s := U) (U := U.calling g mk a) (State.WarmedH.refl U) (h.2.2 q hq)⟩
theorem w_join {A0 : Nat → Prop} {D : va_G} {cl : List vw_C} {ws w1 : va_W} {q : Nat} {e : va_E} {H H1 : Heap} (hP : va_P D cl (ws ++ [(q, e)]) H) (hD : va_D A0 (ws ++ [(q, e)])) (hk : ∀ x : Nat, x < H.size → ¬ va_A [(q, e)] H.size x → H1[x]? = H[x]?) (hF : ∀ x, va_A [(q, e)] H.size x → A0 x) (hP1 : va_P D cl w1 H1) (hD1 : va_D (va_A [(q, e)] H.size) w1) : va_P D cl (ws ++ w1) H1 ∧ va_D A0 (ws ++ w1) := by
  have nd : ∀ (l : List Nat), l.Nodup → va_nd l = true := by
    intro l
    induction l with
    | nil => intro _; rfl
    | cons a l ih =>
      intro h
      rw [List.nodup_cons] at h
      unfold va_nd
      rw [ih h.2, Bool.and_true, decide_eq_true_eq]
      exact h.1
  refine va_join hP hD [ws.length] (List.range ws.length) ?_ ?_ (nd _ List.nodup_range) ?_ hk hF hP1 hD1
  · show [(ws ++ [(q, e)])[ws.length]?] = [some (q, e)]
    rw [List.getElem?_append_right (Nat.le_refl _), Nat.sub_self]
    rfl
  · apply List.ext_getElem?
    intro i
    by_cases h : i < ws.length
    · rw [List.getElem?_map, List.getElem?_range h, List.getElem?_map]
      show some ((ws ++ [(q, e)])[i]?) = Option.map some (ws[i]?)
      rw [List.getElem?_append_left h, List.getElem?_eq_getElem h]
      rfl
    · rw [List.getElem?_eq_none (by rw [List.length_map, List.length_range]; omega), List.getElem?_eq_none (by rw [List.length_map]; omega)]
  · intro i hi h
    have h1 := List.mem_range.mp hi
    have h2 : i = ws.length := List.mem_singleton.mp h
    omega
theorem arrV_c {cA : ClassId} {n : Nat} {f g : Nat → Value} (h : ∀ j, j < n → f j = g j) : arrV cA n f = arrV cA n g := by
  have e : (fun j : Fin n => f j.val) = (fun j : Fin n => g j.val) := funext (fun j => h j.val j.isLt)
  unfold arrV
  rw [e]
/-- an array of references, by its places alone -/
theorem w_conv {D : va_G} {cl : List vw_C} {ws : va_W} {i a n : Nat} {cA : ClassId} {f g : Nat → Option Nat} {H : Heap} (hP : va_P D cl ws H) (hi : ws[i]? = some (a, .inl (cA, n, .inr (.inr (.inr (.inr f)))))) (h : ∀ j, j < n → f j = g j) : va_P D cl (ws.set i (a, .inl (cA, n, .inr (.inr (.inr (.inr g)))))) H := by
  intro k q hq
  by_cases e : k = i
  · subst e
    have hl : k < ws.length := (List.getElem?_eq_some_iff.mp hi).1
    rw [List.getElem?_set_self hl] at hq
    cases hq
    have h1 : H[a]? = some (vp_cell cA (n, .inr (.inr (.inr (.inr f))))) := hP k _ hi
    show H[a]? = some (vp_cell cA (n, .inr (.inr (.inr (.inr g)))))
    rw [h1, vp_cell_q, vp_cell_q, arrV_c (fun j hj => by rw [h j hj])]
  · rw [List.getElem?_set_ne (Ne.symm e)] at hq
    exact hP k q hq
/-- a constructor's surroundings -/
def CCx (p : Program) (s : State) (m : MethodId) (args : Array Value) (c : Code) (cc : ByteArray) (own : String) (nL : Nat) (D : va_G) (dA : Nat → ClassId) : Prop :=
  p.tables.exec = Jvm.exec ∧ c.code = cc ∧ (∀ w ∈ TW, w.before args s = true) ∧ s.vm.findClass own = some m.cls ∧ c.maxLocals = nL ∧ KG D dA s
def Pn (D : va_G) (dA : Nat → ClassId) (r : Nat) (e0 : va_E) (sz : Nat) (U : State) : Prop := U.heap.size = sz ∧ va_P D vwCl [(r, e0)] U.heap ∧ va_D (fun _ => True) [(r, e0)] ∧ KG D dA U
def Qn {S : Type} (D : va_G) (wK : S → va_W) (A : Nat → Prop) (u : S) (t : State) : Prop := va_P D vwCl (wK u) t.heap ∧ va_D A (wK u)
/-- a constructor's contract: the object at r, fresh before; behind it the cells wK u, all but z0 u = r new -/
def Ctor {S : Type} (l : Launch) (D : va_G) (dA : Nat → ClassId) (y : MethodName) (bytes : ByteArray) (maxL : Nat) (rm : Room) (e0 : va_E) (z0 : S → Nat) (wK : S → va_W) (mc ms : Nat) : Prop :=
  ∀ r sz : Nat, Met l y (wY y bytes maxL none) rm (va_Pc [.ref r] (Pn D dA r e0 sz)) (va_Qv (fun u : S => z0 u = r) (Qn D wK (va_A [(r, e0)] sz)) (va_A [(r, e0)] sz)) mc ms (va_A [(r, e0)] sz)
theorem Pn_blind {As : List Value} {D : va_G} {dA : Nat → ClassId} {r sz : Nat} {e0 : va_E} : FrameBlind (va_Pc As (Pn D dA r e0 sz)) := fun a U g mk q => ⟨q.1, q.2.1, q.2.2.1, q.2.2.2.1, q.2.2.2.2.calls g mk a⟩
/-- a constructor's contract out of a walk -/
theorem metC {S : Type} {l : Launch} {D : va_G} {dA : Nat → ClassId} {y : MethodName} {cc : ByteArray} {maxL : Nat} {rm : Room} {e0 : va_E} {z0 : S → Nat} {wK : S → va_W} {mc ms : Nat} (own : String) (hown : y.cls = own) (hpl : plainName y.cls = true) (hlen : 1 ≤ maxL) (hnm : y.name = "<init>")
    (body : ∀ (p : Program) (e : Env) (s : State) (m : MethodId) (args : Array Value) (below : List Frame) (meth : Method) (c : Code) (r : Nat) (A : Nat → Prop), CCx p s m args c cc own maxL D dA → meth.sig.returnType = none → meth.locks = false → meth.name = "<init>" → (∀ q : Nat, s.heap.size ≤ q → A q) → va_P D vwCl [(r, e0)] s.heap → va_D A [(r, e0)] → ∀ ls : Array Slot, lv_has ls maxL [(0, .ref r)] → W p l e rm s m args below meth c s.heap [] 0 0 (MQ below (va_Qv (fun u : S => z0 u = r) (Qn D wK A) A) args s mc ms A) (F0 m 0 ls [])) : Ctor l D dA y cc maxL rm e0 z0 wK mc ms := by
  intro r sz
  refine Met.ofW (cc := cc) (maxL := maxL) (ret := none) hpl rfl ?_
  intro p e s m args below meth c s₁ B hml hv
  obtain ⟨rfl, hsz, hP, hD, hK⟩ := hv
  subst hsz
  have hts := atoms_spec (ws := wY y cc maxL none) B.pre
  have hin : meth.name = "<init>" := (name_of_methodNamed B.named B.method).1.trans hnm
  have hl := lv_entry [.ref r] (n := maxL) hlen
  rw [lg_entry_eq]
  generalize (lg_sl [.ref r] ++ List.replicate (maxL - (lg_sl [.ref r]).length) Slot.unset).toArray = ls at hl ⊢
  exact body p e s m _ below meth c r _ ⟨B.exec, B.bytes, fun w hw => hts w (List.mem_cons_of_mem _ hw), by rw [← hown]; exact findClass_of_methodNamed B.named, hml, hK⟩ B.returns B.notSynchronized hin (fun q h => Or.inr h) hP (hD.self (sz := s.heap.size)) ls hl
section YC
variable {p : Program} {l : Launch} {e : Env} {R : Room} {s : State} {m : MethodId} {args : Array Value} {below : List Frame} {meth : Method} {c : Code} {H : Heap} {locs : List Loc} {cells slots : Nat} {Q : State → Prop} {cc bytes : ByteArray} {pc nL maxL : Nat} {ls : Array Slot} {rest : List Value} {D : va_G} {dA : Nat → ClassId} {own : String} {A : Nat → Prop} {ws wr : va_W} {lv : List (Nat × Value)} {y : MethodName} {rm : Room}
/-- Object's constructor -/
theorem y_obj (C : CCx p s m args c cc own nL D dA) (hl : lv_has ls nL lv) {idx : Nat} (hk : Cond.methodLink own idx objectInit ∈ TW) (hi : Cond.instanceMethod objectInit ∈ TW) (hc : Cond.code objectInit ⟨#[0xb1]⟩ 1 none ∈ TW) {a : Nat} (hd : decode cc pc = .ok (.invokespecial idx, 3)) (hR : 1 ≤ R.frames ∧ 12 ≤ R.locals) (kk : W p l e R s m args below meth c H locs cells slots Q (F0 m (pc + 3) ls [])) : W p l e R s m args below meth c H locs cells slots Q (F0 m pc ls [.ref a]) :=
  W.objInit C.1 C.2.1 C.2.2.2.1 (C.2.2.1 _ hk) (C.2.2.1 _ hi) (C.2.2.1 _ hc) rfl (by rw [C.2.2.2.2.1]; exact hl.1) rfl hd hR.1 hR.2 kk
/-- a new array of numbers -/
theorem y_arr (C : CCx p s m args c cc own nL D dA) (hA : ∀ q : Nat, s.heap.size ≤ q → A q) (hP : va_P D vwCl ws H) (hD : va_D A ws) (hS : va_S A s.heap H locs) {atype : ArrayType} {ty : FieldType} (hty : newarray.typeOf atype = ty) (i : Nat) (hi : (tyG dA)[i]? = some (dA i, ty)) (harr : Cond.arrayClass (newarray.typeOf atype) ∈ TW) {n : Int32} {N : Nat} (hn : ¬ n < 0) (hN : n.toNatClampNeg = N) {a0 : vp_A} (ha : ∀ cA : ClassId, vp_cell cA a0 = arrV cA N (fun _ => defaultValue ty)) (hbytes : N * componentBytes ty ≤ 536870912) (hcells : cells + 1 ≤ R.cells) (hslots : slots + N ≤ R.slots) (hd : decode cc pc = .ok (.newarray atype, 2))
    (kk : ∀ (q : Nat) (H1 : Heap), va_P D vwCl (ws ++ [(q, .inl (dA i, a0))]) H1 → va_D A (ws ++ [(q, .inl (dA i, a0))]) → va_S A s.heap H1 locs → W p l e R s m args below meth c H1 locs (cells + 1) (slots + N) Q (F0 m (pc + 2) ls (.ref q :: rest))) : W p l e R s m args below meth c H locs cells slots Q (F0 m pc ls (.int n :: rest)) := by
  have hK := C.2.2.2.2.2.1
  refine va_newa (D := D) (cl := vwCl) (tys := tyG dA) C.1 C.2.1 (C.2.2.1 _ harr) hty hK hP hD hS hA ha hn hN hbytes hcells hslots hd (fun q cA H1 hK1 hP1 hD1 hS1 => ?_)
  have h1 := (hK1.2 (tyG dA).length (cA, ty) (by rw [List.getElem?_append_right (Nat.le_refl _), Nat.sub_self]; rfl)).2
  have h2 := (hK.2 i _ hi).2
  have e : cA = dA i := va_RA_inj h1 h2
  subst e
  exact kk q H1 hP1 hD1 hS1
/-- new, dup, <init> -/
theorem y_new {S : Type} (C : CCx p s m args c cc own nL D dA) (hl : lv_has ls nL lv) (hA : ∀ q : Nat, s.heap.size ≤ q → A q) (hP : va_P D vwCl ws H) (hD : va_D A ws) (hS : va_S A s.heap H locs) {ci N : Nat} {Cn : String} {T : u_T} (hc : vwCl[ci]? = some (Cn, T, N)) (hin : ∀ w ∈ u_ws Cn T N, w ∈ TW) (ty0 : Nat → FieldType) (hty : ∀ k, k < N → parseFieldDescriptor (T k).2.2.1 = some (ty0 k)) {fs : List Value} (hfs : ∀ j, j < N → defaultValue (ty0 j) = vp_V fs j) {i1 i2 : Nat} (hcl : Cond.classLink own i1 Cn ∈ TW) (hinst : Cond.instantiable Cn N ∈ TW) (hini : Cond.initialized Cn ∈ TW)
    {z0 : S → Nat} {wK : S → va_W} {mc ms : Nat} (hM : Ctor l D dA y bytes maxL rm (.inr (ci, fs)) z0 wK mc ms) (hy : y.cls = Cn ∧ y.name = "<init>") (hyi : Cond.instanceMethod y ∈ TW) (hyc : Cond.code y bytes maxL none ∈ TW) (hyd : y.cls ≠ "java/lang/invoke/MethodHandle" ∧ y.cls ≠ "java/lang/invoke/VarHandle" ∧ (parseMethodDescriptor y.desc).map (fun d => d.parameters.length) = some 0) (hlk : Cond.methodLink own i2 y ∈ TW ∨ ∃ host, (own, i2, y, host) ∈ nlk) (hrm : rm.cells = mc ∧ rm.slots = ms) (hR : rm.frames + 1 ≤ R.frames ∧ 8 + (maxL + 11) + rm.locals ≤ R.locals) (hcells : cells + 1 + mc ≤ R.cells) (hslots : slots + N + ms ≤ R.slots) (hcat : (rest.map fun v => v.category).sum ≤ 7)
    (hd1 : decode cc pc = .ok (.new i1, 3)) (hd2 : decode cc (pc + 3) = .ok (.dup, 1)) (hd3 : decode cc (pc + 3 + 1) = .ok (.invokespecial i2, 3))
    (kk : ∀ (u : S) (H1 : Heap) (locs1 : List Loc), va_P D vwCl (ws ++ wK u) H1 → va_D A (ws ++ wK u) → va_S A s.heap H1 locs1 → W p l e R s m args below meth c H1 locs1 (cells + 1 + mc) (slots + N + ms) Q (F0 m (pc + 3 + 1 + 3) ls (.ref (z0 u) :: rest))) : W p l e R s m args below meth c H locs cells slots Q (F0 m pc ls rest) := by
  have hK := C.2.2.2.2.2
  have hts := C.2.2.1
  refine va_new (D := D) (cl := vwCl) (tys := tyG dA) C.1 C.2.1 hts hin ty0 hty C.2.2.2.1 (hts _ hcl) (hts _ hinst) (hts _ hini) hK.1 hP hD hS hA hc hfs (by omega) (by omega) hd1 (fun q H1 hP1 hD1 hS1 => ?_)
  refine lv_dup C.1 C.2.1 hd2 rfl ?_
  have hF : ∀ x, va_A [(q, (.inr (ci, fs) : va_E))] H1.size x → A x := va_free (ws := ws ++ [(q, .inr (ci, fs))]) hD1 hS1 hA [ws.length] (by
    show [(ws ++ [(q, .inr (ci, fs))])[ws.length]?] = [some (q, .inr (ci, fs))]
    rw [List.getElem?_append_right (Nat.le_refl _), Nat.sub_self]
    rfl)
  have hq : ∀ k (z : Nat × va_E), ([(q, .inr (ci, fs))] : va_W)[k]? = some z → (ws ++ [(q, .inr (ci, fs))])[ws.length + k]? = some z := fun k z h => by
    rw [List.getElem?_append_right (Nat.le_add_right _ _), Nat.add_sub_cancel_left]
    exact h
  have hPc : va_P D vwCl [(q, .inr (ci, fs))] H1 := hP1.by (fun k => ws.length + k) hq
  have hDc : va_D (fun _ => True) [(q, .inr (ci, fs))] := (hD1.by (fun k => ws.length + k) hq (fun i j _ _ h => by omega)).weaken (fun _ _ _ _ => trivial)
  have hpre : PreS s H1 (va_Pc [.ref q] (Pn D dA q (.inr (ci, fs)) H1.size)) (.ref q :: []) := ⟨Pn_blind, fun U hU hw => ⟨rfl, by rw [hU], by rw [hU]; exact hPc, hDc, hK.warm hw⟩⟩
  have hrest : (((Value.ref q) :: rest).map fun v => v.category).sum ≤ 8 := by
    show (Value.ref q).category + (rest.map fun v => v.category).sum ≤ 8
    have : (Value.ref q).category = 1 := rfl
    omega
  have hini2 : (Cond.initialized y.cls).before args s = true := by rw [hy.1]; exact hts _ hini
  have hG := wY_good hyc
  have run : va_Run p l e R s m args below meth c H1 locs (cells + 1) (slots + N) mc ms (F0 m (pc + 3 + 1) ls (.ref q :: .ref q :: rest)) (.ref q :: rest) (va_Qv (fun u : S => z0 u = q) (Qn D wK (va_A [(q, .inr (ci, fs))] H1.size)) (va_A [(q, .inr (ci, fs))] H1.size) (Value.ref q :: []).toArray) (va_A [(q, .inr (ci, fs))] H1.size) := by
    rcases hlk with hlk | ⟨host, hlk⟩
    · exact va_runI (As := []) ⟨C.1, C.2.1, C.2.2.2.2.1, C.2.2.2.1, hts⟩ (hM q H1.size) ⟨callB_of 0 hts hG rfl hrm.1 hrm.2 hini2 (hts _ hlk) hyd hR, hy.2, hts _ hyi⟩ hpre rfl rfl hl.1 rfl (lv_room hrest) hd3 ⟨hcells, hslots⟩
    · exact va_runIN (As := []) ⟨C.1, C.2.1, C.2.2.2.2.1, C.2.2.2.1, hts⟩ (hM q H1.size) ⟨va_cnB 0 hts hG rfl hrm.1 hrm.2 (hK.2.2 _ hlk) hini2 hyd hR, hy.2, hts _ hyi⟩ hpre rfl rfl hl.1 rfl (lv_room hrest) hd3 ⟨hcells, hslots⟩
  refine va_callv run hS1 (fun x _ h => hF x h) hF (fun u t H2 locs2 ht hvm hw hB hz1 hk1 hS2 => ?_)
  obtain ⟨hP2, hD2⟩ := hB
  rw [ht] at hP2
  obtain ⟨hP3, hD3⟩ := w_join hP1 hD1 hk1 hF hP2 hD2
  have hw : z0 u = q := hw
  rw [← hw]
  exact kk u H2 locs2 hP3 hD3 hS2
/-- a final field of the object at the front -/
theorem y_putF (C : CCx p s m args c cc own nL D dA) (hin2 : meth.name = "<init>") {r ci N : Nat} {fs : List Value} {T : u_T} (hP : va_P D vwCl ((r, .inr (ci, fs)) :: wr) H) (hD : va_D A ((r, .inr (ci, fs)) :: wr)) (hS : va_S A s.heap H locs) (hc : vwCl[ci]? = some (own, T, N)) (hin : ∀ w ∈ u_ws own T N, w ∈ TW) (ty0 : Nat → FieldType) (hty : ∀ k, k < N → parseFieldDescriptor (T k).2.2.1 = some (ty0 k)) (hnm : ∀ a, a < N → ∀ b, b < N → a ≠ b → (T a).2.1 ≠ (T b).2.1) (k idx : Nat) (hk : k < N) (hlk : Cond.fieldLink own idx own (T k).2.1 (T k).2.2.1 ∈ TW) (hr : (T k).1 = own) (hfin : (T k).2.2.2 = true) {ty : FieldType} {v : Value} (hdt : parseFieldDescriptor (T k).2.2.1 = some ty) (hn : narrow ty v = v) (hfit : fits ty v = true) (hlen : k < fs.length) (hd : decode cc pc = .ok (.putfield idx, 3))
    (kk : ∀ (H1 : Heap) (locs1 : List Loc), va_P D vwCl ((r, .inr (ci, fs.set k v)) :: wr) H1 → va_D A ((r, .inr (ci, fs.set k v)) :: wr) → va_S A s.heap H1 locs1 → W p l e R s m args below meth c H1 locs1 cells slots Q (F0 m (pc + 3) ls rest)) : W p l e R s m args below meth c H locs cells slots Q (F0 m pc ls (v :: .ref r :: rest)) :=
  va_putF (D := D) (ci := ci) (v := v) (ty := ty) (C := own) (T := T) (N := N) C.1 C.2.1 C.2.2.1 hin ty0 hty hnm C.2.2.2.1 C.2.2.2.2.2.1 hP hD hS 0 rfl hc k hk (C.2.2.1 _ hlk) (fun _ h9 => by rw [hr] at h9; exact h9) hfin hin2 hr hdt hn hfit hlen hd kk
/-- another field of the object at the front -/
theorem y_put (C : CCx p s m args c cc own nL D dA) {r ci N : Nat} {fs : List Value} {T : u_T} (hP : va_P D vwCl ((r, .inr (ci, fs)) :: wr) H) (hD : va_D A ((r, .inr (ci, fs)) :: wr)) (hS : va_S A s.heap H locs) (hc : vwCl[ci]? = some (own, T, N)) (hin : ∀ w ∈ u_ws own T N, w ∈ TW) (ty0 : Nat → FieldType) (hty : ∀ k, k < N → parseFieldDescriptor (T k).2.2.1 = some (ty0 k)) (hnm : ∀ a, a < N → ∀ b, b < N → a ≠ b → (T a).2.1 ≠ (T b).2.1) (k idx : Nat) (hk : k < N) (hlk : Cond.fieldLink own idx own (T k).2.1 (T k).2.2.1 ∈ TW) (hr : (T k).1 = own) (hfin : (T k).2.2.2 = false) {ty : FieldType} {v : Value} (hdt : parseFieldDescriptor (T k).2.2.1 = some ty) (hn : narrow ty v = v) (hfit : fits ty v = true) (hlen : k < fs.length) (hd : decode cc pc = .ok (.putfield idx, 3))
    (kk : ∀ (H1 : Heap) (locs1 : List Loc), va_P D vwCl ((r, .inr (ci, fs.set k v)) :: wr) H1 → va_D A ((r, .inr (ci, fs.set k v)) :: wr) → va_S A s.heap H1 locs1 → W p l e R s m args below meth c H1 locs1 cells slots Q (F0 m (pc + 3) ls rest)) : W p l e R s m args below meth c H locs cells slots Q (F0 m pc ls (v :: .ref r :: rest)) :=
  va_put (D := D) (ci := ci) (v := v) (ty := ty) (C := own) (T := T) (N := N) C.1 C.2.1 C.2.2.1 hin ty0 hty hnm C.2.2.2.1 C.2.2.2.2.2.1 hP hD hS 0 rfl hc k hk (C.2.2.1 _ hlk) (fun _ h9 => by rw [hr] at h9; exact h9) hfin hdt hn hfit hlen hd kk
/-- a constructor's end -/
theorem y_ret {S : Type} {r : Nat} {z0 : S → Nat} {wK : S → va_W} (C : CCx p s m args c cc own nL D dA) (hr : meth.sig.returnType = none) (hlocks : meth.locks = false) (hS : va_S A s.heap H locs) (u : S) (h0 : z0 u = r) (hP : va_P D vwCl (wK u) H) (hD : va_D A (wK u)) (hd : decode cc pc = .ok (.return_, 1)) : W p l e R s m args below meth c H locs cells slots (MQ below (va_Qv (fun u : S => z0 u = r) (Qn D wK A) A) args s cells slots A) (F0 m pc ls []) :=
  W.vret C.1 C.2.1 hr (fun t ht hw => ⟨⟨u, rfl, h0, by rw [ht]; exact hP, hD⟩, hS.F ht⟩) hS.2.2 hd hlocks
end YC
