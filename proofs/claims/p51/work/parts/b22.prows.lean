/-! a walk over the pool: its surroundings, its rows -/
def flk : List (String × Nat × String × String × String × String) := [("TranscriptCutterLaw", 210, "TranscriptCutterLaw$Drawn", "length", "I", "TranscriptCutterLaw"), ("TranscriptCutterLaw", 214, "TranscriptCutterLaw$Drawn", "word", "[[I", "TranscriptCutterLaw"), ("TranscriptCutterLaw", 106, "TranscriptCutterLaw$Drawn", "words", "I", "TranscriptCutterLaw"), ("TranscriptCutterLaw", 147, "TranscriptCutterLaw$Drawn", "blocks", "I", "TranscriptCutterLaw"), ("TranscriptCutterLaw", 204, "TranscriptCutterLaw$Drawn", "begin", "[I", "TranscriptCutterLaw"), ("TranscriptCutterLaw", 207, "TranscriptCutterLaw$Drawn", "end", "[I", "TranscriptCutterLaw"), ("TranscriptCutterLaw", 212, "TranscriptCutterLaw$Drawn", "cut", "[I", "TranscriptCutterLaw"), ("TranscriptCutterLaw", 150, "TranscriptCutterLaw$Drawn", "head", "[I", "TranscriptCutterLaw"), ("TranscriptCutterLaw", 154, "TranscriptCutterLaw$Drawn", "tail", "[I", "TranscriptCutterLaw"), ("TranscriptCutterLaw", 137, "TranscriptCutterLaw$Drawn", "isOut", "[Z", "TranscriptCutterLaw"), ("TranscriptCutterLaw", 166, "TranscriptCutterLaw$Drawn", "film", "[I", "TranscriptCutterLaw"), ("TranscriptCutterLaw", 176, "TranscriptCutterLaw$Drawn", "text", "Ljava/lang/String;", "TranscriptCutterLaw")]
def SSP (Z : ZT) (U : State) (H : Heap) : Prop := ∀ i : Nat, i < 10 → va_O "java/lang/String" (Z.2.2.2.2 (2 * i + 200)) (FR Z) U H ∧ va_OF "java/lang/String" "coder" "B" (.int 0) (Z.2.2.2.2 (2 * i + 200)) (FR Z) U H ∧ va_OF "java/lang/String" "value" "[B" (.ref (Z.2.2.2.2 (2 * i + 201))) (Z.2.2.2.2 (2 * i + 200)) (FR Z) U H ∧ va_T .byte (Z.2.2.2.2 (2 * i + 201)) (tlP i) (fun j => .int (tbP i j)) (FR Z) U H
def SDG (Z : ZT) (U : State) (H : Heap) : Prop := ∃ t u : Nat, va_Z "java/lang/Integer" "DigitOnes" "[B" (.ref t) (FR Z) U H ∧ va_T .byte t 100 (fun j => .int (dgO j)) (FR Z) U H ∧ va_Z "java/lang/Integer" "DigitTens" "[B" (.ref u) (FR Z) U H ∧ va_T .byte u 100 (fun j => .int (dgT j)) (FR Z) U H
def SII (Z : ZT) (U : State) : Prop := (∃ kA kI : Class, U.vm.classes[Z.2.2.1 4]? = some kA ∧ kA.kind = .array (Z.2.2.1 1) (.array .int) ∧ U.vm.classes[Z.2.2.1 1]? = some kI) ∧ ((Cond.arrayOver (.array .int)).before #[] U = true ∧ va_Nc "java/lang/IllegalStateException" "java/lang/IllegalArgumentException" U)
def SFL (U : State) : Prop := ∀ q ∈ flk, va_Nw (.fieldLinkNest q.1 q.2.1 q.2.2.1 q.2.2.2.1 q.2.2.2.2.1 q.2.2.2.2.2) U
def PX (Z : ZT) (U : State) (H : Heap) : Prop := SSP Z U H ∧ SDG Z U H ∧ SII Z U ∧ SFL U
theorem overA_moved {u U : State} (hvm : u.vm.Alike U.vm) (h : (Cond.arrayOver (.array .int)).before #[] u = true) : (Cond.arrayOver (.array .int)).before #[] U = true := by
  obtain ⟨comp, c, k, h1, h2, h3, h4, h5⟩ := arrayOverA_spec h
  obtain ⟨k', hk', he⟩ := hvm.2.2 _ _ h3
  have hi : (U.vm.classes.findIdx? fun (x : Class) => match x.kind with | .array component _ => component == comp | _ => false) = some c := by
    rw [hvm.findIdx?_eq _ (fun _ => rfl)]
    exact h2
  have hkind : k'.kind = .array comp (.array .int) := by rw [he]; exact h4
  have f1 : U.vm.findClass (FieldType.array .int).toString = some comp := by rw [hvm.findClass]; exact h1
  have f2 : U.vm.findClass ("[" ++ (FieldType.array .int).toString) = some c := by rw [hvm.findClass]; exact h5
  unfold Cond.before Cond.holds
  simp only [Cond.value]
  rw [f1, Option.bind_some]
  refine (congrArg (fun o : Option Nat => (o.bind (fun c => (U.vm.classes[c]?).map fun (k : Class) => match k.kind with | .array _ ty => decide (ty = FieldType.array .int) && decide (U.vm.findClass ("[" ++ (FieldType.array .int).toString) = some c) | _ => false) == some true)) hi).trans ?_
  simp [hk', hkind, f2]
theorem SII.moved {Z : ZT} {u U : State} (hvm : u.vm.Alike U.vm) (h : SII Z u) : SII Z U := by
  obtain ⟨⟨kA, kI, h1, h2, h3⟩, h4⟩ := h
  obtain ⟨kA', a1, a2⟩ := hvm.2.2 _ _ h1
  obtain ⟨kI', b1, b2⟩ := hvm.2.2 _ _ h3
  exact ⟨⟨kA', kI', a1, by rw [a2]; exact h2, b1⟩, overA_moved hvm h4.1, va_Nc.moved hvm h4.2⟩
theorem PX.to {Z : ZT} {s U : State} {H : Heap} {locs : List Loc} (h : PX Z s s.heap) (hS : va_S (FR Z) s.heap H locs) (hw : s.WarmedH U.vm) : PX Z U H := by
  obtain ⟨h1, ⟨t, u, d1, d2, d3, d4⟩, h3, h4⟩ := h
  refine ⟨fun i hi => ?_, ⟨t, u, va_Z.moved hw.alike (d1.kept hS.2.1), va_T.moved hw.alike (d2.kept hS.2.1), va_Z.moved hw.alike (d3.kept hS.2.1), va_T.moved hw.alike (d4.kept hS.2.1)⟩, SII.moved hw.alike h3, fun q hq => va_Nw.warmF hw (h4 q hq)⟩
  obtain ⟨a, b, c, d⟩ := h1 i hi
  exact ⟨va_O.moved hw.alike (a.kept hS.2.1), va_OF.moved hw.alike (b.kept hS.2.1), va_OF.moved hw.alike (c.kept hS.2.1), va_T.moved hw.alike (d.kept hS.2.1)⟩
def CQ (p : Program) (s : State) (m : MethodId) (args : Array Value) (meth : Method) (c : Code) (cc : ByteArray) (own : String) (nL : Nat) (ret : Option FieldType) (Z : ZT) : Prop :=
  p.tables.exec = Jvm.exec ∧ c.code = cc ∧ (∀ w ∈ TW, w.before args s = true) ∧ s.vm.findClass own = some m.cls ∧ c.maxLocals = nL ∧ meth.sig.returnType = ret ∧ meth.locks = false ∧ va_K Z.2.1 vwCl (tyZ Z) s ∧ Z.2.2.2.1 ≤ s.heap.size ∧ SX Z s s.heap ∧ PX Z s s.heap
def XG (Z : ZT) (h : Hp) (a : Nat → Nat) (g : PL) (H0 H : Heap) (locs : List Loc) : Prop := va_P Z.2.1 vwCl (wl Z h (pl Z a g)) H ∧ va_S (FR Z) H0 H locs ∧ va_D (FR Z) (wl Z h (pl Z a g)) ∧ PW g
def WdP (Z : ZT) (h : Hp) (a : Nat → Nat) (g : PL) (U : State) : Prop := va_P Z.2.1 vwCl (wl Z h (pl Z a g)) U.heap ∧ va_K Z.2.1 vwCl (tyZ Z) U ∧ va_D (FR Z) (wl Z h (pl Z a g)) ∧ Z.2.2.2.1 ≤ U.heap.size ∧ SX Z U U.heap ∧ PX Z U U.heap ∧ PW g
def rmP (k c : Nat) : Room := { frames := 2 + k, cells := c, slots := 600 * c, locals := 50 + 50 * k }
def RmK (rm R : Room) (maxL mc ms : Nat) : Prop := rm.cells = mc ∧ rm.slots = ms ∧ rm.frames + 1 ≤ R.frames ∧ 8 + (maxL + 11) + rm.locals ≤ R.locals
theorem rm_okP {a b k k2 maxL : Nat} (h : a < b) (hm : maxL ≤ 30) : RmK (rmP a k) (rmP b k2) maxL k (600 * k) := ⟨rfl, rfl, by show 2 + a + 1 ≤ 2 + b; omega, by show 8 + (maxL + 11) + (50 + 50 * a) ≤ 50 + 50 * b; omega⟩
theorem rm_okD {a b k2 maxL : Nat} (h : a < b) (hm : maxL ≤ 30) : RmK (rmD a) (rmP b k2) maxL 0 0 := ⟨rfl, rfl, by show 2 + a + 1 ≤ 2 + b; omega, by show 8 + (maxL + 11) + (50 + 50 * a) ≤ 50 + 50 * b; omega⟩
theorem rm_cs {c k n : Nat} {b : Nat} (h : c + k ≤ n) : c + k ≤ (rmP b n).cells ∧ 600 * c + 600 * k ≤ (rmP b n).slots := ⟨h, by show 600 * c + 600 * k ≤ 600 * n; omega⟩
theorem rm_c0 {c n : Nat} {b : Nat} (h : c ≤ n) : c ≤ (rmP b n).cells ∧ 600 * c ≤ (rmP b n).slots := ⟨h, by show 600 * c ≤ 600 * n; omega⟩
theorem WdP_blind {As : List Value} {Z : ZT} {h : Hp} {a : Nat → Nat} {g : PL} : FrameBlind (va_Pc As (WdP Z h a g)) := fun v U gg mk q => ⟨q.1, q.2.1, va_K.moved (u := U) (U := U.calling gg mk v) (Vm.Alike.refl U.vm) q.2.2.1, q.2.2.2.1, q.2.2.2.2.1, q.2.2.2.2.2.1.to va_S.rf (State.WarmedH.refl U), q.2.2.2.2.2.2.1.to va_S.rf (State.WarmedH.refl U), q.2.2.2.2.2.2.2⟩

section ZI
variable {p : Program} {l : Launch} {e : Env} {R : Room} {s : State} {m : MethodId} {args : Array Value} {below : List Frame} {meth : Method} {c : Code} {H : Heap} {locs : List Loc} {cells slots : Nat} {Q : State → Prop} {cc bytes : ByteArray} {pc nL tgt maxL n idx mc ms : Nat} {ret rt : Option FieldType} {ls : Array Slot} {rest st As : List Value} {Z : ZT} {h h1 : Hp} {a a0 : Nat → Nat} {g g0 g1 : PL} {own : String} {off : Int} {x y : Int32} {β : Type} {A B : Option β} {out : β} {rm : Room} {lv : List (Nat × Value)}
theorem z_ifeq (C : CQ p s m args meth c cc own nL ret Z) (hf : (if x = 0 then A else B) = some out) (hd : decode cc pc = .ok (.ifCond .eq off, 3)) (ht : (pc : Int) + off = (tgt : Int)) (kt : A = some out → W p l e R s m args below meth c H locs cells slots Q (F0 m tgt ls rest)) (kf : B = some out → W p l e R s m args below meth c H locs cells slots Q (F0 m (pc + 3) ls rest)) : W p l e R s m args below meth c H locs cells slots Q (F0 m pc ls (.int x :: rest)) :=
  lv_if_eq C.1 C.2.1 hd ht (fun q => kt ((if_pos q).symm.trans hf)) (fun q => kf ((if_neg q).symm.trans hf))
theorem z_ifne (C : CQ p s m args meth c cc own nL ret Z) (hf : (if x = 0 then A else B) = some out) (hd : decode cc pc = .ok (.ifCond .ne off, 3)) (ht : (pc : Int) + off = (tgt : Int)) (kt : B = some out → W p l e R s m args below meth c H locs cells slots Q (F0 m tgt ls rest)) (kf : A = some out → W p l e R s m args below meth c H locs cells slots Q (F0 m (pc + 3) ls rest)) : W p l e R s m args below meth c H locs cells slots Q (F0 m pc ls (.int x :: rest)) :=
  lv_if_ne C.1 C.2.1 hd ht (fun q => kt ((if_neg q).symm.trans hf)) (fun q => kf ((if_pos q).symm.trans hf))
theorem z_iflt (C : CQ p s m args meth c cc own nL ret Z) (hf : (if x < 0 then A else B) = some out) (hd : decode cc pc = .ok (.ifCond .lt off, 3)) (ht : (pc : Int) + off = (tgt : Int)) (kt : A = some out → W p l e R s m args below meth c H locs cells slots Q (F0 m tgt ls rest)) (kf : B = some out → W p l e R s m args below meth c H locs cells slots Q (F0 m (pc + 3) ls rest)) : W p l e R s m args below meth c H locs cells slots Q (F0 m pc ls (.int x :: rest)) :=
  lv_if_lt C.1 C.2.1 hd ht (fun q => kt ((if_pos q).symm.trans hf)) (fun q => kf ((if_neg q).symm.trans hf))
theorem z_ifge (C : CQ p s m args meth c cc own nL ret Z) (hf : (if 0 ≤ x then A else B) = some out) (hd : decode cc pc = .ok (.ifCond .ge off, 3)) (ht : (pc : Int) + off = (tgt : Int)) (kt : A = some out → W p l e R s m args below meth c H locs cells slots Q (F0 m tgt ls rest)) (kf : B = some out → W p l e R s m args below meth c H locs cells slots Q (F0 m (pc + 3) ls rest)) : W p l e R s m args below meth c H locs cells slots Q (F0 m pc ls (.int x :: rest)) :=
  lv_if_ge C.1 C.2.1 hd ht (fun q => kt ((if_pos q).symm.trans hf)) (fun q => kf ((if_neg q).symm.trans hf))
theorem z_ifgt (C : CQ p s m args meth c cc own nL ret Z) (hf : (if 0 < x then A else B) = some out) (hd : decode cc pc = .ok (.ifCond .gt off, 3)) (ht : (pc : Int) + off = (tgt : Int)) (kt : A = some out → W p l e R s m args below meth c H locs cells slots Q (F0 m tgt ls rest)) (kf : B = some out → W p l e R s m args below meth c H locs cells slots Q (F0 m (pc + 3) ls rest)) : W p l e R s m args below meth c H locs cells slots Q (F0 m pc ls (.int x :: rest)) :=
  lv_if_gt C.1 C.2.1 hd ht (fun q => kt ((if_pos q).symm.trans hf)) (fun q => kf ((if_neg q).symm.trans hf))
theorem z_ifle (C : CQ p s m args meth c cc own nL ret Z) (hf : (if x ≤ 0 then A else B) = some out) (hd : decode cc pc = .ok (.ifCond .le off, 3)) (ht : (pc : Int) + off = (tgt : Int)) (kt : A = some out → W p l e R s m args below meth c H locs cells slots Q (F0 m tgt ls rest)) (kf : B = some out → W p l e R s m args below meth c H locs cells slots Q (F0 m (pc + 3) ls rest)) : W p l e R s m args below meth c H locs cells slots Q (F0 m pc ls (.int x :: rest)) :=
  lv_if_le C.1 C.2.1 hd ht (fun q => kt ((if_pos q).symm.trans hf)) (fun q => kf ((if_neg q).symm.trans hf))
theorem z_cmpeq (C : CQ p s m args meth c cc own nL ret Z) (hf : (if x = y then A else B) = some out) (hd : decode cc pc = .ok (.if_icmp .eq off, 3)) (ht : (pc : Int) + off = (tgt : Int)) (kt : A = some out → W p l e R s m args below meth c H locs cells slots Q (F0 m tgt ls rest)) (kf : B = some out → W p l e R s m args below meth c H locs cells slots Q (F0 m (pc + 3) ls rest)) : W p l e R s m args below meth c H locs cells slots Q (F0 m pc ls (.int y :: .int x :: rest)) :=
  lv_icmp_eq C.1 C.2.1 hd ht (fun q => kt ((if_pos q).symm.trans hf)) (fun q => kf ((if_neg q).symm.trans hf))
theorem z_cmpne (C : CQ p s m args meth c cc own nL ret Z) (hf : (if x = y then A else B) = some out) (hd : decode cc pc = .ok (.if_icmp .ne off, 3)) (ht : (pc : Int) + off = (tgt : Int)) (kt : B = some out → W p l e R s m args below meth c H locs cells slots Q (F0 m tgt ls rest)) (kf : A = some out → W p l e R s m args below meth c H locs cells slots Q (F0 m (pc + 3) ls rest)) : W p l e R s m args below meth c H locs cells slots Q (F0 m pc ls (.int y :: .int x :: rest)) :=
  lv_icmp_ne C.1 C.2.1 hd ht (fun q => kt ((if_neg q).symm.trans hf)) (fun q => kf ((if_pos q).symm.trans hf))
theorem z_cmplt (C : CQ p s m args meth c cc own nL ret Z) (hf : (if x < y then A else B) = some out) (hd : decode cc pc = .ok (.if_icmp .lt off, 3)) (ht : (pc : Int) + off = (tgt : Int)) (kt : A = some out → W p l e R s m args below meth c H locs cells slots Q (F0 m tgt ls rest)) (kf : B = some out → W p l e R s m args below meth c H locs cells slots Q (F0 m (pc + 3) ls rest)) : W p l e R s m args below meth c H locs cells slots Q (F0 m pc ls (.int y :: .int x :: rest)) :=
  lv_icmp_lt C.1 C.2.1 hd ht (fun q => kt ((if_pos q).symm.trans hf)) (fun q => kf ((if_neg q).symm.trans hf))
theorem z_cmpge (C : CQ p s m args meth c cc own nL ret Z) (hf : (if x < y then A else B) = some out) (hd : decode cc pc = .ok (.if_icmp .ge off, 3)) (ht : (pc : Int) + off = (tgt : Int)) (kt : B = some out → W p l e R s m args below meth c H locs cells slots Q (F0 m tgt ls rest)) (kf : A = some out → W p l e R s m args below meth c H locs cells slots Q (F0 m (pc + 3) ls rest)) : W p l e R s m args below meth c H locs cells slots Q (F0 m pc ls (.int y :: .int x :: rest)) :=
  lv_icmp_ge C.1 C.2.1 hd ht (fun q => kt ((if_neg (Int32.not_lt.mpr q)).symm.trans hf)) (fun q => kf ((if_pos (Int32.not_le.mp q)).symm.trans hf))
theorem z_cmpgt (C : CQ p s m args meth c cc own nL ret Z) (hf : (if y < x then A else B) = some out) (hd : decode cc pc = .ok (.if_icmp .gt off, 3)) (ht : (pc : Int) + off = (tgt : Int)) (kt : A = some out → W p l e R s m args below meth c H locs cells slots Q (F0 m tgt ls rest)) (kf : B = some out → W p l e R s m args below meth c H locs cells slots Q (F0 m (pc + 3) ls rest)) : W p l e R s m args below meth c H locs cells slots Q (F0 m pc ls (.int y :: .int x :: rest)) :=
  lv_icmp_gt C.1 C.2.1 hd ht (fun q => kt ((if_pos q).symm.trans hf)) (fun q => kf ((if_neg q).symm.trans hf))
theorem z_cmple (C : CQ p s m args meth c cc own nL ret Z) (hf : (if y < x then A else B) = some out) (hd : decode cc pc = .ok (.if_icmp .le off, 3)) (ht : (pc : Int) + off = (tgt : Int)) (kt : B = some out → W p l e R s m args below meth c H locs cells slots Q (F0 m tgt ls rest)) (kf : A = some out → W p l e R s m args below meth c H locs cells slots Q (F0 m (pc + 3) ls rest)) : W p l e R s m args below meth c H locs cells slots Q (F0 m pc ls (.int y :: .int x :: rest)) :=
  lv_icmp_le C.1 C.2.1 hd ht (fun q => kt ((if_neg (Int32.not_lt.mpr q)).symm.trans hf)) (fun q => kf ((if_pos (Int32.not_le.mp q)).symm.trans hf))
/-- a number is kept in a local under a new name -/
theorem z_istn (C : CQ p s m args meth c cc own nL ret Z) {k : Fin 4} {i : Nat} {lv : List (Nat × Value)} {K : Int32 → Option β} (hf : stp x K = some out) (hd : decode cc pc = .ok (.istore_n k, 1)) (hi : (k : Nat) = i) (hl : lv_has ls nL lv) (hn : i < nL) (lvf : Int32 → List (Nat × Value)) (he : ∀ z : Int32, (i, Value.int z) :: lv.filter (fun q => !(q.1 == i) && !(q.1 + 1 == i && q.2.category == 2)) = lvf z)
    (kk : ∀ (z : Int32) (ls : Array Slot), K z = some out → lv_has ls nL (lvf z) → W p l e R s m args below meth c H locs cells slots Q (F0 m (pc + 1) ls rest)) : W p l e R s m args below meth c H locs cells slots Q (F0 m pc ls (.int x :: rest)) :=
  lv_istore_n C.1 C.2.1 hd hi hl hn (he x) (fun ls q => kk x ls hf q)
theorem z_ist (C : CQ p s m args meth c cc own nL ret Z) {i : Nat} {lv : List (Nat × Value)} {K : Int32 → Option β} (hf : stp x K = some out) (hd : decode cc pc = .ok (.istore i, 2)) (hl : lv_has ls nL lv) (hn : i < nL) (lvf : Int32 → List (Nat × Value)) (he : ∀ z : Int32, (i, Value.int z) :: lv.filter (fun q => !(q.1 == i) && !(q.1 + 1 == i && q.2.category == 2)) = lvf z)
    (kk : ∀ (z : Int32) (ls : Array Slot), K z = some out → lv_has ls nL (lvf z) → W p l e R s m args below meth c H locs cells slots Q (F0 m (pc + 2) ls rest)) : W p l e R s m args below meth c H locs cells slots Q (F0 m pc ls (.int x :: rest)) :=
  lv_istore C.1 C.2.1 hd hl hn (he x) (fun ls q => kk x ls hf q)
theorem z_iinc (C : CQ p s m args meth c cc own nL ret Z) {i k : Nat} {n : Int} {w : Int32} {lv : List (Nat × Value)} {K : Int32 → Option β} (hf : stp (x + w) K = some out) (hd : decode cc pc = .ok (.iinc i n, 3)) (hl : lv_has ls nL lv) (hk : lv[k]? = some (i, .int x)) (hw : Int32.ofInt n = w) (hn : i < nL) (lvf : Int32 → List (Nat × Value)) (he : ∀ z : Int32, (i, Value.int z) :: lv.filter (fun q => !(q.1 == i) && !(q.1 + 1 == i && q.2.category == 2)) = lvf z)
    (kk : ∀ (z : Int32) (ls : Array Slot), K z = some out → lv_has ls nL (lvf z) → W p l e R s m args below meth c H locs cells slots Q (F0 m (pc + 3) ls rest)) : W p l e R s m args below meth c H locs cells slots Q (F0 m pc ls rest) :=
  lv_iinc C.1 C.2.1 hd hl hk (by rw [hw]) hn (he _) (fun ls q => kk _ ls hf q)
/-- a division by a number that isn't 0 -/
theorem z_swin (C : CQ p s m args meth c cc own nL ret Z) {dflt lo hi : Int} {offs : Array Int} {len : Nat} {w : Int32} (q : x = w) (hd : decode cc pc = .ok (.tableswitch dflt lo hi offs, len)) (h1 : ¬ w.toInt < lo) (h2 : ¬ hi < w.toInt) (ho : offs[(w.toInt - lo).toNat]? = some off) (ht : (pc : Int) + off = (tgt : Int))
    (k : W p l e R s m args below meth c H locs cells slots Q (F0 m tgt ls rest)) : W p l e R s m args below meth c H locs cells slots Q (F0 m pc ls (.int x :: rest)) := by
  subst q
  exact lv_tableIn C.1 C.2.1 hd h1 h2 ho ht k
theorem z_wd (C : CQ p s m args meth c cc own nL ret Z) (hW : XG Z h a g s.heap H locs) {t : State} (ht : t.heap = H) (hw : s.WarmedH t.vm) : WdP Z h a g t := ⟨by rw [ht]; exact hW.1, va_K.moved hw.alike C.2.2.2.2.2.2.2.1, hW.2.2.1, by rw [ht]; exact Nat.le_trans C.2.2.2.2.2.2.2.2.1 hW.2.1.1, by rw [ht]; exact C.2.2.2.2.2.2.2.2.2.1.to hW.2.1 hw, by rw [ht]; exact C.2.2.2.2.2.2.2.2.2.2.to hW.2.1 hw, hW.2.2.2⟩
theorem z_wd0 (C : CQ p s m args meth c cc own nL ret Z) (hW : XG Z h a g s.heap H locs) {t : State} (ht : t.heap = H) (hw : s.WarmedH t.vm) : Wd Z h (pl Z a g) t := ⟨by rw [ht]; exact hW.1, va_K.moved hw.alike C.2.2.2.2.2.2.2.1, wl_D hW.2.2.1, by rw [ht]; exact Nat.le_trans C.2.2.2.2.2.2.2.2.1 hW.2.1.1, by rw [ht]; exact C.2.2.2.2.2.2.2.2.2.1.to hW.2.1 hw⟩
theorem z_pre (C : CQ p s m args meth c cc own nL ret Z) (hW : XG Z h a g s.heap H locs) : PreS s H (va_Pc As (WdP Z h a g)) As := ⟨WdP_blind, fun U hU hw => ⟨rfl, z_wd C hW hU hw⟩⟩
theorem z_pre0 (C : CQ p s m args meth c cc own nL ret Z) (hW : XG Z h a g s.heap H locs) : PreS s H (va_Pc As (Wd Z h (pl Z a g))) As := ⟨Wd_blind, fun U hU hw => ⟨rfl, z_wd0 C hW hU hw⟩⟩
theorem pk_at {kd : Nat} {e : va_E} {o : Nat} (hp : PW g) (ho : gk g o kd = true) (he : celP Z a kd (gl g o) (g.2.2 o) = e) : (wl Z h (pl Z a g))[125 + o]? = some (ra Z a o, e) := by
  obtain ⟨h1, h2⟩ := gk_t ho
  have := hp.1
  rw [wp_at h1, h2, ra_lt (by omega)]
  show some (a o, celP Z a kd (gl g o) (g.2.2 o)) = _
  rw [he]
theorem pk_set {kd : Nat} {e : va_E} {o : Nat} (hp : PW g) (ho : gk g o kd = true) (e1 : g1.1 = g.1) (e2 : g1.2.1 = g.2.1) (e3 : ∀ j, j ≠ o → g1.2.2 j = g.2.2 j) (he : celP Z a kd (gl g o) (g1.2.2 o) = e) : (wl Z h (pl Z a g)).set (125 + o) (ra Z a o, e) = wl Z h (pl Z a g1) := by
  obtain ⟨h1, h2⟩ := gk_t ho
  have := hp.1
  rw [ra_lt (by omega)]
  refine wp_set h1 e1 e2 e3 ?_
  rw [h2]
  exact he
theorem gu_ne {k j : Nat} {v : Int32} {i : Nat} (hi : i ≠ k) : (gu g k j v).2.2 i = g.2.2 i := up_ne _ _ hi
theorem gu_eq {k j : Nat} {v : Int32} : (gu g k j v).2.2 k = fun b => if b = j then v else g.2.2 k b := up_eq _ _ _ _
theorem rkb_or {kd x : Nat} (h : gk g x kd = true) : rkb g x = true := by
  unfold rkb
  rw [decide_eq_true (gk_t h).1, Bool.true_or]
theorem rok_nI {x : Nat} (h : rkb g x = true) (hx : x < 2147483648) : rok g.1 (nI x) := by
  unfold rkb at h
  rw [Bool.or_eq_true, decide_eq_true_eq, decide_eq_true_eq] at h
  have e : ix (nI x) = x := nI_clamp hx
  rcases h with h | h
  · exact Or.inr (Or.inl (by rw [e]; exact h))
  · exact Or.inr (Or.inr (by rw [e]; exact h))
theorem rv_nI {x : Nat} (hx : x < 2147483648) : rv Z a (nI x) = .ref (ra Z a x) := by
  unfold rv
  rw [if_neg (nI_pos hx), show ix (nI x) = x from nI_clamp hx]
theorem rvo_nI {x : Nat} (hx : x < 2147483648) : rvo Z a (nI x) = some (ra Z a x) := by
  unfold rvo
  rw [if_neg (nI_pos hx), show ix (nI x) = x from nI_clamp hx]
theorem rv_pos {v : Int32} (h : ¬ v < 0) : rv Z a v = .ref (ra Z a (ix v)) := if_neg h
theorem rvo_pos {v : Int32} (h : ¬ v < 0) : rvo Z a v = some (ra Z a (ix v)) := if_neg h

end ZI
