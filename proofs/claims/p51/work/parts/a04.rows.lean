theorem wj_max : Cond.static Lib.Math.max.name ∈ TW ∧ Cond.initialized "java/lang/Math" ∈ TW ∧ Cond.code Lib.Math.max.name Lib.Math.max.code 2 (some .int) ∈ TW := ⟨TW_of 458 (by decide +kernel) (by decide +kernel), TW_of 31 (by decide +kernel) (by decide +kernel), TW_of 459 (by decide +kernel) (by decide +kernel)⟩
theorem wj_min : Cond.static Lib.Math.min.name ∈ TW ∧ Cond.initialized "java/lang/Math" ∈ TW ∧ Cond.code Lib.Math.min.name Lib.Math.min.code 2 (some .int) ∈ TW := ⟨TW_of 476 (by decide +kernel) (by decide +kernel), TW_of 31 (by decide +kernel) (by decide +kernel), TW_of 477 (by decide +kernel) (by decide +kernel)⟩
theorem no_none {α : Type} {β : Prop} {o : α} (h : (none : Option α) = some o) : β := by cases h
/-! rows over a walk that follows a pure function: hf is what is left of the function's value -/
section XI
variable {p : Program} {l : Launch} {e : Env} {R : Room} {s : State} {m : MethodId} {args : Array Value} {below : List Frame} {meth : Method} {c : Code} {H : Heap} {locs : List Loc} {cells slots : Nat} {Q : State → Prop} {cc : ByteArray} {pc nL tgt : Nat} {ret : Option FieldType} {ls : Array Slot} {rest : List Value} {Z : ZT} {h h1 : Hp} {g g1 : va_W} {own : String} {off : Int} {x y : Int32} {β : Type} {A B : Option β} {out : β}
theorem x_ifeq (C : CX p s m args meth c cc own nL ret Z g) (hf : (if x = 0 then A else B) = some out) (hd : decode cc pc = .ok (.ifCond .eq off, 3)) (ht : (pc : Int) + off = (tgt : Int)) (kt : A = some out → W p l e R s m args below meth c H locs cells slots Q (F0 m tgt ls rest)) (kf : B = some out → W p l e R s m args below meth c H locs cells slots Q (F0 m (pc + 3) ls rest)) : W p l e R s m args below meth c H locs cells slots Q (F0 m pc ls (.int x :: rest)) :=
  lv_if_eq C.1 C.2.1 hd ht (fun q => kt ((if_pos q).symm.trans hf)) (fun q => kf ((if_neg q).symm.trans hf))
theorem x_ifne (C : CX p s m args meth c cc own nL ret Z g) (hf : (if x = 0 then A else B) = some out) (hd : decode cc pc = .ok (.ifCond .ne off, 3)) (ht : (pc : Int) + off = (tgt : Int)) (kt : B = some out → W p l e R s m args below meth c H locs cells slots Q (F0 m tgt ls rest)) (kf : A = some out → W p l e R s m args below meth c H locs cells slots Q (F0 m (pc + 3) ls rest)) : W p l e R s m args below meth c H locs cells slots Q (F0 m pc ls (.int x :: rest)) :=
  lv_if_ne C.1 C.2.1 hd ht (fun q => kt ((if_neg q).symm.trans hf)) (fun q => kf ((if_pos q).symm.trans hf))
theorem x_iflt (C : CX p s m args meth c cc own nL ret Z g) (hf : (if x < 0 then A else B) = some out) (hd : decode cc pc = .ok (.ifCond .lt off, 3)) (ht : (pc : Int) + off = (tgt : Int)) (kt : A = some out → W p l e R s m args below meth c H locs cells slots Q (F0 m tgt ls rest)) (kf : B = some out → W p l e R s m args below meth c H locs cells slots Q (F0 m (pc + 3) ls rest)) : W p l e R s m args below meth c H locs cells slots Q (F0 m pc ls (.int x :: rest)) :=
  lv_if_lt C.1 C.2.1 hd ht (fun q => kt ((if_pos q).symm.trans hf)) (fun q => kf ((if_neg q).symm.trans hf))
theorem x_ifge (C : CX p s m args meth c cc own nL ret Z g) (hf : (if 0 ≤ x then A else B) = some out) (hd : decode cc pc = .ok (.ifCond .ge off, 3)) (ht : (pc : Int) + off = (tgt : Int)) (kt : A = some out → W p l e R s m args below meth c H locs cells slots Q (F0 m tgt ls rest)) (kf : B = some out → W p l e R s m args below meth c H locs cells slots Q (F0 m (pc + 3) ls rest)) : W p l e R s m args below meth c H locs cells slots Q (F0 m pc ls (.int x :: rest)) :=
  lv_if_ge C.1 C.2.1 hd ht (fun q => kt ((if_pos q).symm.trans hf)) (fun q => kf ((if_neg q).symm.trans hf))
theorem x_ifgt (C : CX p s m args meth c cc own nL ret Z g) (hf : (if 0 < x then A else B) = some out) (hd : decode cc pc = .ok (.ifCond .gt off, 3)) (ht : (pc : Int) + off = (tgt : Int)) (kt : A = some out → W p l e R s m args below meth c H locs cells slots Q (F0 m tgt ls rest)) (kf : B = some out → W p l e R s m args below meth c H locs cells slots Q (F0 m (pc + 3) ls rest)) : W p l e R s m args below meth c H locs cells slots Q (F0 m pc ls (.int x :: rest)) :=
  lv_if_gt C.1 C.2.1 hd ht (fun q => kt ((if_pos q).symm.trans hf)) (fun q => kf ((if_neg q).symm.trans hf))
theorem x_ifle (C : CX p s m args meth c cc own nL ret Z g) (hf : (if x ≤ 0 then A else B) = some out) (hd : decode cc pc = .ok (.ifCond .le off, 3)) (ht : (pc : Int) + off = (tgt : Int)) (kt : A = some out → W p l e R s m args below meth c H locs cells slots Q (F0 m tgt ls rest)) (kf : B = some out → W p l e R s m args below meth c H locs cells slots Q (F0 m (pc + 3) ls rest)) : W p l e R s m args below meth c H locs cells slots Q (F0 m pc ls (.int x :: rest)) :=
  lv_if_le C.1 C.2.1 hd ht (fun q => kt ((if_pos q).symm.trans hf)) (fun q => kf ((if_neg q).symm.trans hf))
theorem x_cmpeq (C : CX p s m args meth c cc own nL ret Z g) (hf : (if x = y then A else B) = some out) (hd : decode cc pc = .ok (.if_icmp .eq off, 3)) (ht : (pc : Int) + off = (tgt : Int)) (kt : A = some out → W p l e R s m args below meth c H locs cells slots Q (F0 m tgt ls rest)) (kf : B = some out → W p l e R s m args below meth c H locs cells slots Q (F0 m (pc + 3) ls rest)) : W p l e R s m args below meth c H locs cells slots Q (F0 m pc ls (.int y :: .int x :: rest)) :=
  lv_icmp_eq C.1 C.2.1 hd ht (fun q => kt ((if_pos q).symm.trans hf)) (fun q => kf ((if_neg q).symm.trans hf))
theorem x_cmpne (C : CX p s m args meth c cc own nL ret Z g) (hf : (if x = y then A else B) = some out) (hd : decode cc pc = .ok (.if_icmp .ne off, 3)) (ht : (pc : Int) + off = (tgt : Int)) (kt : B = some out → W p l e R s m args below meth c H locs cells slots Q (F0 m tgt ls rest)) (kf : A = some out → W p l e R s m args below meth c H locs cells slots Q (F0 m (pc + 3) ls rest)) : W p l e R s m args below meth c H locs cells slots Q (F0 m pc ls (.int y :: .int x :: rest)) :=
  lv_icmp_ne C.1 C.2.1 hd ht (fun q => kt ((if_neg q).symm.trans hf)) (fun q => kf ((if_pos q).symm.trans hf))
theorem x_cmplt (C : CX p s m args meth c cc own nL ret Z g) (hf : (if x < y then A else B) = some out) (hd : decode cc pc = .ok (.if_icmp .lt off, 3)) (ht : (pc : Int) + off = (tgt : Int)) (kt : A = some out → W p l e R s m args below meth c H locs cells slots Q (F0 m tgt ls rest)) (kf : B = some out → W p l e R s m args below meth c H locs cells slots Q (F0 m (pc + 3) ls rest)) : W p l e R s m args below meth c H locs cells slots Q (F0 m pc ls (.int y :: .int x :: rest)) :=
  lv_icmp_lt C.1 C.2.1 hd ht (fun q => kt ((if_pos q).symm.trans hf)) (fun q => kf ((if_neg q).symm.trans hf))
theorem x_cmpge (C : CX p s m args meth c cc own nL ret Z g) (hf : (if x < y then A else B) = some out) (hd : decode cc pc = .ok (.if_icmp .ge off, 3)) (ht : (pc : Int) + off = (tgt : Int)) (kt : B = some out → W p l e R s m args below meth c H locs cells slots Q (F0 m tgt ls rest)) (kf : A = some out → W p l e R s m args below meth c H locs cells slots Q (F0 m (pc + 3) ls rest)) : W p l e R s m args below meth c H locs cells slots Q (F0 m pc ls (.int y :: .int x :: rest)) :=
  lv_icmp_ge C.1 C.2.1 hd ht (fun q => kt ((if_neg (Int32.not_lt.mpr q)).symm.trans hf)) (fun q => kf ((if_pos (Int32.not_le.mp q)).symm.trans hf))
theorem x_cmpgt (C : CX p s m args meth c cc own nL ret Z g) (hf : (if y < x then A else B) = some out) (hd : decode cc pc = .ok (.if_icmp .gt off, 3)) (ht : (pc : Int) + off = (tgt : Int)) (kt : A = some out → W p l e R s m args below meth c H locs cells slots Q (F0 m tgt ls rest)) (kf : B = some out → W p l e R s m args below meth c H locs cells slots Q (F0 m (pc + 3) ls rest)) : W p l e R s m args below meth c H locs cells slots Q (F0 m pc ls (.int y :: .int x :: rest)) :=
  lv_icmp_gt C.1 C.2.1 hd ht (fun q => kt ((if_pos q).symm.trans hf)) (fun q => kf ((if_neg q).symm.trans hf))
theorem x_cmple (C : CX p s m args meth c cc own nL ret Z g) (hf : (if y < x then A else B) = some out) (hd : decode cc pc = .ok (.if_icmp .le off, 3)) (ht : (pc : Int) + off = (tgt : Int)) (kt : B = some out → W p l e R s m args below meth c H locs cells slots Q (F0 m tgt ls rest)) (kf : A = some out → W p l e R s m args below meth c H locs cells slots Q (F0 m (pc + 3) ls rest)) : W p l e R s m args below meth c H locs cells slots Q (F0 m pc ls (.int y :: .int x :: rest)) :=
  lv_icmp_le C.1 C.2.1 hd ht (fun q => kt ((if_neg (Int32.not_lt.mpr q)).symm.trans hf)) (fun q => kf ((if_pos (Int32.not_le.mp q)).symm.trans hf))
/-- a number is kept in a local under a new name -/
theorem x_istn (C : CX p s m args meth c cc own nL ret Z g) {k : Fin 4} {i : Nat} {lv : List (Nat × Value)} {K : Int32 → Option β} (hf : stp x K = some out) (hd : decode cc pc = .ok (.istore_n k, 1)) (hi : (k : Nat) = i) (hl : lv_has ls nL lv) (hn : i < nL) (lvf : Int32 → List (Nat × Value)) (he : ∀ z : Int32, (i, Value.int z) :: lv.filter (fun q => !(q.1 == i) && !(q.1 + 1 == i && q.2.category == 2)) = lvf z)
    (kk : ∀ (z : Int32) (ls : Array Slot), K z = some out → lv_has ls nL (lvf z) → W p l e R s m args below meth c H locs cells slots Q (F0 m (pc + 1) ls rest)) : W p l e R s m args below meth c H locs cells slots Q (F0 m pc ls (.int x :: rest)) :=
  lv_istore_n C.1 C.2.1 hd hi hl hn (he x) (fun ls q => kk x ls hf q)
theorem x_ist (C : CX p s m args meth c cc own nL ret Z g) {i : Nat} {lv : List (Nat × Value)} {K : Int32 → Option β} (hf : stp x K = some out) (hd : decode cc pc = .ok (.istore i, 2)) (hl : lv_has ls nL lv) (hn : i < nL) (lvf : Int32 → List (Nat × Value)) (he : ∀ z : Int32, (i, Value.int z) :: lv.filter (fun q => !(q.1 == i) && !(q.1 + 1 == i && q.2.category == 2)) = lvf z)
    (kk : ∀ (z : Int32) (ls : Array Slot), K z = some out → lv_has ls nL (lvf z) → W p l e R s m args below meth c H locs cells slots Q (F0 m (pc + 2) ls rest)) : W p l e R s m args below meth c H locs cells slots Q (F0 m pc ls (.int x :: rest)) :=
  lv_istore C.1 C.2.1 hd hl hn (he x) (fun ls q => kk x ls hf q)
theorem x_iinc (C : CX p s m args meth c cc own nL ret Z g) {i k : Nat} {n : Int} {w : Int32} {lv : List (Nat × Value)} {K : Int32 → Option β} (hf : stp (x + w) K = some out) (hd : decode cc pc = .ok (.iinc i n, 3)) (hl : lv_has ls nL lv) (hk : lv[k]? = some (i, .int x)) (hw : Int32.ofInt n = w) (hn : i < nL) (lvf : Int32 → List (Nat × Value)) (he : ∀ z : Int32, (i, Value.int z) :: lv.filter (fun q => !(q.1 == i) && !(q.1 + 1 == i && q.2.category == 2)) = lvf z)
    (kk : ∀ (z : Int32) (ls : Array Slot), K z = some out → lv_has ls nL (lvf z) → W p l e R s m args below meth c H locs cells slots Q (F0 m (pc + 3) ls rest)) : W p l e R s m args below meth c H locs cells slots Q (F0 m pc ls rest) :=
  lv_iinc C.1 C.2.1 hd hl hk (by rw [hw]) hn (he _) (fun ls q => kk _ ls hf q)
/-- a division by a number that isn't 0 -/
theorem x_swin (C : CX p s m args meth c cc own nL ret Z g) {dflt lo hi : Int} {offs : Array Int} {len : Nat} {w : Int32} (q : x = w) (hd : decode cc pc = .ok (.tableswitch dflt lo hi offs, len)) (h1 : ¬ w.toInt < lo) (h2 : ¬ hi < w.toInt) (ho : offs[(w.toInt - lo).toNat]? = some off) (ht : (pc : Int) + off = (tgt : Int))
    (k : W p l e R s m args below meth c H locs cells slots Q (F0 m tgt ls rest)) : W p l e R s m args below meth c H locs cells slots Q (F0 m pc ls (.int x :: rest)) := by
  subst q
  exact lv_tableIn C.1 C.2.1 hd h1 h2 ho ht k
theorem x_nN {n : Nat} (hx : ∀ k : Nat, k ≤ n → ¬ x = nI k) (hn : n < 2 ^ 31) : x.toInt < 0 ∨ (n : Int) < x.toInt := by
  rcases Int.lt_or_le x.toInt 0 with q | q
  · exact Or.inl q
  · right
    apply Classical.byContradiction
    intro z
    have h2 : x.toInt.toNat ≤ n := by omega
    refine hx x.toInt.toNat h2 (Int32.toInt_inj.mp ?_)
    rw [nI_toInt (by omega)]
    omega
theorem x_iret {post : Int32 → Unit → Prop} (C : CX p s m args meth c cc own nL (some .int) Z g) (hW : XW Z h g s.heap H locs) (hd : decode cc pc = .ok (.ireturn, 1)) (hp : post x ()) : W p l e R s m args below meth c H locs cells slots (MQ below (va_Qi post (fun _ => Wd Z h g) (FR Z)) args s cells slots (FR Z)) (F0 m pc ls [.int x]) :=
  W.iret C.1 C.2.1 C.2.2.2.2.2.1 (fun t ht hw => ⟨⟨x, (), rfl, hp, by rw [ht]; exact hW.1, va_K.moved hw.alike C.2.2.2.2.2.2.2.1, C.2.2.2.2.2.2.2.2.1, by rw [ht]; exact Nat.le_trans C.2.2.2.2.2.2.2.2.2.1 hW.2.1, by rw [ht]; exact C.2.2.2.2.2.2.2.2.2.2.to hW.2 hw⟩, hW.2.F ht⟩) hW.2.2.2 hd C.2.2.2.2.2.2.1
theorem x_zret {post : Int32 → Unit → Prop} (C : CX p s m args meth c cc own nL (some .boolean) Z g) (hW : XW Z h g s.heap H locs) (hz : zb x = true) (hd : decode cc pc = .ok (.ireturn, 1)) (hp : post x ()) : W p l e R s m args below meth c H locs cells slots (MQ below (va_Qi post (fun _ => Wd Z h g) (FR Z)) args s cells slots (FR Z)) (F0 m pc ls [.int x]) :=
  W.zret C.1 C.2.1 C.2.2.2.2.2.1 (zb_n hz) (fun t ht hw => ⟨⟨x, (), rfl, hp, by rw [ht]; exact hW.1, va_K.moved hw.alike C.2.2.2.2.2.2.2.1, C.2.2.2.2.2.2.2.2.1, by rw [ht]; exact Nat.le_trans C.2.2.2.2.2.2.2.2.2.1 hW.2.1, by rw [ht]; exact C.2.2.2.2.2.2.2.2.2.2.to hW.2 hw⟩, hW.2.F ht⟩) hW.2.2.2 hd C.2.2.2.2.2.2.1
theorem x_vret {post : Unit → Prop} (C : CX p s m args meth c cc own nL none Z g) (hW : XW Z h g s.heap H locs) (hd : decode cc pc = .ok (.return_, 1)) (hp : post ()) : W p l e R s m args below meth c H locs cells slots (MQ below (va_Qv post (fun _ => Wd Z h g) (FR Z)) args s cells slots (FR Z)) (F0 m pc ls []) :=
  W.vret C.1 C.2.1 C.2.2.2.2.2.1 (fun t ht hw => ⟨⟨(), rfl, hp, by rw [ht]; exact hW.1, va_K.moved hw.alike C.2.2.2.2.2.2.2.1, C.2.2.2.2.2.2.2.2.1, by rw [ht]; exact Nat.le_trans C.2.2.2.2.2.2.2.2.2.1 hW.2.1, by rw [ht]; exact C.2.2.2.2.2.2.2.2.2.2.to hW.2 hw⟩, hW.2.F ht⟩) hW.2.2.2 hd C.2.2.2.2.2.2.1
end XI
/-- a contract out of a walk -/
theorem metX {l : Launch} {y : MethodName} {cc : ByteArray} {maxL : Nat} {ret : Option FieldType} {rm : Room} {As : List Value} {Z : ZT} {h : Hp} {g : va_W} {Qc : Array Value → State → Outcome → State → Prop} (own : String) (hown : y.cls = own) (hpl : plainName y.cls = true) (hlen : (lg_sl As).length ≤ maxL)
    (body : ∀ (p : Program) (e : Env) (s : State) (m : MethodId) (args : Array Value) (below : List Frame) (meth : Method) (c : Code), CX p s m args meth c cc own maxL ret Z g → XW Z h g s.heap s.heap [] → ∀ ls : Array Slot, lv_has ls maxL (lv_args 0 As) → W p l e rm s m args below meth c s.heap [] 0 0 (MQ below Qc args s 0 0 (FR Z)) (F0 m 0 ls [])) :
    Met l y (wY y cc maxL ret) rm (va_Pc As (Wd Z h g)) Qc 0 0 (FR Z) := by
  refine Met.ofW (cc := cc) (maxL := maxL) (ret := ret) hpl rfl ?_
  intro p e s m args below meth c s₁ B hml hv
  obtain ⟨rfl, hP, hK, hD, hz, hSX⟩ := hv
  have hts := atoms_spec (ws := wY y cc maxL ret) B.pre
  have hl := lv_entry As (n := maxL) hlen
  rw [lg_entry_eq]
  generalize (lg_sl As ++ List.replicate (maxL - (lg_sl As).length) Slot.unset).toArray = ls at hl ⊢
  exact body p e s m _ below meth c ⟨B.exec, B.bytes, fun w hw => hts w (List.mem_cons_of_mem _ hw), by rw [← hown]; exact findClass_of_methodNamed B.named, hml, B.returns, B.notSynchronized, hK, hD, hz, hSX⟩ ⟨hP, va_S.rf⟩ ls hl
/-- the words of a call -/
def CWd (own : String) (idx : Nat) (y : MethodName) (bytes : ByteArray) (maxL : Nat) (rt : Option FieldType) (n : Nat) : Prop :=
  Cond.methodLink own idx y ∈ TW ∧ Cond.code y bytes maxL rt ∈ TW ∧ Cond.initialized y.cls ∈ TW ∧ (y.cls ≠ "java/lang/invoke/MethodHandle" ∧ y.cls ≠ "java/lang/invoke/VarHandle" ∧ (parseMethodDescriptor y.desc).map (fun d => d.parameters.length) = some n)
def RmOk (rm R : Room) (maxL : Nat) : Prop := rm.cells = 0 ∧ rm.slots = 0 ∧ rm.frames + 1 ≤ R.frames ∧ 8 + (maxL + 11) + rm.locals ≤ R.locals
theorem rm_ok {a b maxL : Nat} (h : a < b) (hm : maxL ≤ 30) : RmOk (rmD a) (rmD b) maxL := ⟨rfl, rfl, by show 2 + a + 1 ≤ 2 + b; omega, by show 8 + (maxL + 11) + (50 + 50 * a) ≤ 50 + 50 * b; omega⟩
theorem Wd_blind {As : List Value} {Z : ZT} {h : Hp} {g : va_W} : FrameBlind (va_Pc As (Wd Z h g)) := fun a U gg mk q => ⟨q.1, q.2.1, va_K.moved (u := U) (U := U.calling gg mk a) (Vm.Alike.refl U.vm) q.2.2.1, q.2.2.2.1, q.2.2.2.2.1, q.2.2.2.2.2.to va_S.rf (State.WarmedH.refl U)⟩
section XC
variable {p : Program} {l : Launch} {e : Env} {R : Room} {s : State} {m : MethodId} {args : Array Value} {below : List Frame} {meth : Method} {c : Code} {H : Heap} {locs : List Loc} {cells slots : Nat} {Q : State → Prop} {cc bytes : ByteArray} {pc nL maxL n idx : Nat} {ret rt : Option FieldType} {ls : Array Slot} {rest st As : List Value} {Z : ZT} {h h1 : Hp} {g g1 : va_W} {own : String} {y : MethodName} {rm : Room} {lv : List (Nat × Value)}
theorem x_pre (C : CX p s m args meth c cc own nL ret Z g) (hW : XW Z h g s.heap H locs) : PreS s H (va_Pc As (Wd Z h g)) As :=
  ⟨Wd_blind, fun U hU hw => ⟨rfl, by rw [hU]; exact hW.1, va_K.moved hw.alike C.2.2.2.2.2.2.2.1, C.2.2.2.2.2.2.2.2.1, by rw [hU]; exact Nat.le_trans C.2.2.2.2.2.2.2.2.2.1 hW.2.1, by rw [hU]; exact C.2.2.2.2.2.2.2.2.2.2.to hW.2 hw⟩⟩
theorem x_runV (C : CX p s m args meth c cc own nL ret Z g) (hW : XW Z h g s.heap H locs) (hl : lv_has ls nL lv) {o ci N : Nat} {T : u_T} {fs : List Value} {Cn : String} {Qc : Array Value → State → Outcome → State → Prop} (ho : (wl Z h g)[o]? = some (Z.1 o, .inr (ci, fs))) (hc : vwCl[ci]? = some (Cn, T, N)) (hcn : y.cls = Cn)
    (hm : Met l y (wY y bytes maxL rt) rm (va_Pc (.ref (Z.1 o) :: As) (Wd Z h g)) Qc 0 0 (FR Z)) (hw : CWd own idx y bytes maxL rt n) (hi : Cond.instanceMethod y ∈ TW) (hs : Cond.selects y.cls y y ∈ TW) (hr : RmOk rm R maxL) (hcs : cells ≤ R.cells ∧ slots ≤ R.slots) (hn : As.length = n) (hst : st = As.reverse ++ .ref (Z.1 o) :: rest) (hcat : (rest.map fun v => v.category).sum ≤ 8) (hd : decode cc pc = .ok (.invokevirtual idx, 3)) :
    va_Run p l e R s m args below meth c H locs cells slots 0 0 (F0 m pc ls st) rest (Qc (Value.ref (Z.1 o) :: As).toArray) (FR Z) := by
  have hts := C.2.2.1
  refine va_runV (bytes := bytes) (maxL := maxL) (ret := rt) (As := As) (rest := rest) (b := Z.1 o) (C := Cn) (n := n) ⟨C.1, C.2.1, C.2.2.2.2.1, C.2.2.2.1, hts⟩ hm ?_ ⟨Wd_blind, va_recv C.2.2.2.2.2.2.2.1 hW.1 hc ho, (x_pre C hW).2⟩ rfl hn hl.1 hst (lv_room hcat) hd ⟨hcs.1, hcs.2⟩
  subst hcn
  exact ⟨callB_of n hts (wY_good hw.2.1) rfl hr.1 hr.2.1 (hts _ hw.2.2.1) (hts _ hw.1) hw.2.2.2 hr.2.2, hts _ hi, hts _ hs⟩
theorem x_runS (C : CX p s m args meth c cc own nL ret Z g) (hW : XW Z h g s.heap H locs) (hl : lv_has ls nL lv) {Qc : Array Value → State → Outcome → State → Prop}
    (hm : Met l y (wY y bytes maxL rt) rm (va_Pc As (Wd Z h g)) Qc 0 0 (FR Z)) (hw : CWd own idx y bytes maxL rt n) (hi : Cond.static y ∈ TW) (hr : RmOk rm R maxL) (hcs : cells ≤ R.cells ∧ slots ≤ R.slots) (hn : As.length = n) (hst : st = As.reverse ++ rest) (hcat : (rest.map fun v => v.category).sum ≤ 8) (hd : decode cc pc = .ok (.invokestatic idx, 3)) :
    va_Run p l e R s m args below meth c H locs cells slots 0 0 (F0 m pc ls st) rest (Qc As.toArray) (FR Z) := by
  have hts := C.2.2.1
  exact va_runS (bytes := bytes) (maxL := maxL) (ret := rt) (As := As) (rest := rest) (n := n) ⟨C.1, C.2.1, C.2.2.2.2.1, C.2.2.2.1, hts⟩ hm ⟨callB_of n hts (wY_good hw.2.1) rfl hr.1 hr.2.1 (hts _ hw.2.2.1) (hts _ hw.1) hw.2.2.2 hr.2.2, hts _ hi⟩ (x_pre C hW) rfl hn hl.1 hst (lv_room hcat) hd ⟨hcs.1, hcs.2⟩
theorem x_calli {v : Int32} {a : Array Value} {st0 : List Value} (hW : XW Z h g s.heap H locs) (hr : va_Run p l e R s m args below meth c H locs cells slots 0 0 (F0 m pc ls st0) rest (va_Qi (fun r (_ : Unit) => r = v) (fun _ => Wd Z h1 g1) (FR Z) a) (FR Z))
    (kk : ∀ (H1 : Heap) (locs1 : List Loc), XW Z h1 g1 s.heap H1 locs1 → W p l e R s m args below meth c H1 locs1 cells slots Q (F0 m (pc + 3) ls (.int v :: rest))) : W p l e R s m args below meth c H locs cells slots Q (F0 m pc ls st0) :=
  va_calli hr hW.2 (fun _ _ q => q) (fun _ q => q) (fun r u t H1 locs1 ht hvm hp hB _ _ hS => by
    subst hp
    exact kk H1 locs1 ⟨by rw [← ht]; exact hB.1, hS⟩)
theorem x_callv {a : Array Value} {st0 : List Value} (hW : XW Z h g s.heap H locs) (hr : va_Run p l e R s m args below meth c H locs cells slots 0 0 (F0 m pc ls st0) rest (va_Qv (fun (_ : Unit) => True) (fun _ => Wd Z h1 g1) (FR Z) a) (FR Z))
    (kk : ∀ (H1 : Heap) (locs1 : List Loc), XW Z h1 g1 s.heap H1 locs1 → W p l e R s m args below meth c H1 locs1 cells slots Q (F0 m (pc + 3) ls rest)) : W p l e R s m args below meth c H locs cells slots Q (F0 m pc ls st0) :=
  va_callv hr hW.2 (fun _ _ q => q) (fun _ q => q) (fun u t H1 locs1 ht hvm hp hB _ _ hS => kk H1 locs1 ⟨by rw [← ht]; exact hB.1, hS⟩)
theorem x_max (C : CX p s m args meth c cc own nL ret Z g) (hl : lv_has ls nL lv) {x y : Int32} (hk : Cond.methodLink own idx Lib.Math.max.name ∈ TW) (hR : 1 ≤ R.frames ∧ 21 ≤ R.locals) (hcs : cells ≤ R.cells ∧ slots ≤ R.slots) (hcat : (rest.map fun v => v.category).sum ≤ 8) (hd : decode cc pc = .ok (.invokestatic idx, 3)) (kk : W p l e R s m args below meth c H locs cells slots Q (F0 m (pc + 3) ls (.int (imax x y) :: rest))) : W p l e R s m args below meth c H locs cells slots Q (F0 m pc ls (.int y :: .int x :: rest)) :=
  va_mmax C.1 C.2.1 (C.2.2.2.2.1.trans hl.1.symm) C.2.2.2.1 (C.2.2.1 _ hk) (C.2.2.1 _ wj_max.1) (C.2.2.1 _ wj_max.2.1) (C.2.2.1 _ wj_max.2.2) hR.1 (by omega) hcs.1 hcs.2 hd kk
theorem x_min (C : CX p s m args meth c cc own nL ret Z g) (hl : lv_has ls nL lv) {x y : Int32} (hk : Cond.methodLink own idx Lib.Math.min.name ∈ TW) (hR : 1 ≤ R.frames ∧ 21 ≤ R.locals) (hcs : cells ≤ R.cells ∧ slots ≤ R.slots) (hcat : (rest.map fun v => v.category).sum ≤ 8) (hd : decode cc pc = .ok (.invokestatic idx, 3)) (kk : W p l e R s m args below meth c H locs cells slots Q (F0 m (pc + 3) ls (.int (imin x y) :: rest))) : W p l e R s m args below meth c H locs cells slots Q (F0 m pc ls (.int y :: .int x :: rest)) :=
  va_mmin C.1 C.2.1 (C.2.2.2.2.1.trans hl.1.symm) C.2.2.2.1 (C.2.2.1 _ hk) (C.2.2.1 _ wj_min.1) (C.2.2.1 _ wj_min.2.1) (C.2.2.1 _ wj_min.2.2) hR.1 (by omega) hcs.1 hcs.2 hd kk
end XC
