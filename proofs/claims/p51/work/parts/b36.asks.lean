/-! the questions that the law puts to the class: asks catches -/
theorem metZW {l : Launch} {y : MethodName} {cc : ByteArray} {maxL mc ms : Nat} {ret : Option FieldType} {hh : List (Nat × Nat × Nat × Nat)} {rm : Room} {As : List Value} {Z : ZT} {h : Hp} {a : Nat → Nat} {g : PL} {Qc : Array Value → State → Outcome → State → Prop} (own : String) (hown : y.cls = own) (hpl : plainName y.cls = true) (hlen : (lg_sl As).length ≤ maxL)
    (body : ∀ (p : Program) (e : Env) (s : State) (m : MethodId) (args : Array Value) (below : List Frame) (meth : Method) (c : Code), CQ p s m args meth c cc own maxL ret Z → c.exceptionTable.toList = tableOf hh → XG Z h a g s.heap s.heap [] → ∀ ls : Array Slot, lv_has ls maxL (lv_args 0 As) → W p l e rm s m args below meth c s.heap [] 0 0 (MQ below Qc args s mc ms (FR Z)) (F0 m 0 ls [])) :
    Met l y (wYW y cc maxL ret hh) rm (va_Pc As (WdP Z h a g)) Qc mc ms (FR Z) := by
  refine MetFree.of_bodyS (code := cc) (maxLocals := maxL) (ret := ret) hpl ?_ ?_
  · intro args s m hq hn
    obtain ⟨m9, meth, c, hn9, h1, h2, h3, h4, -, h5, h6, -⟩ := Cond.codeWith_spec (atoms_spec (ws := wYW y cc maxL ret hh) hq _ List.mem_cons_self)
    cases hn.symm.trans hn9
    exact ⟨meth, c, h1, h2, h3, h4, h5, h6⟩
  · intro p e s m args below meth c s₁ B hml hv _
    have hh0 : s₁.heap = s.heap := by rw [B.state]; rfl
    obtain ⟨rfl, hP, hK, hD, hz, hSX, hPX, hPW⟩ := hv
    have hts := atoms_spec (ws := wYW y cc maxL ret hh) B.pre
    have htab := vx_table (x := y) B (hts _ List.mem_cons_self)
    have hl := lv_entry As (n := maxL) hlen
    have body' : ∀ ls : Array Slot, lv_has ls maxL (lv_args 0 As) → W p l e rm s m As.toArray below meth c s.heap [] 0 0 (MQ below Qc As.toArray s mc ms (FR Z)) (F0 m 0 ls []) := body p e s m _ below meth c ⟨B.exec, B.bytes, fun w hw => hts w (List.mem_cons_of_mem _ hw), by rw [← hown]; exact findClass_of_methodNamed B.named, hml, B.returns, B.notSynchronized, hK, hz, hSX, hPX⟩ htab ⟨hP, va_S.rf, hD, hPW⟩
    have K : W p l e rm s m As.toArray below meth c s.heap [] 0 0 (MQ below Qc As.toArray s mc ms (FR Z)) (entryFrame m As.toArray maxL) := by
      rw [lg_entry_eq]
      exact body' _ hl
    obtain ⟨t, a1, o, b1, b2, b3⟩ := K s₁ hh0 (Stand.of_body B)
    exact ⟨t, o, a1, b1, b2, ⟨b3.1, b3.2⟩⟩
theorem cl_L_75 : Cond.classLink RL 75 "java/lang/IndexOutOfBoundsException" ∈ TW := TW_of 833 (by decide +kernel) (by decide +kernel)
theorem cl_L_78 : Cond.classLink RL 78 "java/lang/IllegalArgumentException" ∈ TW := TW_of 834 (by decide +kernel) (by decide +kernel)
theorem cl_L_81 : Cond.classLink RL 81 "java/lang/IllegalStateException" ∈ TW := TW_of 835 (by decide +kernel) (by decide +kernel)
theorem dA_240 : decode cL_asks 240 = .ok (.astore 5, 2) := by decide +kernel
theorem dA_242 : decode cL_asks 242 = .ok (.ldc 77, 2) := by decide +kernel
theorem dA_244 : decode cL_asks 244 = .ok (.ireturn, 1) := by decide +kernel
theorem dA_245 : decode cL_asks 245 = .ok (.astore 5, 2) := by decide +kernel
theorem dA_247 : decode cL_asks 247 = .ok (.ldc 80, 2) := by decide +kernel
theorem dA_249 : decode cL_asks 249 = .ok (.ireturn, 1) := by decide +kernel
theorem dA_250 : decode cL_asks 250 = .ok (.astore 5, 2) := by decide +kernel
theorem dA_252 : decode cL_asks 252 = .ok (.ldc 83, 2) := by decide +kernel
theorem dA_254 : decode cL_asks 254 = .ok (.ireturn, 1) := by decide +kernel
def okc (tag ct : Nat) : Bool := (ct == 75 && (tag == 2 || tag == 3)) || (ct == 78 && tag == 3)
def passB (tag pc : Nat) (z : Nat × Nat × Nat × Nat) : Bool := !(decide (z.1 ≤ pc) && decide (pc < z.2.1)) || okc tag z.2.2.2
def hdl (tag : Nat) : Nat := match tag with | 1 => 240 | 2 => 245 | _ => 250
def ctl (tag : Nat) : Nat := match tag with | 1 => 75 | 2 => 78 | _ => 81
def catB (tag pc i : Nat) : Bool := match hhA[i]? with
  | some (b, e, hd, ct) => decide (b ≤ pc) && decide (pc < e) && (hd == hdl tag) && (ct == ctl tag) && (hhA.take i).all (passB tag pc)
  | none => false
theorem tab_split {i : Nat} {x : Nat × Nat × Nat × Nat} (h : hhA[i]? = some x) : hhA = hhA.take i ++ x :: hhA.drop (i + 1) := by
  obtain ⟨h1, h2⟩ := List.getElem?_eq_some_iff.mp h
  rw [← h2, ← List.drop_eq_getElem_cons h1, List.take_append_drop]
theorem tabO_app {x y : List (Nat × Nat × Nat × Nat)} : tableOf (x ++ y) = tableOf x ++ tableOf y := by unfold tableOf; exact List.map_append
section ZQ
variable {p : Program} {l : Launch} {e : Env} {R : Room} {s : State} {m : MethodId} {args : Array Value} {below : List Frame} {meth : Method} {c : Code} {H : Heap} {locs : List Loc} {cells slots : Nat} {Q : State → Prop} {cc bytes : ByteArray} {pc nL maxL n idx mc ms tag i : Nat} {ret rt : Option FieldType} {ls : Array Slot} {rest st As : List Value} {Z : ZT} {h h1 : Hp} {a : Nat → Nat} {g : PL} {rm : Room} {lv : List (Nat × Value)} {y : MethodName} {v : Int32}
theorem z_catch {q : Nat} {ce : Cell} (C : CQ p s m args meth c cL_asks RL 6 (some .int) Z) (htab : c.exceptionTable.toList = tableOf hhA) (ht : tag = 1 ∨ tag = 2 ∨ tag = 3) (hc : catB tag pc i = true) (hcell : H[q]? = some ce) (hv : ce.vm = .none) (hcl : s.vm.findClass (exn tag) = some ce.cls)
    (kk : W p l e R s m args below meth c H locs cells slots Q (F0 m (hdl tag) ls [.ref q])) : vx_W p l e R s m args below meth c H locs cells slots Q (F0 m pc ls rest) q := by
  have hSN := C.2.2.2.2.2.2.2.2.2.1.2.2.2.2.2.2
  have hN3 := C.2.2.2.2.2.2.2.2.2.2.2.2.1.2.2
  unfold catB at hc
  cases hx : hhA[i]? with
  | none => rw [hx] at hc; cases hc
  | some x =>
    obtain ⟨b, en, hd, ct⟩ := x
    rw [hx] at hc
    simp only [Bool.and_eq_true, decide_eq_true_eq, beq_iff_eq] at hc
    obtain ⟨⟨⟨⟨c1, c2⟩, c3⟩, c4⟩, c5⟩ := hc
    subst c3
    subst c4
    rw [tab_split hx, tabO_app] at htab
    have hlink : Cond.classLink RL (ctl tag) (exn tag) ∈ TW := by
      rcases ht with rfl | rfl | rfl
      · exact cl_L_75
      · exact cl_L_78
      · exact cl_L_81
    have hcast : (exn tag, exn tag) ∈ casts := by rcases ht with rfl | rfl | rfl <;> decide
    refine vx_catch C.2.2.2.1 (tableOf (hhA.take i)) ⟨b, en, hdl tag, ctl tag⟩ (tableOf (hhA.drop (i + 1))) htab (fun z hz => ?_) (by unfold covers; simp [c1, c2]) (show ctl tag ≠ 0 from by rcases ht with rfl | rfl | rfl <;> decide) (C.2.2.1 _ hlink) (va_Nw.use rfl (hSN.1 _ hcast)) hcell hv hcl kk
    unfold tableOf at hz
    obtain ⟨z0, hz0, rfl⟩ := List.mem_map.mp hz
    have hp := List.all_eq_true.mp c5 z0 hz0
    unfold passB at hp
    rw [Bool.or_eq_true] at hp
    rcases hp with hp | hp
    · left
      unfold covers
      simp only [Bool.not_eq_true', Bool.and_eq_false_iff, decide_eq_false_iff_not] at hp ⊢
      exact hp
    · right
      unfold okc at hp
      simp only [Bool.or_eq_true, Bool.and_eq_true, beq_iff_eq] at hp
      rcases hp with ⟨e1, e2⟩ | ⟨e1, e2⟩
      · refine ⟨by show z0.2.2.2 ≠ 0; omega, "java/lang/IndexOutOfBoundsException", by show (Cond.classLink RL z0.2.2.2 _).before args s = true; rw [e1]; exact C.2.2.1 _ cl_L_75, ?_⟩
        rcases e2 with rfl | rfl
        · exact hSN.2 (exn 2, "java/lang/IndexOutOfBoundsException") (by decide)
        · exact hSN.2 (exn 3, "java/lang/IndexOutOfBoundsException") (by decide)
      · refine ⟨by show z0.2.2.2 ≠ 0; omega, "java/lang/IllegalArgumentException", by show (Cond.classLink RL z0.2.2.2 _).before args s = true; rw [e1]; exact C.2.2.1 _ cl_L_78, ?_⟩
        subst e2
        exact hN3
theorem ask_end (C : CQ p s m args meth c cL_asks RL 6 (some .int) Z) (hl : lv_has ls 6 lv) (hW : XG Z h a g s.heap H locs) (ht : tag = 1 ∨ tag = 2 ∨ tag = 3) {q : Nat} : W p l e R s m args below meth c H locs cells slots (MQ below (va_Qi (fun r (_ : Unit) => r = xcode tag v) (fun _ => WdP Z h a g) (FR Z)) args s cells slots (FR Z)) (F0 m (hdl tag) ls [.ref q]) := by
  rcases ht with rfl | rfl | rfl
  · refine lv_astore C.1 C.2.1 dA_240 hl (by decide) rfl (fun ls hl => ?_)
    refine lv_ldc C.1 C.2.1 C.2.2.2.1 (C.2.2.1 _ mc_L_77) dA_242 ?_
    exact z_iret C hW dA_244 () rfl (fun _ q => q)
  · refine lv_astore C.1 C.2.1 dA_245 hl (by decide) rfl (fun ls hl => ?_)
    refine lv_ldc C.1 C.2.1 C.2.2.2.1 (C.2.2.1 _ mc_L_80) dA_247 ?_
    exact z_iret C hW dA_249 () rfl (fun _ q => q)
  · refine lv_astore C.1 C.2.1 dA_250 hl (by decide) rfl (fun ls hl => ?_)
    refine lv_ldc C.1 C.2.1 C.2.2.2.1 (C.2.2.1 _ mc_L_83) dA_252 ?_
    exact z_iret C hW dA_254 () rfl (fun _ q => q)
theorem z_tryI {arr : Array Value} {st0 : List Value} (hW : XG Z h a g s.heap H locs) (hr : vx_Run p l e R s m args below meth c H locs cells slots mc (6 * mc) (F0 m pc ls st0) rest (va_Qi (fun r (_ : Unit) => tag = 0 ∧ r = v) (fun _ => Wd Z h1 (pl Z a g)) (FR Z) arr) (XX Z h1 (pl Z a g) tag) (FR Z))
    (kx : tag ≠ 0 → ∀ (H1 : Heap) (locs1 : List Loc) (q : Nat) (ce : Cell), XG Z h1 a g s.heap H1 locs1 → H1[q]? = some ce → ce.vm = .none → s.vm.findClass (exn tag) = some ce.cls → vx_W p l e R s m args below meth c H1 locs1 (cells + mc) (slots + 6 * mc) Q (F0 m pc ls rest) q)
    (kk : tag = 0 → ∀ (H1 : Heap) (locs1 : List Loc), XG Z h1 a g s.heap H1 locs1 → W p l e R s m args below meth c H1 locs1 (cells + mc) (slots + 6 * mc) Q (F0 m (pc + 3) ls (.int v :: rest))) : W p l e R s m args below meth c H locs cells slots Q (F0 m pc ls st0) :=
  vx_calli hr hW.2.1 (fun _ _ q => q) (fun _ q => q) (fun _ _ q => q) (fun E ce q9 u t H1 locs1 ht hvm hp hB _ _ hS hce hcv hcl => by
    obtain ⟨rfl, hP⟩ := hB
    exact kx hp H1 locs1 q9 ce ⟨by rw [← ht]; exact hP, hS, wl_D hW.2.2.1, hW.2.2.2⟩ hce hcv hcl) (fun r u t H1 locs1 ht hvm hp hB _ _ hS => by
    obtain ⟨h0, rfl⟩ := hp
    exact kk h0 H1 locs1 ⟨by rw [← ht]; exact hB.1, hS, wl_D hW.2.2.1, hW.2.2.2⟩)
theorem ask_run {d b i1 i2 i3 : Nat} (C : CQ p s m args meth c cL_asks RL 6 (some .int) Z) (htab : c.exceptionTable.toList = tableOf hhA) (hl : lv_has ls 6 lv) (hW : XG Z h a g s.heap H locs)
    (hm : vx_Met l y (wY y bytes maxL rt) (rmC d (kn tag)) (va_Pc (.ref (Z.1 0) :: As) (Wd Z h (pl Z a g))) (va_Qi (fun r (_ : Unit) => tag = 0 ∧ r = v) (fun _ => Wd Z h1 (pl Z a g)) (FR Z)) (XX Z h1 (pl Z a g) tag) (kn tag) (6 * kn tag) (FR Z)) (hcn : y.cls = RX10) (hw : CWd RL idx y bytes maxL rt n) (hi : Cond.instanceMethod y ∈ TW) (hs : Cond.selects y.cls y y ∈ TW) (hd0 : d < b) (hmL : maxL ≤ 30) (h3 : decide (tag ≤ 3) = true) (hn : As.length = n) (hst : st = As.reverse ++ [.ref (Z.1 0)]) (h1c : catB 1 pc i1 = true) (h2c : catB 2 pc i2 = true) (h3c : catB 3 pc i3 = true) (hd : decode cL_asks pc = .ok (.invokevirtual idx, 3)) (hr : decode cL_asks (pc + 3) = .ok (.ireturn, 1)) :
    W p l e (rmP b (kn tag)) s m args below meth c H locs 0 0 (MQ below (va_Qi (fun r (_ : Unit) => r = xcode tag v) (fun _ => WdP Z h1 a g) (FR Z)) args s (kn tag) (600 * kn tag) (FR Z)) (F0 m pc ls st) := by
  have hts := C.2.2.1
  have h3 := of_decide_eq_true h3
  have hrun : vx_Run p l e (rmP b (kn tag)) s m args below meth c H locs 0 0 (kn tag) (6 * kn tag) (F0 m pc ls st) [] (va_Qi (fun r (_ : Unit) => tag = 0 ∧ r = v) (fun _ => Wd Z h1 (pl Z a g)) (FR Z) (Value.ref (Z.1 0) :: As).toArray) (XX Z h1 (pl Z a g) tag) (FR Z) := by
    refine vx_runV (bytes := bytes) (maxL := maxL) (ret := rt) (As := As) (rest := []) (b := Z.1 0) (C := RX10) (n := n) ⟨C.1, C.2.1, C.2.2.2.2.1, C.2.2.2.1, hts⟩ hm ?_ ⟨Wd_blind, va_recv C.2.2.2.2.2.2.2.1 hW.1 (ci := 8) rfl (wk8 k_0), (z_pre0 C hW).2⟩ rfl hn hl.1 hst (lv_room (Nat.le_of_ble_eq_true rfl)) hd ⟨by show 0 + kn tag ≤ kn tag; omega, by show 0 + 6 * kn tag ≤ 600 * kn tag; omega⟩
    have hs' : Cond.selects RX10 y y ∈ TW := by rw [← hcn]; exact hs
    exact ⟨callB_of n hts (wY_good hw.2.1) rfl rfl rfl (hts _ hw.2.2.1) (hts _ hw.1) hw.2.2.2 ⟨by show 2 + d + 1 ≤ 2 + b; omega, by show 8 + (maxL + 11) + (50 + 50 * d) ≤ 50 + 50 * b; omega⟩, hts _ hi, hts _ hs'⟩
  refine z_tryI hW hrun (fun ht H locs q ce hW hcell hv hcl => ?_) (fun ht H locs hW => ?_)
  · have ht : tag = 1 ∨ tag = 2 ∨ tag = 3 := by omega
    refine vx_widen (k := kn tag) (n := 600 * kn tag) (by omega) (by omega) ?_
    have hc : ∃ i, catB tag pc i = true := by
      rcases ht with rfl | rfl | rfl
      · exact ⟨_, h1c⟩
      · exact ⟨_, h2c⟩
      · exact ⟨_, h3c⟩
    obtain ⟨i, hc⟩ := hc
    exact z_catch C htab ht hc hcell hv hcl (ask_end C hl hW ht)
  · refine W.widen (k := kn tag) (n := 600 * kn tag) (by omega) (by omega) ?_
    exact z_iret C hW hr () (by rw [ht]; rfl) (fun _ q => q)
end ZQ
theorem dA_0 : decode cL_asks 0 = .ok (.iload_n 1, 1) := by decide +kernel
theorem dA_1 : decode cL_asks 1 = .ok (.tableswitch 224 0 18 #[91, 96, 103, 110, 116, 123, 130, 136, 142, 148, 154, 161, 167, 174, 180, 187, 196, 205, 210], 91) := by decide +kernel
theorem dA_92 : decode cL_asks 92 = .ok (.aload_n 0, 1) := by decide +kernel
theorem dA_93 : decode cL_asks 93 = .ok (.invokevirtual 7, 3) := by decide +kernel
theorem dA_96 : decode cL_asks 96 = .ok (.ireturn, 1) := by decide +kernel
theorem cw_LA_7 : CWd RL 7 yX10_load cX10_load 2 (some .int) 0 := ⟨TW_of 836 (by decide +kernel) (by decide +kernel), TW_of 839 (by decide +kernel) (by decide +kernel), TW_of 16 (by decide +kernel) (by decide +kernel), by decide +kernel⟩
theorem k_ask0 {l : Launch} {Z : ZT} {h : Hp} {a : Nat → Nat} {g : PL} {x y z : Int32} {u : Nat × (Int32 × Hp)} (hlt : l.stackTraces = false) (hf : ask0 h x y z = some u) : Met l yL_asks (wYW yL_asks cL_asks 6 (some .int) hhA) (rmP 12 (kn u.1)) (va_Pc [.ref (Z.1 0), .int 0, .int x, .int y, .int z] (WdP Z h a g)) (va_Qi (fun r (_ : Unit) => r = u.2.1) (fun _ => WdP Z u.2.2 a g) (FR Z)) (kn u.1) (600 * kn u.1) (FR Z) := by
  unfold ask0 at hf
  obtain ⟨o, ho, hf⟩ := bnd_t hf
  obtain ⟨h3, hf⟩ := ck_t hf
  obtain rfl := Option.some.inj hf
  refine metZW RL rfl (by decide +kernel) (Nat.le_of_ble_eq_true rfl) ?_
  intro p e s m args below meth c C htab hW ls hl
  have hl : lv_has ls 6 [(0, .ref (Z.1 0)), (1, .int 0), (2, .int x), (3, .int y), (4, .int z)] := hl
  refine lv_iload_n C.1 C.2.1 dA_0 rfl (lv_at hl 1 rfl) ?_
  refine z_swin (tgt := 92) C (w := 0) rfl dA_1 (by decide) (by decide) rfl (by decide) ?_
  refine lv_aload_n C.1 C.2.1 dA_92 rfl (lv_at hl 0 rfl) ?_
  exact ask_run (i1 := 0) (i2 := 20) (i3 := 40) (d := 11) C htab hl hW (c_X10_load hlt ho) rfl cw_LA_7 ci_X10_load cs_X10_load (by decide) (by decide) h3 (As := []) rfl rfl (by decide +kernel) (by decide +kernel) (by decide +kernel) dA_93 dA_96
theorem dA_97 : decode cL_asks 97 = .ok (.aload_n 0, 1) := by decide +kernel
theorem dA_98 : decode cL_asks 98 = .ok (.iload_n 2, 1) := by decide +kernel
theorem dA_99 : decode cL_asks 99 = .ok (.iload_n 3, 1) := by decide +kernel
theorem dA_100 : decode cL_asks 100 = .ok (.invokevirtual 13, 3) := by decide +kernel
theorem dA_103 : decode cL_asks 103 = .ok (.ireturn, 1) := by decide +kernel
theorem cw_LA_13 : CWd RL 13 yX10_wordField cX10_wordField 4 (some .int) 2 := ⟨TW_of 1001 (by decide +kernel) (by decide +kernel), TW_of 1004 (by decide +kernel) (by decide +kernel), TW_of 16 (by decide +kernel) (by decide +kernel), by decide +kernel⟩
theorem k_ask1 {l : Launch} {Z : ZT} {h : Hp} {a : Nat → Nat} {g : PL} {x y z : Int32} {u : Nat × (Int32 × Hp)} (hlt : l.stackTraces = false) (hf : ask1 h x y z = some u) : Met l yL_asks (wYW yL_asks cL_asks 6 (some .int) hhA) (rmP 12 (kn u.1)) (va_Pc [.ref (Z.1 0), .int 1, .int x, .int y, .int z] (WdP Z h a g)) (va_Qi (fun r (_ : Unit) => r = u.2.1) (fun _ => WdP Z u.2.2 a g) (FR Z)) (kn u.1) (600 * kn u.1) (FR Z) := by
  unfold ask1 at hf
  obtain ⟨o, ho, hf⟩ := bnd_t hf
  obtain ⟨h3, hf⟩ := ck_t hf
  obtain rfl := Option.some.inj hf
  refine metZW RL rfl (by decide +kernel) (Nat.le_of_ble_eq_true rfl) ?_
  intro p e s m args below meth c C htab hW ls hl
  have hl : lv_has ls 6 [(0, .ref (Z.1 0)), (1, .int 1), (2, .int x), (3, .int y), (4, .int z)] := hl
  refine lv_iload_n C.1 C.2.1 dA_0 rfl (lv_at hl 1 rfl) ?_
  refine z_swin (tgt := 97) C (w := 1) rfl dA_1 (by decide) (by decide) rfl (by decide) ?_
  refine lv_aload_n C.1 C.2.1 dA_97 rfl (lv_at hl 0 rfl) ?_
  refine lv_iload_n C.1 C.2.1 dA_98 rfl (lv_at hl 2 rfl) ?_
  refine lv_iload_n C.1 C.2.1 dA_99 rfl (lv_at hl 3 rfl) ?_
  exact ask_run (i1 := 1) (i2 := 21) (i3 := 41) (d := 9) C htab hl hW (c_X10_wordField hlt ho) rfl cw_LA_13 ci_X10_wordField cs_X10_wordField (by decide) (by decide) h3 (As := [.int x, .int y]) rfl rfl (by decide +kernel) (by decide +kernel) (by decide +kernel) dA_100 dA_103
theorem dA_104 : decode cL_asks 104 = .ok (.aload_n 0, 1) := by decide +kernel
theorem dA_105 : decode cL_asks 105 = .ok (.iload_n 2, 1) := by decide +kernel
theorem dA_106 : decode cL_asks 106 = .ok (.iload_n 3, 1) := by decide +kernel
theorem dA_107 : decode cL_asks 107 = .ok (.invokevirtual 17, 3) := by decide +kernel
theorem dA_110 : decode cL_asks 110 = .ok (.ireturn, 1) := by decide +kernel
theorem cw_LA_17 : CWd RL 17 yX10_blockField cX10_blockField 4 (some .int) 2 := ⟨TW_of 1037 (by decide +kernel) (by decide +kernel), TW_of 1040 (by decide +kernel) (by decide +kernel), TW_of 16 (by decide +kernel) (by decide +kernel), by decide +kernel⟩
theorem k_ask2 {l : Launch} {Z : ZT} {h : Hp} {a : Nat → Nat} {g : PL} {x y z : Int32} {u : Nat × (Int32 × Hp)} (hlt : l.stackTraces = false) (hf : ask2 h x y z = some u) : Met l yL_asks (wYW yL_asks cL_asks 6 (some .int) hhA) (rmP 12 (kn u.1)) (va_Pc [.ref (Z.1 0), .int 2, .int x, .int y, .int z] (WdP Z h a g)) (va_Qi (fun r (_ : Unit) => r = u.2.1) (fun _ => WdP Z u.2.2 a g) (FR Z)) (kn u.1) (600 * kn u.1) (FR Z) := by
  unfold ask2 at hf
  obtain ⟨o, ho, hf⟩ := bnd_t hf
  obtain ⟨h3, hf⟩ := ck_t hf
  obtain rfl := Option.some.inj hf
  refine metZW RL rfl (by decide +kernel) (Nat.le_of_ble_eq_true rfl) ?_
  intro p e s m args below meth c C htab hW ls hl
  have hl : lv_has ls 6 [(0, .ref (Z.1 0)), (1, .int 2), (2, .int x), (3, .int y), (4, .int z)] := hl
  refine lv_iload_n C.1 C.2.1 dA_0 rfl (lv_at hl 1 rfl) ?_
  refine z_swin (tgt := 104) C (w := 2) rfl dA_1 (by decide) (by decide) rfl (by decide) ?_
  refine lv_aload_n C.1 C.2.1 dA_104 rfl (lv_at hl 0 rfl) ?_
  refine lv_iload_n C.1 C.2.1 dA_105 rfl (lv_at hl 2 rfl) ?_
  refine lv_iload_n C.1 C.2.1 dA_106 rfl (lv_at hl 3 rfl) ?_
  exact ask_run (i1 := 2) (i2 := 22) (i3 := 42) (d := 9) C htab hl hW (c_X10_blockField hlt ho) rfl cw_LA_17 ci_X10_blockField cs_X10_blockField (by decide) (by decide) h3 (As := [.int x, .int y]) rfl rfl (by decide +kernel) (by decide +kernel) (by decide +kernel) dA_107 dA_110
theorem dA_111 : decode cL_asks 111 = .ok (.aload_n 0, 1) := by decide +kernel
theorem dA_112 : decode cL_asks 112 = .ok (.iload_n 2, 1) := by decide +kernel
theorem dA_113 : decode cL_asks 113 = .ok (.invokevirtual 20, 3) := by decide +kernel
theorem dA_116 : decode cL_asks 116 = .ok (.ireturn, 1) := by decide +kernel
theorem cw_LA_20 : CWd RL 20 yX10_blockOf cX10_blockOf 2 (some .int) 1 := ⟨TW_of 1054 (by decide +kernel) (by decide +kernel), TW_of 1057 (by decide +kernel) (by decide +kernel), TW_of 16 (by decide +kernel) (by decide +kernel), by decide +kernel⟩
theorem k_ask3 {l : Launch} {Z : ZT} {h : Hp} {a : Nat → Nat} {g : PL} {x y z : Int32} {u : Nat × (Int32 × Hp)} (hlt : l.stackTraces = false) (hf : ask3 h x y z = some u) : Met l yL_asks (wYW yL_asks cL_asks 6 (some .int) hhA) (rmP 12 (kn u.1)) (va_Pc [.ref (Z.1 0), .int 3, .int x, .int y, .int z] (WdP Z h a g)) (va_Qi (fun r (_ : Unit) => r = u.2.1) (fun _ => WdP Z u.2.2 a g) (FR Z)) (kn u.1) (600 * kn u.1) (FR Z) := by
  unfold ask3 at hf
  obtain ⟨o, ho, hf⟩ := bnd_t hf
  obtain ⟨h3, hf⟩ := ck_t hf
  obtain rfl := Option.some.inj hf
  refine metZW RL rfl (by decide +kernel) (Nat.le_of_ble_eq_true rfl) ?_
  intro p e s m args below meth c C htab hW ls hl
  have hl : lv_has ls 6 [(0, .ref (Z.1 0)), (1, .int 3), (2, .int x), (3, .int y), (4, .int z)] := hl
  refine lv_iload_n C.1 C.2.1 dA_0 rfl (lv_at hl 1 rfl) ?_
  refine z_swin (tgt := 111) C (w := 3) rfl dA_1 (by decide) (by decide) rfl (by decide) ?_
  refine lv_aload_n C.1 C.2.1 dA_111 rfl (lv_at hl 0 rfl) ?_
  refine lv_iload_n C.1 C.2.1 dA_112 rfl (lv_at hl 2 rfl) ?_
  exact ask_run (i1 := 3) (i2 := 23) (i3 := 43) (d := 9) C htab hl hW (c_X10_blockOf hlt ho) rfl cw_LA_20 ci_X10_blockOf cs_X10_blockOf (by decide) (by decide) h3 (As := [.int x]) rfl rfl (by decide +kernel) (by decide +kernel) (by decide +kernel) dA_113 dA_116
theorem dA_117 : decode cL_asks 117 = .ok (.aload_n 0, 1) := by decide +kernel
theorem dA_118 : decode cL_asks 118 = .ok (.iload_n 2, 1) := by decide +kernel
theorem dA_119 : decode cL_asks 119 = .ok (.iload_n 3, 1) := by decide +kernel
theorem dA_120 : decode cL_asks 120 = .ok (.invokevirtual 24, 3) := by decide +kernel
theorem dA_123 : decode cL_asks 123 = .ok (.ireturn, 1) := by decide +kernel
theorem cw_LA_24 : CWd RL 24 yX10_shotField cX10_shotField 3 (some .int) 2 := ⟨TW_of 1063 (by decide +kernel) (by decide +kernel), TW_of 1066 (by decide +kernel) (by decide +kernel), TW_of 16 (by decide +kernel) (by decide +kernel), by decide +kernel⟩
theorem k_ask4 {l : Launch} {Z : ZT} {h : Hp} {a : Nat → Nat} {g : PL} {x y z : Int32} {u : Nat × (Int32 × Hp)} (hlt : l.stackTraces = false) (hf : ask4 h x y z = some u) : Met l yL_asks (wYW yL_asks cL_asks 6 (some .int) hhA) (rmP 12 (kn u.1)) (va_Pc [.ref (Z.1 0), .int 4, .int x, .int y, .int z] (WdP Z h a g)) (va_Qi (fun r (_ : Unit) => r = u.2.1) (fun _ => WdP Z u.2.2 a g) (FR Z)) (kn u.1) (600 * kn u.1) (FR Z) := by
  unfold ask4 at hf
  obtain ⟨o, ho, hf⟩ := bnd_t hf
  obtain ⟨h3, hf⟩ := ck_t hf
  obtain rfl := Option.some.inj hf
  refine metZW RL rfl (by decide +kernel) (Nat.le_of_ble_eq_true rfl) ?_
  intro p e s m args below meth c C htab hW ls hl
  have hl : lv_has ls 6 [(0, .ref (Z.1 0)), (1, .int 4), (2, .int x), (3, .int y), (4, .int z)] := hl
  refine lv_iload_n C.1 C.2.1 dA_0 rfl (lv_at hl 1 rfl) ?_
  refine z_swin (tgt := 117) C (w := 4) rfl dA_1 (by decide) (by decide) rfl (by decide) ?_
  refine lv_aload_n C.1 C.2.1 dA_117 rfl (lv_at hl 0 rfl) ?_
  refine lv_iload_n C.1 C.2.1 dA_118 rfl (lv_at hl 2 rfl) ?_
  refine lv_iload_n C.1 C.2.1 dA_119 rfl (lv_at hl 3 rfl) ?_
  exact ask_run (i1 := 4) (i2 := 24) (i3 := 44) (d := 9) C htab hl hW (c_X10_shotField hlt ho) rfl cw_LA_24 ci_X10_shotField cs_X10_shotField (by decide) (by decide) h3 (As := [.int x, .int y]) rfl rfl (by decide +kernel) (by decide +kernel) (by decide +kernel) dA_120 dA_123
theorem dA_137 : decode cL_asks 137 = .ok (.aload_n 0, 1) := by decide +kernel
theorem dA_138 : decode cL_asks 138 = .ok (.iload_n 2, 1) := by decide +kernel
theorem dA_139 : decode cL_asks 139 = .ok (.invokevirtual 33, 3) := by decide +kernel
theorem dA_142 : decode cL_asks 142 = .ok (.ireturn, 1) := by decide +kernel
theorem cw_LA_33 : CWd RL 33 yX10_placeOf cX10_placeOf 2 (some .int) 1 := ⟨TW_of 1100 (by decide +kernel) (by decide +kernel), TW_of 1103 (by decide +kernel) (by decide +kernel), TW_of 16 (by decide +kernel) (by decide +kernel), by decide +kernel⟩
theorem k_ask7 {l : Launch} {Z : ZT} {h : Hp} {a : Nat → Nat} {g : PL} {x y z : Int32} {u : Nat × (Int32 × Hp)} (hlt : l.stackTraces = false) (hf : ask7 h x y z = some u) : Met l yL_asks (wYW yL_asks cL_asks 6 (some .int) hhA) (rmP 12 (kn u.1)) (va_Pc [.ref (Z.1 0), .int 7, .int x, .int y, .int z] (WdP Z h a g)) (va_Qi (fun r (_ : Unit) => r = u.2.1) (fun _ => WdP Z u.2.2 a g) (FR Z)) (kn u.1) (600 * kn u.1) (FR Z) := by
  unfold ask7 at hf
  obtain ⟨o, ho, hf⟩ := bnd_t hf
  obtain ⟨h3, hf⟩ := ck_t hf
  obtain rfl := Option.some.inj hf
  refine metZW RL rfl (by decide +kernel) (Nat.le_of_ble_eq_true rfl) ?_
  intro p e s m args below meth c C htab hW ls hl
  have hl : lv_has ls 6 [(0, .ref (Z.1 0)), (1, .int 7), (2, .int x), (3, .int y), (4, .int z)] := hl
  refine lv_iload_n C.1 C.2.1 dA_0 rfl (lv_at hl 1 rfl) ?_
  refine z_swin (tgt := 137) C (w := 7) rfl dA_1 (by decide) (by decide) rfl (by decide) ?_
  refine lv_aload_n C.1 C.2.1 dA_137 rfl (lv_at hl 0 rfl) ?_
  refine lv_iload_n C.1 C.2.1 dA_138 rfl (lv_at hl 2 rfl) ?_
  exact ask_run (i1 := 7) (i2 := 27) (i3 := 47) (d := 9) C htab hl hW (c_X10_placeOf hlt ho) rfl cw_LA_33 ci_X10_placeOf cs_X10_placeOf (by decide) (by decide) h3 (As := [.int x]) rfl rfl (by decide +kernel) (by decide +kernel) (by decide +kernel) dA_139 dA_142
theorem dA_168 : decode cL_asks 168 = .ok (.aload_n 0, 1) := by decide +kernel
theorem dA_169 : decode cL_asks 169 = .ok (.iload_n 2, 1) := by decide +kernel
theorem dA_170 : decode cL_asks 170 = .ok (.iload_n 3, 1) := by decide +kernel
theorem dA_171 : decode cL_asks 171 = .ok (.invokevirtual 48, 3) := by decide +kernel
theorem dA_174 : decode cL_asks 174 = .ok (.ireturn, 1) := by decide +kernel
theorem cw_LA_48 : CWd RL 48 yX10_cut cX10_cut 4 (some .int) 2 := ⟨TW_of 1146 (by decide +kernel) (by decide +kernel), TW_of 1149 (by decide +kernel) (by decide +kernel), TW_of 16 (by decide +kernel) (by decide +kernel), by decide +kernel⟩
theorem k_ask12 {l : Launch} {Z : ZT} {h : Hp} {a : Nat → Nat} {g : PL} {x y z : Int32} {u : Nat × (Int32 × Hp)} (hlt : l.stackTraces = false) (hf : ask12 h x y z = some u) : Met l yL_asks (wYW yL_asks cL_asks 6 (some .int) hhA) (rmP 12 (kn u.1)) (va_Pc [.ref (Z.1 0), .int 12, .int x, .int y, .int z] (WdP Z h a g)) (va_Qi (fun r (_ : Unit) => r = u.2.1) (fun _ => WdP Z u.2.2 a g) (FR Z)) (kn u.1) (600 * kn u.1) (FR Z) := by
  unfold ask12 at hf
  obtain ⟨o, ho, hf⟩ := bnd_t hf
  obtain ⟨h3, hf⟩ := ck_t hf
  obtain rfl := Option.some.inj hf
  refine metZW RL rfl (by decide +kernel) (Nat.le_of_ble_eq_true rfl) ?_
  intro p e s m args below meth c C htab hW ls hl
  have hl : lv_has ls 6 [(0, .ref (Z.1 0)), (1, .int 12), (2, .int x), (3, .int y), (4, .int z)] := hl
  refine lv_iload_n C.1 C.2.1 dA_0 rfl (lv_at hl 1 rfl) ?_
  refine z_swin (tgt := 168) C (w := 12) rfl dA_1 (by decide) (by decide) rfl (by decide) ?_
  refine lv_aload_n C.1 C.2.1 dA_168 rfl (lv_at hl 0 rfl) ?_
  refine lv_iload_n C.1 C.2.1 dA_169 rfl (lv_at hl 2 rfl) ?_
  refine lv_iload_n C.1 C.2.1 dA_170 rfl (lv_at hl 3 rfl) ?_
  exact ask_run (i1 := 12) (i2 := 32) (i3 := 52) (d := 9) C htab hl hW (c_X10_cut hlt ho) rfl cw_LA_48 ci_X10_cut cs_X10_cut (by decide) (by decide) h3 (As := [.int x, .int y]) rfl rfl (by decide +kernel) (by decide +kernel) (by decide +kernel) dA_171 dA_174
theorem dA_175 : decode cL_asks 175 = .ok (.aload_n 0, 1) := by decide +kernel
theorem dA_176 : decode cL_asks 176 = .ok (.iload_n 2, 1) := by decide +kernel
theorem dA_177 : decode cL_asks 177 = .ok (.invokevirtual 51, 3) := by decide +kernel
theorem dA_180 : decode cL_asks 180 = .ok (.ireturn, 1) := by decide +kernel
theorem cw_LA_51 : CWd RL 51 yX10_cutWord cX10_cutWord 3 (some .int) 1 := ⟨TW_of 1163 (by decide +kernel) (by decide +kernel), TW_of 1166 (by decide +kernel) (by decide +kernel), TW_of 16 (by decide +kernel) (by decide +kernel), by decide +kernel⟩
theorem k_ask13 {l : Launch} {Z : ZT} {h : Hp} {a : Nat → Nat} {g : PL} {x y z : Int32} {u : Nat × (Int32 × Hp)} (hlt : l.stackTraces = false) (hf : ask13 h x y z = some u) : Met l yL_asks (wYW yL_asks cL_asks 6 (some .int) hhA) (rmP 12 (kn u.1)) (va_Pc [.ref (Z.1 0), .int 13, .int x, .int y, .int z] (WdP Z h a g)) (va_Qi (fun r (_ : Unit) => r = u.2.1) (fun _ => WdP Z u.2.2 a g) (FR Z)) (kn u.1) (600 * kn u.1) (FR Z) := by
  unfold ask13 at hf
  obtain ⟨o, ho, hf⟩ := bnd_t hf
  obtain ⟨h3, hf⟩ := ck_t hf
  obtain rfl := Option.some.inj hf
  refine metZW RL rfl (by decide +kernel) (Nat.le_of_ble_eq_true rfl) ?_
  intro p e s m args below meth c C htab hW ls hl
  have hl : lv_has ls 6 [(0, .ref (Z.1 0)), (1, .int 13), (2, .int x), (3, .int y), (4, .int z)] := hl
  refine lv_iload_n C.1 C.2.1 dA_0 rfl (lv_at hl 1 rfl) ?_
  refine z_swin (tgt := 175) C (w := 13) rfl dA_1 (by decide) (by decide) rfl (by decide) ?_
  refine lv_aload_n C.1 C.2.1 dA_175 rfl (lv_at hl 0 rfl) ?_
  refine lv_iload_n C.1 C.2.1 dA_176 rfl (lv_at hl 2 rfl) ?_
  exact ask_run (i1 := 13) (i2 := 33) (i3 := 53) (d := 9) C htab hl hW (c_X10_cutWord hlt ho) rfl cw_LA_51 ci_X10_cutWord cs_X10_cutWord (by decide) (by decide) h3 (As := [.int x]) rfl rfl (by decide +kernel) (by decide +kernel) (by decide +kernel) dA_177 dA_180
theorem dA_181 : decode cL_asks 181 = .ok (.aload_n 0, 1) := by decide +kernel
theorem dA_182 : decode cL_asks 182 = .ok (.iload_n 2, 1) := by decide +kernel
theorem dA_183 : decode cL_asks 183 = .ok (.iload_n 3, 1) := by decide +kernel
theorem dA_184 : decode cL_asks 184 = .ok (.invokevirtual 54, 3) := by decide +kernel
theorem dA_187 : decode cL_asks 187 = .ok (.ireturn, 1) := by decide +kernel
theorem cw_LA_54 : CWd RL 54 yX10_restore cX10_restore 3 (some .int) 2 := ⟨TW_of 1183 (by decide +kernel) (by decide +kernel), TW_of 1186 (by decide +kernel) (by decide +kernel), TW_of 16 (by decide +kernel) (by decide +kernel), by decide +kernel⟩
theorem k_ask14 {l : Launch} {Z : ZT} {h : Hp} {a : Nat → Nat} {g : PL} {x y z : Int32} {u : Nat × (Int32 × Hp)} (hlt : l.stackTraces = false) (hf : ask14 h x y z = some u) : Met l yL_asks (wYW yL_asks cL_asks 6 (some .int) hhA) (rmP 12 (kn u.1)) (va_Pc [.ref (Z.1 0), .int 14, .int x, .int y, .int z] (WdP Z h a g)) (va_Qi (fun r (_ : Unit) => r = u.2.1) (fun _ => WdP Z u.2.2 a g) (FR Z)) (kn u.1) (600 * kn u.1) (FR Z) := by
  unfold ask14 at hf
  obtain ⟨o, ho, hf⟩ := bnd_t hf
  obtain ⟨h3, hf⟩ := ck_t hf
  obtain rfl := Option.some.inj hf
  refine metZW RL rfl (by decide +kernel) (Nat.le_of_ble_eq_true rfl) ?_
  intro p e s m args below meth c C htab hW ls hl
  have hl : lv_has ls 6 [(0, .ref (Z.1 0)), (1, .int 14), (2, .int x), (3, .int y), (4, .int z)] := hl
  refine lv_iload_n C.1 C.2.1 dA_0 rfl (lv_at hl 1 rfl) ?_
  refine z_swin (tgt := 181) C (w := 14) rfl dA_1 (by decide) (by decide) rfl (by decide) ?_
  refine lv_aload_n C.1 C.2.1 dA_181 rfl (lv_at hl 0 rfl) ?_
  refine lv_iload_n C.1 C.2.1 dA_182 rfl (lv_at hl 2 rfl) ?_
  refine lv_iload_n C.1 C.2.1 dA_183 rfl (lv_at hl 3 rfl) ?_
  exact ask_run (i1 := 14) (i2 := 34) (i3 := 54) (d := 9) C htab hl hW (c_X10_restore hlt ho) rfl cw_LA_54 ci_X10_restore cs_X10_restore (by decide) (by decide) h3 (As := [.int x, .int y]) rfl rfl (by decide +kernel) (by decide +kernel) (by decide +kernel) dA_184 dA_187
theorem dA_188 : decode cL_asks 188 = .ok (.aload_n 0, 1) := by decide +kernel
theorem dA_189 : decode cL_asks 189 = .ok (.iload_n 2, 1) := by decide +kernel
theorem dA_190 : decode cL_asks 190 = .ok (.iload_n 3, 1) := by decide +kernel
theorem dA_191 : decode cL_asks 191 = .ok (.iload 4, 2) := by decide +kernel
theorem dA_193 : decode cL_asks 193 = .ok (.invokevirtual 57, 3) := by decide +kernel
theorem dA_196 : decode cL_asks 196 = .ok (.ireturn, 1) := by decide +kernel
theorem cw_LA_57 : CWd RL 57 yX10_move cX10_move 4 (some .int) 3 := ⟨TW_of 1204 (by decide +kernel) (by decide +kernel), TW_of 1207 (by decide +kernel) (by decide +kernel), TW_of 16 (by decide +kernel) (by decide +kernel), by decide +kernel⟩
theorem k_ask15 {l : Launch} {Z : ZT} {h : Hp} {a : Nat → Nat} {g : PL} {x y z : Int32} {u : Nat × (Int32 × Hp)} (hlt : l.stackTraces = false) (hf : ask15 h x y z = some u) : Met l yL_asks (wYW yL_asks cL_asks 6 (some .int) hhA) (rmP 12 (kn u.1)) (va_Pc [.ref (Z.1 0), .int 15, .int x, .int y, .int z] (WdP Z h a g)) (va_Qi (fun r (_ : Unit) => r = u.2.1) (fun _ => WdP Z u.2.2 a g) (FR Z)) (kn u.1) (600 * kn u.1) (FR Z) := by
  unfold ask15 at hf
  obtain ⟨o, ho, hf⟩ := bnd_t hf
  obtain ⟨h3, hf⟩ := ck_t hf
  obtain rfl := Option.some.inj hf
  refine metZW RL rfl (by decide +kernel) (Nat.le_of_ble_eq_true rfl) ?_
  intro p e s m args below meth c C htab hW ls hl
  have hl : lv_has ls 6 [(0, .ref (Z.1 0)), (1, .int 15), (2, .int x), (3, .int y), (4, .int z)] := hl
  refine lv_iload_n C.1 C.2.1 dA_0 rfl (lv_at hl 1 rfl) ?_
  refine z_swin (tgt := 188) C (w := 15) rfl dA_1 (by decide) (by decide) rfl (by decide) ?_
  refine lv_aload_n C.1 C.2.1 dA_188 rfl (lv_at hl 0 rfl) ?_
  refine lv_iload_n C.1 C.2.1 dA_189 rfl (lv_at hl 2 rfl) ?_
  refine lv_iload_n C.1 C.2.1 dA_190 rfl (lv_at hl 3 rfl) ?_
  refine lv_iload C.1 C.2.1 dA_191 (lv_at hl 4 rfl) ?_
  exact ask_run (i1 := 15) (i2 := 35) (i3 := 55) (d := 9) C htab hl hW (c_X10_move hlt ho) rfl cw_LA_57 ci_X10_move cs_X10_move (by decide) (by decide) h3 (As := [.int x, .int y, .int z]) rfl rfl (by decide +kernel) (by decide +kernel) (by decide +kernel) dA_193 dA_196
theorem dA_197 : decode cL_asks 197 = .ok (.aload_n 0, 1) := by decide +kernel
theorem dA_198 : decode cL_asks 198 = .ok (.iload_n 2, 1) := by decide +kernel
theorem dA_199 : decode cL_asks 199 = .ok (.iload_n 3, 1) := by decide +kernel
theorem dA_200 : decode cL_asks 200 = .ok (.iload 4, 2) := by decide +kernel
theorem dA_202 : decode cL_asks 202 = .ok (.invokevirtual 61, 3) := by decide +kernel
theorem dA_205 : decode cL_asks 205 = .ok (.ireturn, 1) := by decide +kernel
theorem cw_LA_61 : CWd RL 61 yX10_setHandles cX10_setHandles 5 (some .int) 3 := ⟨TW_of 1216 (by decide +kernel) (by decide +kernel), TW_of 1219 (by decide +kernel) (by decide +kernel), TW_of 16 (by decide +kernel) (by decide +kernel), by decide +kernel⟩
theorem k_ask16 {l : Launch} {Z : ZT} {h : Hp} {a : Nat → Nat} {g : PL} {x y z : Int32} {u : Nat × (Int32 × Hp)} (hlt : l.stackTraces = false) (hf : ask16 h x y z = some u) : Met l yL_asks (wYW yL_asks cL_asks 6 (some .int) hhA) (rmP 12 (kn u.1)) (va_Pc [.ref (Z.1 0), .int 16, .int x, .int y, .int z] (WdP Z h a g)) (va_Qi (fun r (_ : Unit) => r = u.2.1) (fun _ => WdP Z u.2.2 a g) (FR Z)) (kn u.1) (600 * kn u.1) (FR Z) := by
  unfold ask16 at hf
  obtain ⟨o, ho, hf⟩ := bnd_t hf
  obtain ⟨h3, hf⟩ := ck_t hf
  obtain rfl := Option.some.inj hf
  refine metZW RL rfl (by decide +kernel) (Nat.le_of_ble_eq_true rfl) ?_
  intro p e s m args below meth c C htab hW ls hl
  have hl : lv_has ls 6 [(0, .ref (Z.1 0)), (1, .int 16), (2, .int x), (3, .int y), (4, .int z)] := hl
  refine lv_iload_n C.1 C.2.1 dA_0 rfl (lv_at hl 1 rfl) ?_
  refine z_swin (tgt := 197) C (w := 16) rfl dA_1 (by decide) (by decide) rfl (by decide) ?_
  refine lv_aload_n C.1 C.2.1 dA_197 rfl (lv_at hl 0 rfl) ?_
  refine lv_iload_n C.1 C.2.1 dA_198 rfl (lv_at hl 2 rfl) ?_
  refine lv_iload_n C.1 C.2.1 dA_199 rfl (lv_at hl 3 rfl) ?_
  refine lv_iload C.1 C.2.1 dA_200 (lv_at hl 4 rfl) ?_
  exact ask_run (i1 := 16) (i2 := 36) (i3 := 56) (d := 9) C htab hl hW (c_X10_setHandles hlt ho) rfl cw_LA_61 ci_X10_setHandles cs_X10_setHandles (by decide) (by decide) h3 (As := [.int x, .int y, .int z]) rfl rfl (by decide +kernel) (by decide +kernel) (by decide +kernel) dA_202 dA_205
