/-! the law's own walk -/
abbrev cL_law : ByteArray := code
theorem dL_law_0 : decode cL_law 0 = .ok (.new 113, 3) := by decide +kernel
theorem dL_law_3 : decode cL_law 3 = .ok (.dup, 1) := by decide +kernel
theorem dL_law_4 : decode cL_law 4 = .ok (.aload_n 0, 1) := by decide +kernel
theorem dL_law_5 : decode cL_law 5 = .ok (.arraylength, 1) := by decide +kernel
theorem dL_law_6 : decode cL_law 6 = .ok (.ifCond .le 9, 3) := by decide +kernel
theorem dL_law_9 : decode cL_law 9 = .ok (.aload_n 0, 1) := by decide +kernel
theorem dL_law_10 : decode cL_law 10 = .ok (.iconst 0, 1) := by decide +kernel
theorem dL_law_11 : decode cL_law 11 = .ok (.iaload, 1) := by decide +kernel
theorem dL_law_12 : decode cL_law 12 = .ok (.goto 4, 3) := by decide +kernel
theorem dL_law_15 : decode cL_law 15 = .ok (.iconst 0, 1) := by decide +kernel
theorem dL_law_16 : decode cL_law 16 = .ok (.invokespecial 170, 3) := by decide +kernel
theorem dL_law_19 : decode cL_law 19 = .ok (.astore_n 1, 1) := by decide +kernel
theorem dL_law_20 : decode cL_law 20 = .ok (.iconst 1, 1) := by decide +kernel
theorem dL_law_21 : decode cL_law 21 = .ok (.istore_n 2, 1) := by decide +kernel
theorem dL_law_22 : decode cL_law 22 = .ok (.iload_n 2, 1) := by decide +kernel
theorem dL_law_23 : decode cL_law 23 = .ok (.aload_n 0, 1) := by decide +kernel
theorem dL_law_24 : decode cL_law 24 = .ok (.arraylength, 1) := by decide +kernel
theorem dL_law_25 : decode cL_law 25 = .ok (.if_icmp .ge 133, 3) := by decide +kernel
theorem dL_law_28 : decode cL_law 28 = .ok (.iload_n 2, 1) := by decide +kernel
theorem dL_law_29 : decode cL_law 29 = .ok (.bipush 8, 2) := by decide +kernel
theorem dL_law_31 : decode cL_law 31 = .ok (.if_icmp .ge 127, 3) := by decide +kernel
theorem dL_law_34 : decode cL_law 34 = .ok (.new 8, 3) := by decide +kernel
theorem dL_law_37 : decode cL_law 37 = .ok (.dup, 1) := by decide +kernel
theorem dL_law_38 : decode cL_law 38 = .ok (.invokespecial 172, 3) := by decide +kernel
theorem dL_law_41 : decode cL_law 41 = .ok (.astore_n 3, 1) := by decide +kernel
theorem dL_law_42 : decode cL_law 42 = .ok (.new 107, 3) := by decide +kernel
theorem dL_law_45 : decode cL_law 45 = .ok (.dup, 1) := by decide +kernel
theorem dL_law_46 : decode cL_law 46 = .ok (.aload_n 1, 1) := by decide +kernel
theorem dL_law_47 : decode cL_law 47 = .ok (.invokespecial 173, 3) := by decide +kernel
theorem dL_law_50 : decode cL_law 50 = .ok (.astore 4, 2) := by decide +kernel
theorem dL_law_52 : decode cL_law 52 = .ok (.aload 4, 2) := by decide +kernel
theorem dL_law_54 : decode cL_law 54 = .ok (.getfield 176, 3) := by decide +kernel
theorem dL_law_57 : decode cL_law 57 = .ok (.invokevirtual 84, 3) := by decide +kernel
theorem dL_law_60 : decode cL_law 60 = .ok (.sipush 400, 3) := by decide +kernel
theorem dL_law_63 : decode cL_law 63 = .ok (.if_icmp .le 6, 3) := by decide +kernel
theorem dL_law_66 : decode cL_law 66 = .ok (.goto 86, 3) := by decide +kernel
theorem dL_law_69 : decode cL_law 69 = .ok (.aload_n 3, 1) := by decide +kernel
theorem dL_law_70 : decode cL_law 70 = .ok (.aload 4, 2) := by decide +kernel
theorem dL_law_72 : decode cL_law 72 = .ok (.getfield 176, 3) := by decide +kernel
theorem dL_law_75 : decode cL_law 75 = .ok (.invokestatic 180, 3) := by decide +kernel
theorem dL_law_78 : decode cL_law 78 = .ok (.ifCond .eq 26, 3) := by decide +kernel
theorem dL_law_81 : decode cL_law 81 = .ok (.aload_n 3, 1) := by decide +kernel
theorem dL_law_82 : decode cL_law 82 = .ok (.iconst 0, 1) := by decide +kernel
theorem dL_law_83 : decode cL_law 83 = .ok (.iconst 0, 1) := by decide +kernel
theorem dL_law_84 : decode cL_law 84 = .ok (.iconst 0, 1) := by decide +kernel
theorem dL_law_85 : decode cL_law 85 = .ok (.iconst 0, 1) := by decide +kernel
theorem dL_law_86 : decode cL_law 86 = .ok (.invokestatic 121, 3) := by decide +kernel
theorem dL_law_89 : decode cL_law 89 = .ok (.aload 4, 2) := by decide +kernel
theorem dL_law_91 : decode cL_law 91 = .ok (.getfield 106, 3) := by decide +kernel
theorem dL_law_94 : decode cL_law 94 = .ok (.if_icmp .ne 10, 3) := by decide +kernel
theorem dL_law_97 : decode cL_law 97 = .ok (.aload_n 3, 1) := by decide +kernel
theorem dL_law_98 : decode cL_law 98 = .ok (.invokevirtual 183, 3) := by decide +kernel
theorem dL_law_101 : decode cL_law 101 = .ok (.ifCond .eq 5, 3) := by decide +kernel
theorem dL_law_104 : decode cL_law 104 = .ok (.iconst 0, 1) := by decide +kernel
theorem dL_law_105 : decode cL_law 105 = .ok (.ireturn, 1) := by decide +kernel
theorem dL_law_106 : decode cL_law 106 = .ok (.iconst 0, 1) := by decide +kernel
theorem dL_law_107 : decode cL_law 107 = .ok (.istore 5, 2) := by decide +kernel
theorem dL_law_109 : decode cL_law 109 = .ok (.iload 5, 2) := by decide +kernel
theorem dL_law_111 : decode cL_law 111 = .ok (.bipush 18, 2) := by decide +kernel
theorem dL_law_113 : decode cL_law 113 = .ok (.if_icmp .ge 39, 3) := by decide +kernel
theorem dL_law_116 : decode cL_law 116 = .ok (.aload_n 3, 1) := by decide +kernel
theorem dL_law_117 : decode cL_law 117 = .ok (.aload 4, 2) := by decide +kernel
theorem dL_law_119 : decode cL_law 119 = .ok (.invokestatic 186, 3) := by decide +kernel
theorem dL_law_122 : decode cL_law 122 = .ok (.ifCond .eq 22, 3) := by decide +kernel
theorem dL_law_125 : decode cL_law 125 = .ok (.aload_n 3, 1) := by decide +kernel
theorem dL_law_126 : decode cL_law 126 = .ok (.aload 4, 2) := by decide +kernel
theorem dL_law_128 : decode cL_law 128 = .ok (.invokestatic 190, 3) := by decide +kernel
theorem dL_law_131 : decode cL_law 131 = .ok (.ifCond .eq 13, 3) := by decide +kernel
theorem dL_law_134 : decode cL_law 134 = .ok (.aload_n 3, 1) := by decide +kernel
theorem dL_law_135 : decode cL_law 135 = .ok (.aload 4, 2) := by decide +kernel
theorem dL_law_137 : decode cL_law 137 = .ok (.aload_n 1, 1) := by decide +kernel
theorem dL_law_138 : decode cL_law 138 = .ok (.invokestatic 193, 3) := by decide +kernel
theorem dL_law_141 : decode cL_law 141 = .ok (.ifCond .ne 5, 3) := by decide +kernel
theorem dL_law_144 : decode cL_law 144 = .ok (.iconst 0, 1) := by decide +kernel
theorem dL_law_145 : decode cL_law 145 = .ok (.ireturn, 1) := by decide +kernel
theorem dL_law_146 : decode cL_law 146 = .ok (.iinc 5 1, 3) := by decide +kernel
theorem dL_law_149 : decode cL_law 149 = .ok (.goto (-40), 3) := by decide +kernel
theorem dL_law_152 : decode cL_law 152 = .ok (.iinc 2 1, 3) := by decide +kernel
theorem dL_law_155 : decode cL_law 155 = .ok (.goto (-133), 3) := by decide +kernel
theorem dL_law_158 : decode cL_law 158 = .ok (.iconst 1, 1) := by decide +kernel
theorem dL_law_159 : decode cL_law 159 = .ok (.ireturn, 1) := by decide +kernel
abbrev cX12_init : ByteArray := prog_14_method_1_code
def yX12_init : MethodName := ⟨RX12, "<init>", "(I)V"⟩
theorem dX12_init_0 : decode cX12_init 0 = .ok (.aload_n 0, 1) := by decide +kernel
theorem dX12_init_1 : decode cX12_init 1 = .ok (.invokespecial 1, 3) := by decide +kernel
theorem dX12_init_4 : decode cX12_init 4 = .ok (.aload_n 0, 1) := by decide +kernel
theorem dX12_init_5 : decode cX12_init 5 = .ok (.iload_n 1, 1) := by decide +kernel
theorem dX12_init_6 : decode cX12_init 6 = .ok (.putfield 7, 3) := by decide +kernel
theorem dX12_init_9 : decode cX12_init 9 = .ok (.return_, 1) := by decide +kernel
theorem ci_X12_init : Cond.instanceMethod yX12_init ∈ TW := TW_of 823 (by decide +kernel) (by decide +kernel)
theorem cc_X12_init : Cond.code yX12_init cX12_init 2 none ∈ TW := TW_of 824 (by decide +kernel) (by decide +kernel)
theorem ml_X12_obj : Cond.methodLink RX12 1 objectInit ∈ TW := TW_of 825 (by decide +kernel) (by decide +kernel)
theorem fl_X12_7 : Cond.fieldLink RX12 7 RX12 "seed" "I" ∈ TW := TW_of 826 (by decide +kernel) (by decide +kernel)
theorem cw_L_170 : CWd RL 170 yX12_init cX12_init 2 none 1 := ⟨TW_of 822 (by decide +kernel) (by decide +kernel), TW_of 824 (by decide +kernel) (by decide +kernel), TW_of 15 (by decide +kernel) (by decide +kernel), by decide +kernel⟩
theorem cl_L_113 : Cond.classLink RL 113 RX12 ∈ TW := TW_of 820 (by decide +kernel) (by decide +kernel)
theorem cl_L_8 : Cond.classLink RL 8 RX10 ∈ TW := TW_of 46 (by decide +kernel) (by decide +kernel)
theorem cl_L_107 : Cond.classLink RL 107 RX11 ∈ TW := TW_of 390 (by decide +kernel) (by decide +kernel)
set_option maxRecDepth 100000 in
theorem cw_L_173 : CWd RL 173 yX11_init cX11_init 8 none 1 := ⟨TW_of 392 (by decide +kernel) (by decide +kernel), TW_of 394 rfl rfl, TW_of 25 (by decide +kernel) (by decide +kernel), by decide +kernel⟩
set_option maxRecDepth 100000 in
theorem cw_L_180 : CWd RL 180 yL_text cL_text 3 (some .boolean) 2 := ⟨TW_of 1288 (by decide +kernel) (by decide +kernel), TW_of 1290 rfl rfl, TW_of 14 (by decide +kernel) (by decide +kernel), by decide +kernel⟩
set_option maxRecDepth 100000 in
theorem cw_L_186 : CWd RL 186 yL_isAs cL_isAs 5 (some .boolean) 2 := ⟨TW_of 1357 (by decide +kernel) (by decide +kernel), TW_of 1359 rfl rfl, TW_of 14 (by decide +kernel) (by decide +kernel), by decide +kernel⟩
set_option maxRecDepth 100000 in
theorem cw_L_190 : CWd RL 190 yL_areWords cL_areWords 4 (some .boolean) 2 := ⟨TW_of 1372 (by decide +kernel) (by decide +kernel), TW_of 1374 rfl rfl, TW_of 14 (by decide +kernel) (by decide +kernel), by decide +kernel⟩
set_option maxRecDepth 100000 in
theorem cw_L_193 : CWd RL 193 yL_does cL_does 10 (some .boolean) 3 := ⟨TW_of 1308 (by decide +kernel) (by decide +kernel), TW_of 1310 rfl rfl, TW_of 14 (by decide +kernel) (by decide +kernel), by decide +kernel⟩
theorem cw_L_183 : CWd RL 183 yX10_errorKind cX10_errorKind 1 (some .int) 0 := ⟨TW_of 386 (by decide +kernel) (by decide +kernel), TW_of 389 (by decide +kernel) (by decide +kernel), TW_of 16 (by decide +kernel) (by decide +kernel), by decide +kernel⟩
def nf_X11 : List Value := [.int 0, .int 0, .int 0, .null, .null, .int 0, .int 0, .int 0, .null, .null, .null, .null, .null, .null, .null, .null, .null]
theorem df_X11 : ∀ j, j < 17 → defaultValue (tyX11 j) = vp_V nf_X11 j := by decide +kernel
theorem rv_n {Z : ZT} {a : Nat → Nat} {x : Int32} (h : x < 0) : rv Z a x = .null := if_pos h
theorem dfl_n : ∀ j, j < 17 → isR 0 j = true → dfl 0 j < 0 := by decide +kernel
theorem dfl_z : ∀ j, j < 17 → isR 0 j = false → dfl 0 j = 0 := by decide +kernel
theorem ne_X11 {Z : ZT} {a : Nat → Nat} : celP Z a 0 0 (dfl 0) = .inr (9, nf_X11) := by
  show (Sum.inr (9, [.int (dfl 0 0), .int (dfl 0 1), .int (dfl 0 2), rv Z a (dfl 0 3), rv Z a (dfl 0 4), .int (dfl 0 5), .int (dfl 0 6), .int (dfl 0 7), rv Z a (dfl 0 8), rv Z a (dfl 0 9), rv Z a (dfl 0 10), rv Z a (dfl 0 11), rv Z a (dfl 0 12), rv Z a (dfl 0 13), rv Z a (dfl 0 14), rv Z a (dfl 0 15), rv Z a (dfl 0 16)]) : va_E) = _
  rw [rv_n (dfl_n 3 (by decide) (by decide)), rv_n (dfl_n 4 (by decide) (by decide)), rv_n (dfl_n 8 (by decide) (by decide)), rv_n (dfl_n 9 (by decide) (by decide)), rv_n (dfl_n 10 (by decide) (by decide)), rv_n (dfl_n 11 (by decide) (by decide)), rv_n (dfl_n 12 (by decide) (by decide)), rv_n (dfl_n 13 (by decide) (by decide)), rv_n (dfl_n 14 (by decide) (by decide)), rv_n (dfl_n 15 (by decide) (by decide)), rv_n (dfl_n 16 (by decide) (by decide)), dfl_z 0 (by decide) (by decide), dfl_z 1 (by decide) (by decide), dfl_z 2 (by decide) (by decide), dfl_z 5 (by decide) (by decide), dfl_z 6 (by decide) (by decide), dfl_z 7 (by decide) (by decide)]
  rfl
theorem df_X12 : ∀ j, j < 1 → defaultValue (tyX12 j) = vp_V [.int 0] j := by decide +kernel
/-- the acts -/
def f_acts : Nat → Hp → PL → Option (Hp × PL)
  | 0, h, g => some (h, g)
  | n + 1, h, g => bnd (fp_L_isAs h g 1) (fun r1 => ck (decide (¬ r1 = 0)) (bnd (fp_L_areWords h g 1) (fun r2 => ck (decide (¬ r2.1 = 0)) (bnd (fp_L_does h r2.2 1 0) (fun r3 => ck (decide (¬ r3.1 = 0)) (f_acts n r3.2.1 r3.2.2))))))
/-- one recording: the next seed -/
def f_one (v : Int32) : Option Int32 :=
  stp (gnew (gD v) 0 0 (dfl 0)) (fun g1 =>
  bnd (fp_X11_init g1 1 0) (fun g2 =>
  ckn (gk g2 1 0) (g2.2.2 1 16) (fun t =>
  ck (sOK g2 t && decide (sLen g2 t < 2147483648)) (
  if 400 < nI (sLen g2 t) then ck (gk g2 0 1) (some (g2.2.2 0 0))
  else bnd (fp_L_text h0C g2 t) (fun u =>
    ck (decide (¬ u.1 = 0)) (bnd (ask0 u.2 0 0 0) (fun r => ck (decide (r.1 = 0)) (ck (decide (r.2.1 = g2.2.2 1 5)) (bnd (f_X10_errorKind r.2.2) (fun e => ck (decide (e = 0)) (bnd (f_acts 18 r.2.2 g2) (fun q => ck (gk q.2 0 1) (some (q.2.2.2 0 0)))))))))))))) 
def f_law : Nat → Int32 → Option Unit
  | 0, _ => some ()
  | n + 1, v => bnd (f_one v) (f_law n)
theorem y_at {p : Program} {l : Launch} {e : Env} {R : Room} {s : State} {m : MethodId} {args : Array Value} {below : List Frame} {meth : Method} {c : Code} {H : Heap} {locs : List Loc} {cells slots : Nat} {Q : State → Prop} {pc : Nat} {ls : Array Slot} {rest : List Value} (pc' cells' slots' : Nat) (h1 : pc = pc') (h2 : cells = cells') (h3 : slots = slots') (k : W p l e R s m args below meth c H locs cells' slots' Q (F0 m pc' ls rest)) : W p l e R s m args below meth c H locs cells slots Q (F0 m pc ls rest) := by
  subst h1 h2 h3
  exact k
/-- the object that draws is made -/
theorem k_X12_init (l : Launch) (D : va_G) (dA : Nat → ClassId) (v : Int32) (r sz : Nat) : Met l yX12_init (wY yX12_init cX12_init 2 none) ({ frames := 1, cells := 0, slots := 0, locals := 12 } : Room) (va_Pc [.ref r, .int v] (Pn D dA r (.inr (10, [.int 0])) sz)) (va_Qv (fun _ : Unit => r = r) (Qn D (fun _ : Unit => [(r, .inr (10, [.int v]))]) (va_A [(r, .inr (10, [.int 0]))] sz)) (va_A [(r, .inr (10, [.int 0]))] sz)) 0 0 (va_A [(r, .inr (10, [.int 0]))] sz) := by
  refine Met.ofW (cc := cX12_init) (maxL := 2) (ret := none) (by decide +kernel) rfl ?_
  intro p e s m args below meth c s₁ B hml hv
  obtain ⟨rfl, hsz, hP, hD, hK⟩ := hv
  subst hsz
  have hts := atoms_spec (ws := wY yX12_init cX12_init 2 none) B.pre
  have hl := lv_entry [.ref r, .int v] (n := 2) (Nat.le_of_ble_eq_true rfl)
  rw [lg_entry_eq]
  generalize (lg_sl ([.ref r, .int v]) ++ List.replicate (2 - (lg_sl ([.ref r, .int v])).length) Slot.unset).toArray = ls at hl ⊢
  have hl : lv_has ls 2 [(0, .ref r), (1, .int v)] := hl
  have C : CCx p s m #[.ref r, .int v] c cX12_init RX12 2 D dA := ⟨B.exec, B.bytes, fun w hw => hts w (List.mem_cons_of_mem _ hw), findClass_of_methodNamed B.named, hml, hK⟩
  have hS : va_S (va_A [(r, .inr (10, [.int 0]))] s.heap.size) s.heap s.heap [] := va_S.rf
  have hP : va_P D vwCl ((r, .inr (10, [.int 0])) :: []) s.heap := hP
  have hD : va_D (va_A [(r, .inr (10, [.int 0]))] s.heap.size) ((r, .inr (10, [.int 0])) :: []) := hD.self (sz := s.heap.size)
  refine lv_aload_n C.1 C.2.1 dX12_init_0 rfl (lv_at hl 0 rfl) ?_
  refine y_obj C hl ml_X12_obj oi_i oi_c dX12_init_1 ⟨Nat.le_of_ble_eq_true rfl, Nat.le_of_ble_eq_true rfl⟩ ?_
  refine lv_aload_n C.1 C.2.1 dX12_init_4 rfl (lv_at hl 0 rfl) ?_
  refine lv_iload_n C.1 C.2.1 dX12_init_5 rfl (lv_at hl 1 rfl) ?_
  refine y_put C hP hD hS (T := TX12) (N := 1) rfl wsX12_in tyX12 tyX12_ok nmX12 0 7 (by decide) fl_X12_7 rfl rfl (ty := .int) (v := .int v) (by decide +kernel) rfl rfl (Nat.le_of_ble_eq_true rfl) dX12_init_6 (fun H locs hP hD hS => ?_)
  exact y_ret (S := Unit) (z0 := fun _ => r) (wK := fun _ => [(r, .inr (10, [.int v]))]) C B.returns B.notSynchronized hS () rfl hP hD dX12_init_9
theorem n18 : ∀ n, n < 18 → nI (18 - (n + 1)) < 18 ∧ nI (18 - (n + 1)) + 1 = nI (18 - n) := by decide +kernel
theorem ckn_self {c : Bool} {v : Int32} (h : c = true) (h0 : ¬ v < 0) : ckn c v (fun z => if z = ix v then some () else none) = some () := by
  unfold ckn
  rw [h, if_neg h0]
  show (if ix v = ix v then some () else none) = some ()
  exact if_pos rfl
theorem self_eq {α : Type} [DecidableEq α] {z t : α} (h : (if z = t then some () else none) = some ()) : z = t := by
  apply Classical.byContradiction
  intro q
  rw [if_neg q] at h
  cases h
theorem rkb_2 {g : PL} (h : 2 ≤ g.1) : rkb g 0 = true ∧ rkb g 1 = true := by
  unfold rkb
  rw [decide_eq_true (show 0 < g.1 by omega), decide_eq_true (show 1 < g.1 by omega)]
  exact ⟨rfl, rfl⟩
theorem fr_okP {d k maxL : Nat} (h : d ≤ 13) (hm : maxL ≤ 30) : RmK (rmP d k) room_1 maxL k (600 * k) := ⟨rfl, rfl, by show 2 + d + 1 ≤ 2048; omega, by show 8 + (maxL + 11) + (50 + 50 * d) ≤ 84000; omega⟩
theorem fr_okD {d maxL : Nat} (h : d ≤ 13) (hm : maxL ≤ 30) : RmK (rmD d) room_1 maxL 0 0 := ⟨rfl, rfl, by show 2 + d + 1 ≤ 2048; omega, by show 8 + (maxL + 11) + (50 + 50 * d) ≤ 84000; omega⟩
theorem fr_c {c sl k : Nat} (h1 : c + k ≤ 163746) (h2 : sl + 600 * k ≤ 8610462) : c + k ≤ room_1.cells ∧ sl + 600 * k ≤ room_1.slots := ⟨h1, h2⟩
section LW
variable {p : Program} {l : Launch} {e : Env} {s : State} {m : MethodId} {b : Nat} {below : List Frame} {meth : Method} {c : Code} {Q : State → Prop} {Z : ZT}
set_option maxHeartbeats 2000000 in
set_option maxRecDepth 100000 in
theorem k_acts (hlt : l.stackTraces = false) (C : CQ p s m #[Value.ref b] meth c cL_law RL 6 ret Z) {k : Int32} {h' : Hp} {g' : PL} : ∀ (n : Nat), n ≤ 18 → ∀ (h : Hp) (a : Nat → Nat) (g : PL) (H : Heap) (locs : List Loc) (ls : Array Slot) (cells slots : Nat), 2 ≤ g.1 → cells + 13 * n ≤ 163746 → slots + 7800 * n ≤ 8610462 → XG Z h a g s.heap H locs → lv_has ls 6 [(5, .int (nI (18 - n))), (4, .ref (ra Z a 1)), (3, .ref (Z.1 0)), (2, .int k), (1, .ref (ra Z a 0)), (0, .ref b)] → f_acts n h g = some (h', g') → (∀ (a1 : Nat → Nat) (H1 : Heap) (locs1 : List Loc) (ls1 : Array Slot), AG a g a1 g' → XG Z h' a1 g' s.heap H1 locs1 → lv_has ls1 6 [(2, .int k), (1, .ref (ra Z a1 0)), (0, .ref b)] → W p l e room_1 s m #[Value.ref b] below meth c H1 locs1 (cells + 13 * n) (slots + 7800 * n) Q (F0 m 152 ls1 [])) → W p l e room_1 s m #[Value.ref b] below meth c H locs cells slots Q (F0 m 109 ls []) := by
  intro n
  induction n with
  | zero =>
    intro hn h a g H locs ls cells slots h2 hc hs hW hl hf kk
    cases hf
    refine lv_iload C.1 C.2.1 dL_law_109 (lv_at hl 0 rfl) ?_
    refine lv_bipush (v := 18) C.1 C.2.1 dL_law_111 (by decide) ?_
    refine lv_icmp_ge (tgt := 152) C.1 C.2.1 dL_law_113 (by decide) (fun _ => ?_) (fun q => absurd (by decide) q)
    exact kk a H locs ls (AG.rf a _) hW (lv_sub hl [3, 4, 5] rfl)
  | succ n ih =>
    intro hn h a g H locs ls cells slots h2 hc hs hW hl hf kk
    obtain ⟨hi1, hi2⟩ := n18 n (by omega)
    unfold f_acts at hf
    obtain ⟨r1, e1, hf⟩ := bnd_t hf
    obtain ⟨z1, hf⟩ := ck_t hf
    have z1 := of_decide_eq_true z1
    obtain ⟨r2, e2, hf⟩ := bnd_t hf
    obtain ⟨z2, hf⟩ := ck_t hf
    have z2 := of_decide_eq_true z2
    obtain ⟨r3, e3, hf⟩ := bnd_t hf
    obtain ⟨z3, hf⟩ := ck_t hf
    have z3 := of_decide_eq_true z3
    refine lv_iload C.1 C.2.1 dL_law_109 (lv_at hl 0 rfl) ?_
    refine lv_bipush (v := 18) C.1 C.2.1 dL_law_111 (by decide) ?_
    refine lv_icmp_ge (tgt := 152) C.1 C.2.1 dL_law_113 (by decide) (fun q => absurd q (Int32.not_le.mpr hi1)) (fun _ => ?_)
    refine lv_aload_n C.1 C.2.1 dL_law_116 rfl (lv_at hl 2 rfl) ?_
    refine lv_aload C.1 C.2.1 dL_law_117 (lv_at hl 1 rfl) ?_
    refine z_calli hW (z_runS C hW hl (c_L_isAs hlt e1) cw_L_186 ct_L_isAs (fr_okP (by decide) (by decide)) (fr_c (by omega) (by omega)) (As := [.ref (Z.1 0), .ref (ra Z a 1)]) rfl rfl (Nat.le_of_ble_eq_true rfl) dL_law_119) (fun H locs hW => ?_)
    refine lv_if_eq (tgt := 144) C.1 C.2.1 dL_law_122 (by decide) (fun q => absurd q z1) (fun _ => ?_)
    refine lv_aload_n C.1 C.2.1 dL_law_125 rfl (lv_at hl 2 rfl) ?_
    refine lv_aload C.1 C.2.1 dL_law_126 (lv_at hl 1 rfl) ?_
    have hpw := hW.2.2.2
    obtain ⟨k0, k1⟩ := rkb_2 h2
    refine z_calliA hW (z_runS C hW hl (c_L_areWords hlt e2) cw_L_190 ct_L_areWords (fr_okP (by decide) (by decide)) (fr_c (by omega) (by omega)) (As := [.ref (Z.1 0), .ref (ra Z a 1)]) rfl rfl (Nat.le_of_ble_eq_true rfl) dL_law_128) (fun a1 H locs hg hW => ?_)
    have q0 := ra_to (Z := Z) hpw hg k0
    have q1 := ra_to (Z := Z) hpw hg k1
    rw [← q0, ← q1] at hl
    refine lv_if_eq (tgt := 144) C.1 C.2.1 dL_law_131 (by decide) (fun q => absurd q z2) (fun _ => ?_)
    refine lv_aload_n C.1 C.2.1 dL_law_134 rfl (lv_at hl 2 rfl) ?_
    refine lv_aload C.1 C.2.1 dL_law_135 (lv_at hl 1 rfl) ?_
    refine lv_aload_n C.1 C.2.1 dL_law_137 rfl (lv_at hl 4 rfl) ?_
    have h2 : 2 ≤ r2.2.1 := Nat.le_trans h2 hg.2
    have hpw2 := hW.2.2.2
    obtain ⟨k0, k1⟩ := rkb_2 h2
    refine z_calliA hW (z_runS C hW hl (c_L_does hlt e3) cw_L_193 ct_L_does (fr_okP (by decide) (by decide)) (fr_c (by omega) (by omega)) (As := [.ref (Z.1 0), .ref (ra Z a1 1), .ref (ra Z a1 0)]) rfl rfl (Nat.le_of_ble_eq_true rfl) dL_law_138) (fun a2 H locs hg2 hW => ?_)
    have q0 := ra_to (Z := Z) hpw2 hg2 k0
    have q1 := ra_to (Z := Z) hpw2 hg2 k1
    rw [← q0, ← q1] at hl
    refine lv_if_ne (tgt := 146) C.1 C.2.1 dL_law_141 (by decide) (fun _ => ?_) (fun q => absurd q z3)
    refine lv_iinc (v := nI (18 - n)) (lv' := [(5, .int (nI (18 - n))), (4, .ref (ra Z a2 1)), (3, .ref (Z.1 0)), (2, .int k), (1, .ref (ra Z a2 0)), (0, .ref b)]) C.1 C.2.1 dL_law_146 hl (k := 0) rfl hi2 (by decide) rfl (fun ls hl => ?_)
    refine lv_goto (tgt := 109) C.1 C.2.1 dL_law_149 (by decide) ?_
    refine W.widen (k := cells + 13) (n := slots + 7800) (by omega) (by omega) ?_
    refine ih (by omega) r3.2.1 a2 r3.2.2 H locs ls (cells + 13) (slots + 7800) (Nat.le_trans h2 hg2.2) (by omega) (by omega) hW hl hf (fun a3 H3 locs3 ls3 hg3 hW3 hl3 => ?_)
    have k1 := kk a3 H3 locs3 ls3 ((hg.tr hg2).tr hg3) hW3 hl3
    rw [show cells + 13 * (n + 1) = cells + 13 + 13 * n by omega, show slots + 7800 * (n + 1) = slots + 7800 + 7800 * n by omega] at k1
    exact k1
theorem one_D {D : va_G} {Z : ZT} (hZ : Z.2.1 = D) {h : Hp} {a : Nat → Nat} {g : PL} {A : Nat → Prop} {H : Heap} (hP : va_P D vwCl (wl Z h (pl Z a g)) H) (hD : va_D A (wl Z h (pl Z a g))) (hp : PW g) (hk : gk g 0 1 = true) : va_P D vwCl [(ra Z a 0, .inr (10, [.int (g.2.2 0 0)]))] H ∧ va_D A [(ra Z a 0, .inr (10, [.int (g.2.2 0 0)]))] := by
  have hat := pk_at (Z := Z) (h := h) (a := a) hp hk (e := .inr (10, [.int (g.2.2 0 0)])) rfl
  have hq : ∀ k (z : Nat × va_E), ([(ra Z a 0, .inr (10, [.int (g.2.2 0 0)]))] : va_W)[k]? = some z → (wl Z h (pl Z a g))[125 + 0 + k * 0]? = some z := by
    intro k z hz
    have hk : k < 1 := (List.getElem?_eq_some_iff.mp hz).1
    have hk : k = 0 := by omega
    subst hk
    rw [← hz]
    exact hat
  exact ⟨hP.by (fun k => 125 + 0 + k * 0) hq, hD.by (fun k => 125 + 0 + k * 0) hq (fun i j hi hj _ => by
    have hi : i < 1 := hi
    have hj : j < 1 := hj
    omega)⟩
end LW
