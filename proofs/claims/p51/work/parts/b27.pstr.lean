/-! texts: one of the law's own, or one that was made -/
theorem isT_t {x : Nat} (h : isT x = true) : 1000000 ≤ x ∧ x - 1000000 < 10 := by
  unfold isT at h
  rw [Bool.and_eq_true, decide_eq_true_eq, decide_eq_true_eq] at h
  omega
theorem sOK_t {g : PL} {x : Nat} (h : sOK g x = true) : (1000000 ≤ x ∧ x - 1000000 < 10) ∨ (gk g x 3 = true ∧ g.2.2 x 1 = 0 ∧ ¬ g.2.2 x 0 < 0 ∧ gk g (ix (g.2.2 x 0)) 6 = true) := by
  unfold sOK at h
  rw [Bool.or_eq_true] at h
  rcases h with h | h
  · exact Or.inl (isT_t h)
  · rw [Bool.and_eq_true, Bool.and_eq_true, Bool.and_eq_true, decide_eq_true_eq, decide_eq_true_eq] at h
    exact Or.inr ⟨h.1.1.1, h.1.1.2, h.1.2, h.2⟩
def sva (Z : ZT) (a : Nat → Nat) (g : PL) (x : Nat) : Nat := if 1000000 ≤ x then Z.2.2.2.2 (2 * (x - 1000000) + 201) else ra Z a (ix (g.2.2 x 0))
theorem ra_T {Z : ZT} {a : Nat → Nat} {x : Nat} (h : 1000000 ≤ x) : ra Z a x = Z.2.2.2.2 (2 * (x - 1000000) + 200) := if_neg (by omega)
theorem dyn_lt {g : PL} {x kd : Nat} (hp : PW g) (h : gk g x kd = true) : ¬ 1000000 ≤ x := by
  have := (gk_t h).1
  have := hp.1
  omega
section ZN
variable {p : Program} {l : Launch} {e : Env} {R : Room} {s : State} {m : MethodId} {args : Array Value} {below : List Frame} {meth : Method} {c : Code} {H : Heap} {locs : List Loc} {cells slots : Nat} {Q : State → Prop} {cc bytes : ByteArray} {pc nL tgt maxL n idx mc ms : Nat} {ret rt : Option FieldType} {ls : Array Slot} {rest st As : List Value} {Z : ZT} {h h1 : Hp} {a a0 : Nat → Nat} {g g0 g1 : PL} {own : String} {α : Type} {out : α} {rm : Room} {lv : List (Nat × Value)} {y : MethodName} {Qc : Array Value → State → Outcome → State → Prop} {arr : Array Value} {st0 : List Value} {x : Nat}
theorem str_recv (C : CQ p s m args meth c cc own nL ret Z) (hW : XG Z h a g s.heap H locs) (ho : sOK g x = true) : ∃ cell : Cell, H[ra Z a x]? = some cell ∧ cell.vm.isStatics = false ∧ s.vm.findClass "java/lang/String" = some cell.cls := by
  rcases sOK_t ho with ⟨h1, h2⟩ | ⟨h1, -, -, -⟩
  · obtain ⟨cell, q1, q2, q3, -⟩ := (C.2.2.2.2.2.2.2.2.2.2.1 _ h2).1.kept hW.2.1.2.1
    rw [ra_T h1]
    exact ⟨cell, q1, q2, q3⟩
  · exact va_recv C.2.2.2.2.2.2.2.1 hW.1 (ci := 12) (q := (RJ0, TJ0, 4)) rfl (pk_at hW.2.2.2 h1 (e := .inr (12, fl_J0 Z a (g.2.2 x))) rfl)
theorem z_sgetc (C : CQ p s m args meth c cc "java/lang/String" nL ret Z) (hW : XG Z h a g s.heap H locs) (ho : sOK g x = true) (hd : decode cc pc = .ok (.getfield 15, 3)) (k : W p l e R s m args below meth c H locs cells slots Q (F0 m (pc + 3) ls (.int 0 :: rest))) : W p l e R s m args below meth c H locs cells slots Q (F0 m pc ls (.ref (ra Z a x) :: rest)) := by
  rcases sOK_t ho with ⟨h1, h2⟩ | ⟨h1, h2, -, -⟩
  · rw [ra_T h1]
    exact vk_getf C.1 C.2.1 (C.2.2.2.2.2.2.2.2.2.2.1 _ h2).2.1 hW.2.1 C.2.2.2.1 (C.2.2.1 _ fs_15) (fun _ q => q) hd k
  · refine zg_J0_15 C hW (α := Unit) (K := some ()) (out := ()) (by rw [h1]; rfl) hd (fun _ => ?_)
    rw [h2]
    exact k
theorem z_sgetv (C : CQ p s m args meth c cc "java/lang/String" nL ret Z) (hW : XG Z h a g s.heap H locs) (ho : sOK g x = true) (hd : decode cc pc = .ok (.getfield 9, 3)) (k : W p l e R s m args below meth c H locs cells slots Q (F0 m (pc + 3) ls (.ref (sva Z a g x) :: rest))) : W p l e R s m args below meth c H locs cells slots Q (F0 m pc ls (.ref (ra Z a x) :: rest)) := by
  rcases sOK_t ho with ⟨h1, h2⟩ | ⟨h1, -, h3, -⟩
  · rw [show sva Z a g x = _ from if_pos h1] at k
    rw [ra_T h1]
    exact vk_getf C.1 C.2.1 (C.2.2.2.2.2.2.2.2.2.2.1 _ h2).2.2.1 hW.2.1 C.2.2.2.1 (C.2.2.1 _ fs_9) (fun _ q => q) hd k
  · refine zg_J0_9 C hW (α := Unit) (K := fun z => if z = ix (g.2.2 x 0) then some () else none) (out := ()) ?_ hd (fun z hz => ?_)
    · unfold ckn
      rw [h1, if_neg h3]
      show (if ix (g.2.2 x 0) = ix (g.2.2 x 0) then some () else none) = _
      rw [if_pos rfl]
    · have e : z = ix (g.2.2 x 0) := by
        apply Classical.byContradiction
        intro q
        have hz : (if z = ix (g.2.2 x 0) then some () else none) = some () := hz
        rw [if_neg q] at hz
        cases hz
      rw [show sva Z a g x = _ from if_neg (dyn_lt hW.2.2.2 h1)] at k
      rw [e]
      exact k
theorem z_salen (C : CQ p s m args meth c cc own nL ret Z) (hW : XG Z h a g s.heap H locs) (ho : sOK g x = true) (hd : decode cc pc = .ok (.arraylength, 1)) (k : W p l e R s m args below meth c H locs cells slots Q (F0 m (pc + 1) ls (.int (nI (sLen g x)) :: rest))) : W p l e R s m args below meth c H locs cells slots Q (F0 m pc ls (.ref (sva Z a g x) :: rest)) := by
  rcases sOK_t ho with ⟨h1, h2⟩ | ⟨h1, -, h3, h4⟩
  · rw [show sva Z a g x = _ from if_pos h1]
    rw [show sLen g x = _ from if_pos h1] at k
    exact va_tlen C.1 C.2.1 (C.2.2.2.2.2.2.2.2.2.2.1 _ h2).2.2.2 hW.2.1 rfl hd k
  · rw [show sva Z a g x = _ from if_neg (dyn_lt hW.2.2.2 h1)]
    rw [show sLen g x = _ from if_neg (dyn_lt hW.2.2.2 h1)] at k
    exact z_alenB C hW (α := Unit) (K := some ()) (out := ()) (by rw [h4]; rfl) hd (fun _ => k)
theorem z_scopy (C : CQ p s m args meth c cc own nL ret Z) (hW : XG Z h a g s.heap H locs) (hl : lv_has ls nL lv) {o2 : Nat} (ho : sOK g x = true) (hk : Cond.methodLink own idx arraycopyName ∈ TW) (hR : 1 ≤ R.frames ∧ 8 + (nativeFrameWords "java/lang/System" "arraycopy" 5 + 11) ≤ R.locals) {sp dp cn : Int32} {K : PL → Option α} (hf : ck (gk g o2 6 && cpok sp dp cn (sLen g x) (gl g o2)) (stp (gcp g (sB g x) o2 sp dp cn) K) = some out) (hd : decode cc pc = .ok (.invokestatic idx, 3)) (kk : ∀ (g1 : PL) (H1 : Heap) (locs1 : List Loc), K g1 = some out → g1.1 = g.1 → XG Z h a g1 s.heap H1 locs1 → W p l e R s m args below meth c H1 locs1 cells slots Q (F0 m (pc + 3) ls rest)) (hcat : (rest.map fun v => v.category).sum ≤ 8 := by exact Nat.le_of_ble_eq_true rfl) : W p l e R s m args below meth c H locs cells slots Q (F0 m pc ls (.int cn :: .int dp :: .ref (ra Z a o2) :: .int sp :: .ref (sva Z a g x) :: rest)) := by
  rcases sOK_t ho with ⟨h1, h2⟩ | ⟨h1, -, h3, h4⟩
  · rw [show sva Z a g x = _ from if_pos h1]
    rw [show sLen g x = _ from if_pos h1, show sB g x = _ from if_pos h1] at hf
    exact z_copyT C hW hl h2 hk hR hf hd kk hcat
  · rw [show sva Z a g x = _ from if_neg (dyn_lt hW.2.2.2 h1)]
    rw [show sLen g x = _ from if_neg (dyn_lt hW.2.2.2 h1), show sB g x = _ from if_neg (dyn_lt hW.2.2.2 h1)] at hf
    refine z_copyB C hW hl hk hR (o1 := ix (g.2.2 x 0)) (sp := sp) (dp := dp) (cn := cn) (K := K) ?_ hd kk hcat
    rw [h4, Bool.true_and]
    exact hf
theorem z_runT (C : CQ p s m args meth c cc own nL ret Z) (hW : XG Z h a g s.heap H locs) (hl : lv_has ls nL lv) (ho : sOK g x = true) (hcn : y.cls = "java/lang/String") (hm : Met l y (wY y bytes maxL rt) rm (va_Pc (.ref (ra Z a x) :: As) (WdP Z h a g)) Qc mc ms (FR Z)) (hw : CWd own idx y bytes maxL rt n) (hi : Cond.instanceMethod y ∈ TW) (hs : Cond.selects y.cls y y ∈ TW) (hr : RmK rm R maxL mc ms) (hcs : cells + mc ≤ R.cells ∧ slots + ms ≤ R.slots) (hn : As.length = n) (hst : st = As.reverse ++ .ref (ra Z a x) :: rest) (hcat : (rest.map fun v => v.category).sum ≤ 8) (hd : decode cc pc = .ok (.invokevirtual idx, 3)) : va_Run p l e R s m args below meth c H locs cells slots mc ms (F0 m pc ls st) rest (Qc (Value.ref (ra Z a x) :: As).toArray) (FR Z) := by
  have hts := C.2.2.1
  refine va_runV (bytes := bytes) (maxL := maxL) (ret := rt) (As := As) (rest := rest) (b := ra Z a x) (C := "java/lang/String") (n := n) ⟨C.1, C.2.1, C.2.2.2.2.1, C.2.2.2.1, hts⟩ hm ?_ ⟨WdP_blind, str_recv C hW ho, (z_pre C hW).2⟩ rfl hn hl.1 hst (lv_room hcat) hd hcs
  have q : Cond.selects "java/lang/String" y y ∈ TW := by rw [← hcn]; exact hs
  exact ⟨callB_of n hts (wY_good hw.2.1) rfl hr.1 hr.2.1 (hts _ hw.2.2.1) (hts _ hw.1) hw.2.2.2 hr.2.2, hts _ hi, hts _ q⟩
end ZN
theorem k_coder {l : Launch} {Z : ZT} {h : Hp} {a : Nat → Nat} {g : PL} {x : Nat} (ho : sOK g x = true) : Met l yscoder (wY yscoder cscoder 1 (some .byte)) (rmP 0 0) (va_Pc [.ref (ra Z a x)] (WdP Z h a g)) (va_Qi (fun r (_ : Unit) => r = 0) (fun _ => WdP Z h a g) (FR Z)) 0 (600 * 0) (FR Z) := by
  refine metZ "java/lang/String" rfl (by decide +kernel) (Nat.le_of_ble_eq_true rfl) ?_
  intro p e s m args below meth c C hin hW ls hl
  have hl : lv_has ls 1 [(0, .ref (ra Z a x))] := hl
  refine va_gets C.1 C.2.1 C.2.2.2.2.2.2.2.2.2.1.2.2.1 hW.2.1 C.2.2.2.1 (C.2.2.1 _ fs_38) (fun _ q => q) dscoder_0 ?_
  refine lv_if_eq (tgt := 13) C.1 C.2.1 dscoder_3 (by decide) (fun q => absurd q (by decide)) (fun _ => ?_)
  refine lv_aload_n C.1 C.2.1 dscoder_6 rfl (lv_at hl 0 rfl) ?_
  refine z_sgetc C hW ho dscoder_7 ?_
  refine lv_goto (tgt := 14) C.1 C.2.1 dscoder_10 (by decide) ?_
  exact z_nret C hW rfl dscoder_14 () rfl (fun _ q => q)
theorem k_isLatin1 {l : Launch} {Z : ZT} {h : Hp} {a : Nat → Nat} {g : PL} {x : Nat} (ho : sOK g x = true) : Met l ysisLatin1 (wY ysisLatin1 csisLatin1 1 (some .boolean)) (rmP 0 0) (va_Pc [.ref (ra Z a x)] (WdP Z h a g)) (va_Qi (fun r (_ : Unit) => r = 1) (fun _ => WdP Z h a g) (FR Z)) 0 (600 * 0) (FR Z) := by
  refine metZ "java/lang/String" rfl (by decide +kernel) (Nat.le_of_ble_eq_true rfl) ?_
  intro p e s m args below meth c C hin hW ls hl
  have hl : lv_has ls 1 [(0, .ref (ra Z a x))] := hl
  refine va_gets C.1 C.2.1 C.2.2.2.2.2.2.2.2.2.1.2.2.1 hW.2.1 C.2.2.2.1 (C.2.2.1 _ fs_38) (fun _ q => q) dsisLatin1_0 ?_
  refine lv_if_eq (tgt := 17) C.1 C.2.1 dsisLatin1_3 (by decide) (fun q => absurd q (by decide)) (fun _ => ?_)
  refine lv_aload_n C.1 C.2.1 dsisLatin1_6 rfl (lv_at hl 0 rfl) ?_
  refine z_sgetc C hW ho dsisLatin1_7 ?_
  refine lv_if_ne (tgt := 17) C.1 C.2.1 dsisLatin1_10 (by decide) (fun q => absurd rfl q) (fun _ => ?_)
  refine lv_iconst (v := 1) C.1 C.2.1 dsisLatin1_13 (by decide) ?_
  refine lv_goto (tgt := 18) C.1 C.2.1 dsisLatin1_14 (by decide) ?_
  exact z_zret C hW (by decide) dsisLatin1_18 () rfl (fun _ q => q)
theorem shr0 {n : Nat} (h : n < 2147483648) : nI n >>> ((0 : Int32) &&& 31) = nI n := sc_shr0 h
theorem k_length {l : Launch} {Z : ZT} {h : Hp} {a : Nat → Nat} {g : PL} {x : Nat} (ho : sOK g x = true) (hn : sLen g x < 2147483648) : Met l yslength (wY yslength cslength 1 (some .int)) (rmP 1 0) (va_Pc [.ref (ra Z a x)] (WdP Z h a g)) (va_Qi (fun r (_ : Unit) => r = nI (sLen g x)) (fun _ => WdP Z h a g) (FR Z)) 0 (600 * 0) (FR Z) := by
  refine metZ "java/lang/String" rfl (by decide +kernel) (Nat.le_of_ble_eq_true rfl) ?_
  intro p e s m args below meth c C hin hW ls hl
  have hl : lv_has ls 1 [(0, .ref (ra Z a x))] := hl
  refine lv_aload_n C.1 C.2.1 dslength_0 rfl (lv_at hl 0 rfl) ?_
  refine z_sgetv C hW ho dslength_1 ?_
  refine z_salen C hW ho dslength_4 ?_
  refine lv_aload_n C.1 C.2.1 dslength_5 rfl (lv_at hl 0 rfl) ?_
  refine z_calli hW (z_runT C hW hl ho rfl (k_coder ho) cws_coder_335 tin_coder tse_coder (rm_okP (by decide) (by decide)) (rm_cs (Nat.le_refl _)) (As := []) rfl rfl (Nat.le_of_ble_eq_true rfl) dslength_6) (fun H locs hW => ?_)
  refine lv_ishr C.1 C.2.1 dslength_9 ?_
  exact z_iret C hW dslength_10 () (shr0 hn) (fun _ q => q)
abbrev csgetBytes : ByteArray := prog_26_method_147_code
def ysgetBytes : MethodName := ⟨"java/lang/String", "getBytes", "([BIB)V"⟩
theorem dsgetBytes_0 : decode csgetBytes 0 = .ok (.aload_n 0, 1) := by decide +kernel
theorem dsgetBytes_1 : decode csgetBytes 1 = .ok (.invokevirtual 335, 3) := by decide +kernel
theorem dsgetBytes_4 : decode csgetBytes 4 = .ok (.iload_n 3, 1) := by decide +kernel
theorem dsgetBytes_5 : decode csgetBytes 5 = .ok (.if_icmp .ne 23, 3) := by decide +kernel
theorem dsgetBytes_8 : decode csgetBytes 8 = .ok (.aload_n 0, 1) := by decide +kernel
theorem dsgetBytes_9 : decode csgetBytes 9 = .ok (.getfield 9, 3) := by decide +kernel
theorem dsgetBytes_12 : decode csgetBytes 12 = .ok (.iconst 0, 1) := by decide +kernel
theorem dsgetBytes_13 : decode csgetBytes 13 = .ok (.aload_n 1, 1) := by decide +kernel
theorem dsgetBytes_14 : decode csgetBytes 14 = .ok (.iload_n 2, 1) := by decide +kernel
theorem dsgetBytes_15 : decode csgetBytes 15 = .ok (.iload_n 3, 1) := by decide +kernel
theorem dsgetBytes_16 : decode csgetBytes 16 = .ok (.ishl, 1) := by decide +kernel
theorem dsgetBytes_17 : decode csgetBytes 17 = .ok (.aload_n 0, 1) := by decide +kernel
theorem dsgetBytes_18 : decode csgetBytes 18 = .ok (.getfield 9, 3) := by decide +kernel
theorem dsgetBytes_21 : decode csgetBytes 21 = .ok (.arraylength, 1) := by decide +kernel
theorem dsgetBytes_22 : decode csgetBytes 22 = .ok (.invokestatic 212, 3) := by decide +kernel
theorem dsgetBytes_25 : decode csgetBytes 25 = .ok (.goto 18, 3) := by decide +kernel
theorem dsgetBytes_28 : decode csgetBytes 28 = .ok (.aload_n 0, 1) := by decide +kernel
theorem dsgetBytes_29 : decode csgetBytes 29 = .ok (.getfield 9, 3) := by decide +kernel
theorem dsgetBytes_32 : decode csgetBytes 32 = .ok (.iconst 0, 1) := by decide +kernel
theorem dsgetBytes_33 : decode csgetBytes 33 = .ok (.aload_n 1, 1) := by decide +kernel
theorem dsgetBytes_34 : decode csgetBytes 34 = .ok (.iload_n 2, 1) := by decide +kernel
theorem dsgetBytes_35 : decode csgetBytes 35 = .ok (.aload_n 0, 1) := by decide +kernel
theorem dsgetBytes_36 : decode csgetBytes 36 = .ok (.getfield 9, 3) := by decide +kernel
theorem dsgetBytes_39 : decode csgetBytes 39 = .ok (.arraylength, 1) := by decide +kernel
theorem dsgetBytes_40 : decode csgetBytes 40 = .ok (.invokestatic 106, 3) := by decide +kernel
theorem dsgetBytes_43 : decode csgetBytes 43 = .ok (.return_, 1) := by decide +kernel
theorem tin_getBytes : Cond.instanceMethod ysgetBytes ∈ TW := TW_of 550 (by decide +kernel) (by decide +kernel)
theorem tse_getBytes : Cond.selects ysgetBytes.cls ysgetBytes ysgetBytes ∈ TW := TW_of 551 (by decide +kernel) (by decide +kernel)
theorem ml_S_212 : Cond.methodLink "java/lang/String" 212 arraycopyName ∈ TW := TW_of 553 (by decide +kernel) (by decide +kernel)
theorem k_getBytes {l : Launch} {Z : ZT} {h : Hp} {a : Nat → Nat} {g : PL} {x : Nat} {o2 : Nat} {i : Int32} {out : PL} (ho : sOK g x = true) (hf : ck (gk g o2 6 && cpok 0 i (nI (sLen g x)) (sLen g x) (gl g o2)) (some (gcp g (sB g x) o2 0 i (nI (sLen g x)))) = some out) : Met l ysgetBytes (wY ysgetBytes csgetBytes 4 none) (rmP 1 0) (va_Pc [.ref (ra Z a x), .ref (ra Z a o2), .int i, .int 0] (WdP Z h a g)) (va_Qv (fun (_ : Unit) => True) (fun _ => WdP Z h a out) (FR Z)) 0 (600 * 0) (FR Z) := by
  refine metZ "java/lang/String" rfl (by decide +kernel) (Nat.le_of_ble_eq_true rfl) ?_
  intro p e s m args below meth c C hin hW ls hl
  have hl : lv_has ls 4 [(0, .ref (ra Z a x)), (1, .ref (ra Z a o2)), (2, .int i), (3, .int 0)] := hl
  refine lv_aload_n C.1 C.2.1 dsgetBytes_0 rfl (lv_at hl 0 rfl) ?_
  refine z_calli hW (z_runT C hW hl ho rfl (k_coder ho) cws_coder_335 tin_coder tse_coder (rm_okP (by decide) (by decide)) (rm_cs (Nat.le_refl _)) (As := []) rfl rfl (Nat.le_of_ble_eq_true rfl) dsgetBytes_1) (fun H locs hW => ?_)
  refine lv_iload_n C.1 C.2.1 dsgetBytes_4 rfl (lv_at hl 3 rfl) ?_
  refine lv_icmp_ne (tgt := 28) C.1 C.2.1 dsgetBytes_5 (by decide) (fun q => absurd rfl q) (fun _ => ?_)
  refine lv_aload_n C.1 C.2.1 dsgetBytes_8 rfl (lv_at hl 0 rfl) ?_
  refine z_sgetv C hW ho dsgetBytes_9 ?_
  refine lv_iconst (v := 0) C.1 C.2.1 dsgetBytes_12 (by decide) ?_
  refine lv_aload_n C.1 C.2.1 dsgetBytes_13 rfl (lv_at hl 1 rfl) ?_
  refine lv_iload_n C.1 C.2.1 dsgetBytes_14 rfl (lv_at hl 2 rfl) ?_
  refine lv_iload_n C.1 C.2.1 dsgetBytes_15 rfl (lv_at hl 3 rfl) ?_
  refine lv_ishl C.1 C.2.1 dsgetBytes_16 ?_
  refine lv_aload_n C.1 C.2.1 dsgetBytes_17 rfl (lv_at hl 0 rfl) ?_
  refine z_sgetv C hW ho dsgetBytes_18 ?_
  refine z_salen C hW ho dsgetBytes_21 ?_
  have e0 : i <<< ((0 : Int32) &&& 31) = i := sb_shl0 i
  rw [e0]
  refine z_scopy C hW hl ho ml_S_212 ⟨by decide, by decide⟩ (K := fun g1 => some g1) hf dsgetBytes_22 (fun g1 H locs hf _ hW => ?_)
  obtain rfl := Option.some.inj hf
  refine lv_goto (tgt := 43) C.1 C.2.1 dsgetBytes_25 (by decide) ?_
  exact z_vret C hW dsgetBytes_43 () trivial (fun _ q => q)
theorem k_lchar {l : Launch} {Z : ZT} {h : Hp} {a : Nat → Nat} {g : PL} {x : Nat} {i : Nat} (ho : gk g x 6 = true) (hx : i < gl g x) (hn : gl g x < 2147483648) : Met l yslchar (wY yslchar cslchar 2 (some .char)) (rmP 2 0) (va_Pc [.ref (ra Z a x), .int (nI i)] (WdP Z h a g)) (va_Qi (fun r (_ : Unit) => r = g.2.2 x (ix (nI i)) &&& 255) (fun _ => WdP Z h a g) (FR Z)) 0 (600 * 0) (FR Z) := by
  refine metZ "java/lang/StringLatin1" rfl (by decide +kernel) (Nat.le_of_ble_eq_true rfl) ?_
  intro p e s m args below meth c C hin hW ls hl
  have hl : lv_has ls 2 [(0, .ref (ra Z a x)), (1, .int (nI i))] := hl
  refine lv_iload_n C.1 C.2.1 dslchar_0 rfl (lv_at hl 1 rfl) ?_
  refine lv_aload_n C.1 C.2.1 dslchar_1 rfl (lv_at hl 0 rfl) ?_
  refine z_alenB C hW (α := Unit) (K := some ()) (out := ()) (by rw [ho]; rfl) dslchar_2 (fun _ => ?_)
  refine z_callv0 hW (z_runS0 C hW hl (c_checkIndex hx (by omega)) cws_checkIndex_9 tst_checkIndex (rm_okD (by decide) (by decide)) (rm_cs (Nat.le_refl _)) (As := [.int (nI i), .int (nI (gl g x))]) rfl rfl (Nat.le_of_ble_eq_true rfl) dslchar_3) (fun H locs hW => ?_)
  refine lv_aload_n C.1 C.2.1 dslchar_6 rfl (lv_at hl 0 rfl) ?_
  refine lv_iload_n C.1 C.2.1 dslchar_7 rfl (lv_at hl 1 rfl) ?_
  have hxi : inb (nI i) (gl g x) = true := by
    unfold inb
    have e : ix (nI i) = i := nI_clamp (by omega)
    rw [e, decide_eq_true hx, decide_eq_true (nI_pos' (by omega))]
    rfl
  refine z_bald C hW (α := Unit) (K := some ()) (out := ()) (by rw [ho, hxi]; rfl) dslchar_8 (fun _ => ?_)
  refine lv_sipush (v := 255) C.1 C.2.1 dslchar_9 (by decide) ?_
  refine lv_iand C.1 C.2.1 dslchar_12 ?_
  have e2 := sc_c2 (g.2.2 x (ix (nI i)))
  refine lv_i2c (v := g.2.2 x (ix (nI i)) &&& 255) C.1 C.2.1 dslchar_13 e2 ?_
  exact z_nret C hW (sc_nar _) dslchar_14 () rfl (fun _ q => q)
theorem k_charAt {l : Launch} {Z : ZT} {h : Hp} {a : Nat → Nat} {g : PL} {x : Nat} {i : Int32} (ho : sOK g x = true) (hd : ¬ 1000000 ≤ x) (hx : inb i (sLen g x) = true) (hn : sLen g x < 2147483648) : Met l yscharAt (wY yscharAt cscharAt 2 (some .char)) (rmP 3 0) (va_Pc [.ref (ra Z a x), .int i] (WdP Z h a g)) (va_Qi (fun r (_ : Unit) => r = sB g x (ix i) &&& 255) (fun _ => WdP Z h a g) (FR Z)) 0 (600 * 0) (FR Z) := by
  rcases sOK_t ho with ⟨q1, -⟩ | ⟨q1, q2, q3, q4⟩
  · exact absurd q1 hd
  have e1 : sLen g x = gl g (ix (g.2.2 x 0)) := if_neg hd
  have e2 : sB g x = g.2.2 (ix (g.2.2 x 0)) := if_neg hd
  obtain ⟨r1, r2⟩ := inb_nI hx
  rw [e1] at hn r2
  rw [e2]
  refine metZ "java/lang/String" rfl (by decide +kernel) (Nat.le_of_ble_eq_true rfl) ?_
  intro p e s m args below meth c C hin hW ls hl
  have hl : lv_has ls 2 [(0, .ref (ra Z a x)), (1, .int i)] := hl
  refine lv_aload_n C.1 C.2.1 dscharAt_0 rfl (lv_at hl 0 rfl) ?_
  refine z_calli hW (z_runT C hW hl ho rfl (k_isLatin1 ho) cws_isLatin1_492 tin_isLatin1 tse_isLatin1 (rm_okP (by decide) (by decide)) (rm_cs (Nat.le_refl _)) (As := []) rfl rfl (Nat.le_of_ble_eq_true rfl) dscharAt_1) (fun H locs hW => ?_)
  refine lv_if_eq (tgt := 16) C.1 C.2.1 dscharAt_4 (by decide) (fun q => absurd q (by decide)) (fun _ => ?_)
  refine lv_aload_n C.1 C.2.1 dscharAt_7 rfl (lv_at hl 0 rfl) ?_
  refine z_sgetv C hW ho dscharAt_8 ?_
  rw [show sva Z a g x = _ from if_neg hd]
  refine lv_iload_n C.1 C.2.1 dscharAt_11 rfl (lv_at hl 1 rfl) ?_
  have hm := k_lchar (l := l) (Z := Z) (h := h) (a := a) q4 r2 hn
  rw [← r1] at hm
  refine z_calli hW (z_runS C hW hl hm cws_lchar_495 tst_lchar (rm_okP (by decide) (by decide)) (rm_cs (Nat.le_refl _)) (As := [.ref (ra Z a (ix (g.2.2 x 0))), .int i]) rfl rfl (Nat.le_of_ble_eq_true rfl) dscharAt_12) (fun H locs hW => ?_)
  exact z_nret C hW (sc_nar _) dscharAt_15 () rfl (fun _ q => q)
