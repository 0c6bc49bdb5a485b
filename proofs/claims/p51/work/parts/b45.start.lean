/-! the law's entry: what the start gives -/
def FL : List Cond := flatC (Jvm.Cond.and given_1 narrow_1)
def strW (C : String) (k : Nat) (bs : List Int32) : List Cond := [.exactly (.string C k) "java/lang/String", .eq (.field (.string C k) "java/lang/String" "coder" "B") (.int 0), .arrayOf (.field (.string C k) "java/lang/String" "value" "[B") .byte, .eq (.length (.field (.string C k) "java/lang/String" "value" "[B")) (.int (Int32.ofNat bs.length))] ++ (List.range bs.length).map (fun j => .eq (.elem (.field (.string C k) "java/lang/String" "value" "[B") (.int (Int32.ofNat j))) (.int (bs.getD j 0)))
theorem sub_of {l w : List Cond} (o : Nat) (h : (l.drop o).take w.length = w) : ∀ c ∈ w, c ∈ l := fun c hc => List.mem_of_mem_drop (List.mem_of_mem_take (by rw [h]; exact hc))
theorem tbl_of {w : Cond} (i : Nat) (h : lw_tbl[i]? = some w) : w ∈ lw_tbl := List.mem_of_getElem? h
theorem fl_of {w : Cond} (i : Nat) (h : FL[i]? = some w) : w ∈ FL := List.mem_of_getElem? h
/-- what a text's words give -/
theorem str_ok {C : String} {k : Nat} {bs : List Int32} {args : Array Value} {s : State} {A : Nat → Prop} (hw : ∀ w ∈ strW C k bs, w.before args s = true) (hn : bs.length < 2 ^ 31) (hA : ∀ a, a < s.heap.size → ¬ A a) :
    ∃ a v, Term.eval args s none [] s (.string C k) = some (.ref a) ∧ va_O "java/lang/String" a A s s.heap ∧ va_OF "java/lang/String" "coder" "B" (.int 0) a A s s.heap ∧ va_OF "java/lang/String" "value" "[B" (.ref v) a A s s.heap ∧ va_T .byte v bs.length (fun j => .int (bs.getD j 0)) A s s.heap := by
  have h1 := hw (.exactly (.string C k) "java/lang/String") (List.mem_append_left _ (List.mem_of_getElem? (i := 0) rfl))
  have h2 := hw (.eq (.field (.string C k) "java/lang/String" "coder" "B") (.int 0)) (List.mem_append_left _ (List.mem_of_getElem? (i := 1) rfl))
  have h3 := hw (.arrayOf (.field (.string C k) "java/lang/String" "value" "[B") .byte) (List.mem_append_left _ (List.mem_of_getElem? (i := 2) rfl))
  have h4 := hw (.eq (.length (.field (.string C k) "java/lang/String" "value" "[B")) (.int (Int32.ofNat bs.length))) (List.mem_append_left _ (List.mem_of_getElem? (i := 3) rfl))
  obtain ⟨a, c, cell, kk, ha, -⟩ := Cond.exactly_spec h1
  obtain ⟨y2, e2, f2⟩ := Cond.eq_one h2
  cases Option.some.inj f2
  obtain ⟨y4, e4, f4⟩ := Cond.eq_one h4
  cases Option.some.inj f4
  obtain ⟨v, hv, hT⟩ := va_Tof (tm := .field (.string C k) "java/lang/String" "value" "[B") (ty := .byte) (N := bs.length) (f := fun j => .int (bs.getD j 0)) (A := A) hn h3 e4 (fun j hj => by
    have h5 := hw (.eq (.elem (.field (.string C k) "java/lang/String" "value" "[B") (.int (Int32.ofNat j))) (.int (bs.getD j 0))) (List.mem_append_right _ (List.mem_map.mpr ⟨j, List.mem_range.mpr hj, rfl⟩))
    obtain ⟨y5, e5, f5⟩ := Cond.eq_one h5
    cases Option.some.inj f5
    exact e5) hA
  exact ⟨a, v, ha, va_Oof h1 ha hA, vk_OFof ha e2 hA, vk_OFof ha hv hA, hT⟩
def txA (j : Nat) : List Int32 := if j < 100 then tx.getD j [] else txP.getD (j - 100) []
def okStr (q : String × Nat × String × Nat) : Prop := (∀ w ∈ strW q.1 q.2.1 (txA q.2.2.2), w ∈ FL) ∧ Cond.stringRef q.1 q.2.1 q.2.2.1 ∈ lw_tbl
theorem os_100 : okStr ("TranscriptCutterLaw$Drawn", 43, "", 100) := ⟨sub_of 262 (by decide +kernel), tbl_of 398 (by decide +kernel)⟩
theorem os_101 : okStr ("TranscriptCutterLaw$Drawn", 69, "speaker s", 101) := ⟨sub_of 266 (by decide +kernel), tbl_of 555 (by decide +kernel)⟩
theorem os_102 : okStr ("TranscriptCutterLaw$Drawn", 74, ";", 102) := ⟨sub_of 279 (by decide +kernel), tbl_of 578 (by decide +kernel)⟩
theorem os_103 : okStr ("java/util/Arrays", 337, " > ", 103) := ⟨sub_of 284 (by decide +kernel), tbl_of 683 (by decide +kernel)⟩
theorem os_104 : okStr ("TranscriptCutterLaw$Drawn", 90, "word s", 104) := ⟨sub_of 291 (by decide +kernel), tbl_of 740 (by decide +kernel)⟩
theorem os_105 : okStr ("TranscriptCutterLaw$Drawn", 92, " t", 105) := ⟨sub_of 301 (by decide +kernel), tbl_of 741 (by decide +kernel)⟩
theorem os_106 : okStr ("TranscriptCutterLaw$Drawn", 98, " ", 106) := ⟨sub_of 307 (by decide +kernel), tbl_of 746 (by decide +kernel)⟩
theorem os_107 : okStr ("TranscriptCutterLaw$Drawn", 112, "breath ", 107) := ⟨sub_of 312 (by decide +kernel), tbl_of 748 (by decide +kernel)⟩
theorem os_108 : okStr ("TranscriptCutterLaw$Drawn", 114, "length ", 108) := ⟨sub_of 323 (by decide +kernel), tbl_of 749 (by decide +kernel)⟩
theorem os_109 : okStr ("TranscriptCutterLaw$Drawn", 116, ";handle ", 109) := ⟨sub_of 334 (by decide +kernel), tbl_of 750 (by decide +kernel)⟩
theorem os_2 : okStr ("TranscriptCutter$TextGrammar", 43, "length", 2) := ⟨sub_of 346 (by decide +kernel), tbl_of 863 (by decide +kernel)⟩
theorem os_3 : okStr ("TranscriptCutter$TextGrammar", 52, "speaker", 3) := ⟨sub_of 356 (by decide +kernel), tbl_of 897 (by decide +kernel)⟩
theorem os_4 : okStr ("TranscriptCutter$TextGrammar", 57, "word", 4) := ⟨sub_of 367 (by decide +kernel), tbl_of 914 (by decide +kernel)⟩
theorem os_5 : okStr ("TranscriptCutter$TextGrammar", 62, "breath", 5) := ⟨sub_of 375 (by decide +kernel), tbl_of 931 (by decide +kernel)⟩
theorem os_6 : okStr ("TranscriptCutter$TextGrammar", 67, "handle", 6) := ⟨sub_of 385 (by decide +kernel), tbl_of 939 (by decide +kernel)⟩
theorem os_7 : okStr ("TranscriptCutter", 74, "the text does not match", 7) := ⟨sub_of 395 (by decide +kernel), tbl_of 966 (by decide +kernel)⟩
theorem os_17 : okStr ("TranscriptCutter", 354, "no such word", 17) := ⟨sub_of 422 (by decide +kernel), tbl_of 1018 (by decide +kernel)⟩
theorem os_18 : okStr ("TranscriptCutter", 357, "no such block", 18) := ⟨sub_of 438 (by decide +kernel), tbl_of 1045 (by decide +kernel)⟩
theorem os_19 : okStr ("TranscriptCutter", 361, "no such shot", 19) := ⟨sub_of 455 (by decide +kernel), tbl_of 1062 (by decide +kernel)⟩
theorem os_20 : okStr ("TranscriptCutter", 359, "no such speaker", 20) := ⟨sub_of 471 (by decide +kernel), tbl_of 1075 (by decide +kernel)⟩
theorem os_21 : okStr ("TranscriptCutter", 363, "no such places", 21) := ⟨sub_of 490 (by decide +kernel), tbl_of 1128 (by decide +kernel)⟩
theorem os_22 : okStr ("TranscriptCutter", 297, "the word is not kept", 22) := ⟨sub_of 508 (by decide +kernel), tbl_of 1176 (by decide +kernel)⟩
theorem os_23 : okStr ("TranscriptCutter", 300, "the last word is before the first one", 23) := ⟨sub_of 532 (by decide +kernel), tbl_of 1187 (by decide +kernel)⟩
theorem os_24 : okStr ("TranscriptCutter", 305, "the last shot is before the first one", 24) := ⟨sub_of 573 (by decide +kernel), tbl_of 1208 (by decide +kernel)⟩
theorem os_25 : okStr ("TranscriptCutter", 307, "there is no such shot to move behind", 25) := ⟨sub_of 614 (by decide +kernel), tbl_of 1209 (by decide +kernel)⟩
theorem os_26 : okStr ("TranscriptCutter", 309, "the shot to move behind is moved itself", 26) := ⟨sub_of 654 (by decide +kernel), tbl_of 1210 (by decide +kernel)⟩
theorem os_27 : okStr ("TranscriptCutter", 315, "a head or tail is 0 to 999", 27) := ⟨sub_of 697 (by decide +kernel), tbl_of 1220 (by decide +kernel)⟩
theorem os_8 : okStr ("TranscriptCutter$ScriptGrammar", 65, "cut", 8) := ⟨sub_of 727 (by decide +kernel), tbl_of 1242 (by decide +kernel)⟩
theorem os_9 : okStr ("TranscriptCutter$ScriptGrammar", 71, "clean", 9) := ⟨sub_of 734 (by decide +kernel), tbl_of 1244 (by decide +kernel)⟩
theorem os_10 : okStr ("TranscriptCutter$ScriptGrammar", 73, "restore", 10) := ⟨sub_of 743 (by decide +kernel), tbl_of 1245 (by decide +kernel)⟩
theorem os_11 : okStr ("TranscriptCutter$ScriptGrammar", 75, "move", 11) := ⟨sub_of 754 (by decide +kernel), tbl_of 1246 (by decide +kernel)⟩
theorem os_12 : okStr ("TranscriptCutter$ScriptGrammar", 77, "if", 12) := ⟨sub_of 762 (by decide +kernel), tbl_of 1247 (by decide +kernel)⟩
theorem os_13 : okStr ("TranscriptCutter$ScriptGrammar", 79, "repeat", 13) := ⟨sub_of 768 (by decide +kernel), tbl_of 1248 (by decide +kernel)⟩
theorem os_14 : okStr ("TranscriptCutter$ScriptGrammar", 102, "else", 14) := ⟨sub_of 778 (by decide +kernel), tbl_of 1266 (by decide +kernel)⟩
theorem os_15 : okStr ("TranscriptCutter$ScriptGrammar", 84, "behind", 15) := ⟨sub_of 786 (by decide +kernel), tbl_of 1270 (by decide +kernel)⟩
theorem os_16 : okStr ("TranscriptCutter", 97, "the script does not match", 16) := ⟨sub_of 796 (by decide +kernel), tbl_of 1271 (by decide +kernel)⟩
theorem os_all : ∀ q ∈ strs, okStr q := List.forall_mem_cons.mpr ⟨os_100, List.forall_mem_cons.mpr ⟨os_101, List.forall_mem_cons.mpr ⟨os_102, List.forall_mem_cons.mpr ⟨os_103, List.forall_mem_cons.mpr ⟨os_104, List.forall_mem_cons.mpr ⟨os_105, List.forall_mem_cons.mpr ⟨os_106, List.forall_mem_cons.mpr ⟨os_107, List.forall_mem_cons.mpr ⟨os_108, List.forall_mem_cons.mpr ⟨os_109, List.forall_mem_cons.mpr ⟨os_2, List.forall_mem_cons.mpr ⟨os_3, List.forall_mem_cons.mpr ⟨os_4, List.forall_mem_cons.mpr ⟨os_5, List.forall_mem_cons.mpr ⟨os_6, List.forall_mem_cons.mpr ⟨os_7, List.forall_mem_cons.mpr ⟨os_17, List.forall_mem_cons.mpr ⟨os_18, List.forall_mem_cons.mpr ⟨os_19, List.forall_mem_cons.mpr ⟨os_20, List.forall_mem_cons.mpr ⟨os_21, List.forall_mem_cons.mpr ⟨os_22, List.forall_mem_cons.mpr ⟨os_23, List.forall_mem_cons.mpr ⟨os_24, List.forall_mem_cons.mpr ⟨os_25, List.forall_mem_cons.mpr ⟨os_26, List.forall_mem_cons.mpr ⟨os_27, List.forall_mem_cons.mpr ⟨os_8, List.forall_mem_cons.mpr ⟨os_9, List.forall_mem_cons.mpr ⟨os_10, List.forall_mem_cons.mpr ⟨os_11, List.forall_mem_cons.mpr ⟨os_12, List.forall_mem_cons.mpr ⟨os_13, List.forall_mem_cons.mpr ⟨os_14, List.forall_mem_cons.mpr ⟨os_15, List.forall_mem_cons.mpr ⟨os_16, fun _ h => absurd h List.not_mem_nil⟩⟩⟩⟩⟩⟩⟩⟩⟩⟩⟩⟩⟩⟩⟩⟩⟩⟩⟩⟩⟩⟩⟩⟩⟩⟩⟩⟩⟩⟩⟩⟩⟩⟩⟩⟩
theorem nlk_ok : ∀ q ∈ nlk, Cond.methodLinkNest q.1 q.2.1 q.2.2.1 q.2.2.2 ∈ lw_tbl := List.forall_mem_cons.mpr ⟨tbl_of 56 (by decide +kernel), List.forall_mem_cons.mpr ⟨tbl_of 87 (by decide +kernel), List.forall_mem_cons.mpr ⟨tbl_of 93 (by decide +kernel), List.forall_mem_cons.mpr ⟨tbl_of 188 (by decide +kernel), List.forall_mem_cons.mpr ⟨tbl_of 284 (by decide +kernel), List.forall_mem_cons.mpr ⟨tbl_of 298 (by decide +kernel), List.forall_mem_cons.mpr ⟨tbl_of 304 (by decide +kernel), List.forall_mem_cons.mpr ⟨tbl_of 350 (by decide +kernel), List.forall_mem_cons.mpr ⟨tbl_of 361 (by decide +kernel), List.forall_mem_cons.mpr ⟨tbl_of 363 (by decide +kernel), fun _ h => absurd h List.not_mem_nil⟩⟩⟩⟩⟩⟩⟩⟩⟩⟩
theorem casts_ok : ∀ q ∈ casts, Cond.castable q.1 q.2 ∈ lw_tbl := List.forall_mem_cons.mpr ⟨tbl_of 473 (by decide +kernel), List.forall_mem_cons.mpr ⟨tbl_of 617 (by decide +kernel), List.forall_mem_cons.mpr ⟨tbl_of 1011 (by decide +kernel), List.forall_mem_cons.mpr ⟨tbl_of 1169 (by decide +kernel), fun _ h => absurd h List.not_mem_nil⟩⟩⟩⟩
theorem ncasts_ok : ∀ q ∈ ncasts, (Cond.castable q.1 q.2).not ∈ FL := List.forall_mem_cons.mpr ⟨fl_of 230 (by decide +kernel), List.forall_mem_cons.mpr ⟨fl_of 231 (by decide +kernel), fun _ h => absurd h List.not_mem_nil⟩⟩
theorem flk_ok : ∀ q ∈ flk, Cond.fieldLinkNest q.1 q.2.1 q.2.2.1 q.2.2.2.1 q.2.2.2.2.1 q.2.2.2.2.2 ∈ lw_tbl := List.forall_mem_cons.mpr ⟨tbl_of 757 (by decide +kernel), List.forall_mem_cons.mpr ⟨tbl_of 761 (by decide +kernel), List.forall_mem_cons.mpr ⟨tbl_of 764 (by decide +kernel), List.forall_mem_cons.mpr ⟨tbl_of 767 (by decide +kernel), List.forall_mem_cons.mpr ⟨tbl_of 770 (by decide +kernel), List.forall_mem_cons.mpr ⟨tbl_of 772 (by decide +kernel), List.forall_mem_cons.mpr ⟨tbl_of 774 (by decide +kernel), List.forall_mem_cons.mpr ⟨tbl_of 776 (by decide +kernel), List.forall_mem_cons.mpr ⟨tbl_of 778 (by decide +kernel), List.forall_mem_cons.mpr ⟨tbl_of 780 (by decide +kernel), List.forall_mem_cons.mpr ⟨tbl_of 782 (by decide +kernel), List.forall_mem_cons.mpr ⟨tbl_of 784 (by decide +kernel), fun _ h => absurd h List.not_mem_nil⟩⟩⟩⟩⟩⟩⟩⟩⟩⟩⟩⟩
theorem sel_up {C : String} {y z : MethodName} {n : Nat} {s : State} {args : Array Value} (hzy : z.cls = y.cls) (hy : y.cls ≠ "java/lang/invoke/MethodHandle" ∧ y.cls ≠ "java/lang/invoke/VarHandle") (hins : (Cond.instantiable C n).before args s = true) (hpriv : (Cond.privateMethod y).before args s = true) (hinst : (Cond.instanceMethod y).before args s = true) (hz : (Cond.selects C z z).before args s = true) : (Cond.selects C y y).before args s = true := by
  obtain ⟨c, k, hc, hk, -, hniab, -, -⟩ := Cond.instantiable_spec hins
  obtain ⟨c2, r2, m2, q1, q2, q3, q4, kP, hkP, hkPi⟩ := Cond.selects_spec hz
  obtain ⟨mk, methM, hnamed, hmethM, -, -⟩ := Cond.instanceMethod_spec hinst
  have hfound : s.methodFound? y.cls y.name y.desc = some mk := State.methodFound?_of_named hnamed hy
  have hsel : selectMethod {} s.vm c mk = .method mk := selectMethod_private hmethM (Cond.privateMethod_at hpriv mk methM hnamed hmethM)
  have h1 := findClass_of_methodNamed hnamed
  have h2 := findClass_of_methodNamed q3
  rw [hzy] at h2
  have e : mk.cls = m2.cls := Option.some.inj (h1.symm.trans h2)
  have hk2 : s.vm.classes[mk.cls]? = some kP := by rw [e]; exact hkP
  simp only [Cond.before, Cond.holds, Cond.value, hc, hfound, hnamed, hsel, hk2]
  simp
  exact hkPi
theorem tb2_ok {s : State} {args : Array Value} (hts : ∀ w ∈ lw_tbl, w.before args s = true) : ∀ w ∈ lw_tb2, w.before args s = true := by
  intro w hw
  rcases List.mem_append.mp hw with hw | hw
  · exact hts w hw
  · have hi : (Cond.instantiable "java/lang/StringBuilder" 4).before args s = true := hts _ (tbl_of 405 (by decide +kernel))
    have hz : (Cond.selects "java/lang/StringBuilder" ⟨"java/lang/AbstractStringBuilder", "isLatin1", "()Z"⟩ ⟨"java/lang/AbstractStringBuilder", "isLatin1", "()Z"⟩).before args s = true := hts _ (tbl_of 484 (by decide +kernel))
    rcases List.mem_cons.mp hw with rfl | hw
    · exact sel_up (y := ⟨"java/lang/AbstractStringBuilder", "ensureCapacityInternal", "(I)V"⟩) (z := ⟨"java/lang/AbstractStringBuilder", "isLatin1", "()Z"⟩) rfl ⟨by decide, by decide⟩ hi (hts _ (tbl_of 447 (by decide +kernel))) (hts _ (tbl_of 448 (by decide +kernel))) hz
    rcases List.mem_cons.mp hw with rfl | hw
    · exact sel_up (y := ⟨"java/lang/AbstractStringBuilder", "newCapacity", "(I)I"⟩) (z := ⟨"java/lang/AbstractStringBuilder", "isLatin1", "()Z"⟩) rfl ⟨by decide, by decide⟩ hi (hts _ (tbl_of 451 (by decide +kernel))) (hts _ (tbl_of 452 (by decide +kernel))) hz
    rcases List.mem_cons.mp hw with rfl | hw
    · exact sel_up (y := ⟨"java/lang/AbstractStringBuilder", "putStringAt", "(ILjava/lang/String;)V"⟩) (z := ⟨"java/lang/AbstractStringBuilder", "isLatin1", "()Z"⟩) rfl ⟨by decide, by decide⟩ hi (hts _ (tbl_of 522 (by decide +kernel))) (hts _ (tbl_of 523 (by decide +kernel))) hz
    rcases List.mem_cons.mp hw with rfl | hw
    · exact sel_up (y := ⟨"java/lang/AbstractStringBuilder", "inflateIfNeededFor", "(Ljava/lang/String;)V"⟩) (z := ⟨"java/lang/AbstractStringBuilder", "isLatin1", "()Z"⟩) rfl ⟨by decide, by decide⟩ hi (hts _ (tbl_of 526 (by decide +kernel))) (hts _ (tbl_of 527 (by decide +kernel))) hz
    · cases hw
theorem in_X11 : Cond.instantiable RX11 17 ∈ TW := TW_of 391 (by decide +kernel) (by decide +kernel)
theorem iz_X11 : Cond.initialized RX11 ∈ TW := TW_of 25 (by decide +kernel) (by decide +kernel)
theorem in_X12 : Cond.instantiable RX12 1 ∈ TW := TW_of 821 (by decide +kernel) (by decide +kernel)
theorem iz_X12 : Cond.initialized RX12 ∈ TW := TW_of 15 (by decide +kernel) (by decide +kernel)
/-- classes, arrays, links -/
theorem start_KG {s : State} {args : Array Value} (hts : ∀ w ∈ lw_tbl, w.before args s = true) : ∃ (D : va_G) (dA : Nat → ClassId), KG D dA s := by
  have hTW : ∀ w ∈ TW, w.before args s = true := fun w hw => tb2_ok hts w (List.mem_filter.mp hw).1
  obtain ⟨c0, i0, h0⟩ := u_known (C := RX0) (T := TX0) (N := 5) (n := 5) hTW wsX0_in (hTW _ in_X0)
  obtain ⟨c1, i1, h1⟩ := u_known (C := RX1) (T := TX1) (N := 16) (n := 16) hTW wsX1_in (hTW _ in_X1)
  obtain ⟨c2, i2, h2⟩ := u_known (C := RX2) (T := TX2) (N := 2) (n := 2) hTW wsX2_in (hTW _ in_X2)
  obtain ⟨c3, i3, h3⟩ := u_known (C := RX3) (T := TX3) (N := 3) (n := 3) hTW wsX3_in (hTW _ in_X3)
  obtain ⟨c4, i4, h4⟩ := u_known (C := RX4) (T := TX4) (N := 19) (n := 19) hTW wsX4_in (hTW _ in_X4)
  obtain ⟨c5, i5, h5⟩ := u_known (C := RX5) (T := TX5) (N := 4) (n := 4) hTW wsX5_in (hTW _ in_X5)
  obtain ⟨c6, i6, h6⟩ := u_known (C := RX6) (T := TX6) (N := 7) (n := 7) hTW wsX6_in (hTW _ in_X6)
  obtain ⟨c7, i7, h7⟩ := u_known (C := RX9) (T := TX9) (N := 7) (n := 7) hTW wsX9_in (hTW _ in_X9)
  obtain ⟨c8, i8, h8⟩ := u_known (C := RX10) (T := TX10) (N := 7) (n := 7) hTW wsX10_in (hTW _ in_X10)
  obtain ⟨c9, i9, h9⟩ := u_known (C := RX11) (T := TX11) (N := 17) (n := 17) hTW wsX11_in (hTW _ in_X11)
  obtain ⟨c10, i10, h10⟩ := u_known (C := RX12) (T := TX12) (N := 1) (n := 1) hTW wsX12_in (hTW _ in_X12)
  obtain ⟨c11, i11, h11⟩ := u_known (C := RJ4) (T := TJ4) (N := 4) (n := 4) hTW wsJ4_in (hTW _ in_J4)
  obtain ⟨c12, i12, h12⟩ := u_known (C := RJ0) (T := TJ0) (N := 4) (n := 4) hTW wsJ0_in (hTW _ in_J0)
  have hc : ∀ (k : Nat) (q : vw_C), vwCl[k]? = some q → u_Kn s q.1 q.2.1 q.2.2 ([c0, c1, c2, c3, c4, c5, c6, c7, c8, c9, c10, c11, c12].getD k 0) ([i0, i1, i2, i3, i4, i5, i6, i7, i8, i9, i10, i11, i12].getD k (fun _ => 0)) := by
    intro k q hq
    match k, hq with
    | 0, hq => cases hq; exact h0
    | 1, hq => cases hq; exact h1
    | 2, hq => cases hq; exact h2
    | 3, hq => cases hq; exact h3
    | 4, hq => cases hq; exact h4
    | 5, hq => cases hq; exact h5
    | 6, hq => cases hq; exact h6
    | 7, hq => cases hq; exact h7
    | 8, hq => cases hq; exact h8
    | 9, hq => cases hq; exact h9
    | 10, hq => cases hq; exact h10
    | 11, hq => cases hq; exact h11
    | 12, hq => cases hq; exact h12
    | k + 13, hq => simp [vwCl] at hq
  have ac : ∀ (ty : FieldType), (∀ C, ty ≠ .object C) → Cond.arrayClass ty ∈ TW → ∃ cA, ArrOfT s cA ty ∧ va_RA s cA ty := by
    intro ty hno hw
    obtain ⟨c, k, comp, e1, e2, e3⟩ := Cond.arrayClass_spec (hTW _ hw)
    refine ⟨c, fun n z => ?_, ?_⟩
    · exact ⟨fun _ h => (by cases h), k, e2, comp, e3⟩
    · cases ty with
      | object C => exact absurd rfl (hno C)
      | _ => exact e1
  obtain ⟨a0, b0⟩ := ac .byte (fun C h => by cases h) ac_byte
  obtain ⟨a1, b1⟩ := ac .int (fun C h => by cases h) ac_int
  obtain ⟨a2, b2⟩ := ac .boolean (fun C h => by cases h) ac_boolean
  have ho : (Cond.arrayOver (.object RX0)).before args s = true := hts _ (tbl_of 283 (by decide +kernel))
  obtain ⟨comp, c, k, e1, e0, e2, e3, e4⟩ := Cond.arrayOver_spec ho
  have ho4 : (Cond.arrayOver (.array .int)).before args s = true := hts _ (tbl_of 397 (by decide +kernel))
  obtain ⟨comp4, a4, k4, f1, f0, f2, f3, f4⟩ := arrayOverA_spec ho4
  refine ⟨(fun k => [c0, c1, c2, c3, c4, c5, c6, c7, c8, c9, c10, c11, c12].getD k 0, fun k => [i0, i1, i2, i3, i4, i5, i6, i7, i8, i9, i10, i11, i12].getD k (fun _ => 0)), fun k => [a0, a1, a2, c, a4].getD k 0, ⟨⟨hc, ?_⟩, ?_, fun q hq => va_Nw.of rfl (hts _ (nlk_ok q hq))⟩⟩
  · intro k q hq
    match k, hq with
    | 0, hq => cases hq; exact b0
    | 1, hq => cases hq; exact b1
    | 2, hq => cases hq; exact b2
    | 3, hq => cases hq; exact ⟨fun n z => ⟨fun _ h => (by cases h), _, e2, comp, e3⟩, ⟨_, comp, e2, e3, e1, e4⟩⟩
    | 4, hq => cases hq; exact ⟨fun n z => ⟨fun _ h => (by cases h), k4, f2, comp4, f3⟩, f4⟩
    | k + 5, hq => simp [tyG] at hq
  · exact ho
