/-! the law's entry: what the start gives -/
def FL : List Cond := flatC (Jvm.Cond.and given_1 narrow_1)
def strW (C : String) (k : Nat) (bs : List Int32) : List Cond := [.exactly (.string C k) "java/lang/String", .eq (.field (.string C k) "java/lang/String" "coder" "B") (.int 0), .arrayOf (.field (.string C k) "java/lang/String" "value" "[B") .byte, .eq (.length (.field (.string C k) "java/lang/String" "value" "[B")) (.int (Int32.ofNat bs.length))] ++ (List.range bs.length).map (fun j => .eq (.elem (.field (.string C k) "java/lang/String" "value" "[B") (.int (Int32.ofNat j))) (.int (bs.getD j 0)))
theorem sub_of {l w : List Cond} (o : Nat) (h : (l.drop o).take w.length = w) : ∀ c ∈ w, c ∈ l := fun c hc => List.mem_of_mem_drop (List.mem_of_mem_take (by rw [h]; exact hc))
/-- a text among those that the start names -/
def okStr (i : Nat) (q : String × Nat × String × Nat) : Prop := strs[i]? = some q ∧ (∀ w ∈ strW q.1 q.2.1 (tx.getD i []), w ∈ FL) ∧ Cond.stringRef q.1 q.2.1 q.2.2.1 ∈ lw_tbl
theorem tbl_of {w : Cond} (i : Nat) (h : lw_tbl[i]? = some w) : w ∈ lw_tbl := List.mem_of_getElem? h
theorem fl_of {w : Cond} (i : Nat) (h : FL[i]? = some w) : w ∈ FL := List.mem_of_getElem? h
/-- what a text's words give -/
theorem str_ok {C : String} {k : Nat} {bs : List Int32} {args : Array Value} {s : State} {A : Nat → Prop} (hw : ∀ w ∈ strW C k bs, w.before args s = true) (hn : bs.length < 2 ^ 31) (hA : ∀ a, a < s.heap.size → ¬ A a) :
    ∃ a v, Term.eval args s none [] s (.string C k) = some (.ref a) ∧ va_O "java/lang/String" a A s s.heap ∧ va_OF "java/lang/String" "coder" "B" (.int 0) a A s s.heap ∧ va_OF "java/lang/String" "value" "[B" (.ref v) a A s s.heap ∧ va_T .byte v bs.length (fun j => .int (bs.getD j 0)) A s s.heap := by
  have h1 := hw (.exactly (.string C k) "java/lang/String") (List.mem_append_left _ (List.mem_of_getElem? (i := 0) rfl))
  have h2 := hw (.eq (.field (.string C k) "java/lang/String" "coder" "B") (.int 0)) (List.mem_append_left _ (List.mem_of_getElem? (i := 1) rfl))
  have h3 := hw (.arrayOf (.field (.string C k) "java/lang/String" "value" "[B") .byte) (List.mem_append_left _ (List.mem_of_getElem? (i := 2) rfl))
  have h4 := hw (.eq (.length (.field (.string C k) "java/lang/String" "value" "[B")) (.int (Int32.ofNat bs.length))) (List.mem_append_left _ (List.mem_of_getElem? (i := 3) rfl))
  obtain ⟨a, c, cell, kk, ha, -⟩ := Cond.exactly_spec h1
  obtain ⟨y2, e2, f2⟩ := Cond.eq_one h2
  cases Option.some.inj f2
  obtain ⟨y4, e4, f4⟩ := Cond.eq_one h4
  cases Option.some.inj f4
  obtain ⟨v, hv, hT⟩ := va_Tof (tm := .field (.string C k) "java/lang/String" "value" "[B") (ty := .byte) (N := bs.length) (f := fun j => .int (bs.getD j 0)) (A := A) hn h3 e4 (fun j hj => by
    have h5 := hw (.eq (.elem (.field (.string C k) "java/lang/String" "value" "[B") (.int (Int32.ofNat j))) (.int (bs.getD j 0))) (List.mem_append_right _ (List.mem_map.mpr ⟨j, List.mem_range.mpr hj, rfl⟩))
    obtain ⟨y5, e5, f5⟩ := Cond.eq_one h5
    cases Option.some.inj f5
    exact e5) hA
  exact ⟨a, v, ha, va_Oof h1 ha hA, vk_OFof ha e2 hA, vk_OFof ha hv hA, hT⟩
theorem os_0 : okStr 0 ("TranscriptCutter$FormattedText", 34, " / ", 0) := ⟨rfl, sub_of 47 (by decide +kernel), tbl_of 774 (by decide +kernel)⟩
theorem os_1 : okStr 1 ("TranscriptCutter$FormattedText", 36, " ", 1) := ⟨rfl, sub_of 54 (by decide +kernel), tbl_of 775 (by decide +kernel)⟩
theorem os_2 : okStr 2 ("TranscriptCutter$TextGrammar", 43, "length", 2) := ⟨rfl, sub_of 59 (by decide +kernel), tbl_of 871 (by decide +kernel)⟩
theorem os_3 : okStr 3 ("TranscriptCutter$TextGrammar", 52, "speaker", 3) := ⟨rfl, sub_of 69 (by decide +kernel), tbl_of 891 (by decide +kernel)⟩
theorem os_4 : okStr 4 ("TranscriptCutter$TextGrammar", 57, "word", 4) := ⟨rfl, sub_of 80 (by decide +kernel), tbl_of 908 (by decide +kernel)⟩
theorem os_5 : okStr 5 ("TranscriptCutter$TextGrammar", 62, "breath", 5) := ⟨rfl, sub_of 88 (by decide +kernel), tbl_of 925 (by decide +kernel)⟩
theorem os_6 : okStr 6 ("TranscriptCutter$TextGrammar", 67, "handle", 6) := ⟨rfl, sub_of 98 (by decide +kernel), tbl_of 933 (by decide +kernel)⟩
theorem os_7 : okStr 7 ("TranscriptCutter", 74, "the text does not match", 7) := ⟨rfl, sub_of 108 (by decide +kernel), tbl_of 998 (by decide +kernel)⟩
theorem os_8 : okStr 8 ("TranscriptCutter$ScriptGrammar", 65, "cut", 8) := ⟨rfl, sub_of 135 (by decide +kernel), tbl_of 1054 (by decide +kernel)⟩
theorem os_9 : okStr 9 ("TranscriptCutter$ScriptGrammar", 71, "clean", 9) := ⟨rfl, sub_of 142 (by decide +kernel), tbl_of 1056 (by decide +kernel)⟩
theorem os_10 : okStr 10 ("TranscriptCutter$ScriptGrammar", 73, "restore", 10) := ⟨rfl, sub_of 151 (by decide +kernel), tbl_of 1057 (by decide +kernel)⟩
theorem os_11 : okStr 11 ("TranscriptCutter$ScriptGrammar", 75, "move", 11) := ⟨rfl, sub_of 162 (by decide +kernel), tbl_of 1058 (by decide +kernel)⟩
theorem os_12 : okStr 12 ("TranscriptCutter$ScriptGrammar", 77, "if", 12) := ⟨rfl, sub_of 170 (by decide +kernel), tbl_of 1059 (by decide +kernel)⟩
theorem os_13 : okStr 13 ("TranscriptCutter$ScriptGrammar", 79, "repeat", 13) := ⟨rfl, sub_of 176 (by decide +kernel), tbl_of 1060 (by decide +kernel)⟩
theorem os_14 : okStr 14 ("TranscriptCutter$ScriptGrammar", 102, "else", 14) := ⟨rfl, sub_of 186 (by decide +kernel), tbl_of 1078 (by decide +kernel)⟩
theorem os_15 : okStr 15 ("TranscriptCutter$ScriptGrammar", 84, "behind", 15) := ⟨rfl, sub_of 194 (by decide +kernel), tbl_of 1082 (by decide +kernel)⟩
theorem os_16 : okStr 16 ("TranscriptCutter", 97, "the script does not match", 16) := ⟨rfl, sub_of 204 (by decide +kernel), tbl_of 1083 (by decide +kernel)⟩
theorem os_17 : okStr 17 ("TranscriptCutter", 354, "no such word", 17) := ⟨rfl, sub_of 233 (by decide +kernel), tbl_of 1109 (by decide +kernel)⟩
theorem os_18 : okStr 18 ("TranscriptCutter", 357, "no such block", 18) := ⟨rfl, sub_of 249 (by decide +kernel), tbl_of 1154 (by decide +kernel)⟩
theorem os_19 : okStr 19 ("TranscriptCutter", 361, "no such shot", 19) := ⟨rfl, sub_of 266 (by decide +kernel), tbl_of 1178 (by decide +kernel)⟩
theorem os_20 : okStr 20 ("TranscriptCutter", 359, "no such speaker", 20) := ⟨rfl, sub_of 282 (by decide +kernel), tbl_of 1197 (by decide +kernel)⟩
theorem os_21 : okStr 21 ("TranscriptCutter", 363, "no such places", 21) := ⟨rfl, sub_of 301 (by decide +kernel), tbl_of 1256 (by decide +kernel)⟩
theorem os_22 : okStr 22 ("TranscriptCutter", 297, "the word is not kept", 22) := ⟨rfl, sub_of 319 (by decide +kernel), tbl_of 1301 (by decide +kernel)⟩
theorem os_23 : okStr 23 ("TranscriptCutter", 300, "the last word is before the first one", 23) := ⟨rfl, sub_of 343 (by decide +kernel), tbl_of 1315 (by decide +kernel)⟩
theorem os_24 : okStr 24 ("TranscriptCutter", 305, "the last shot is before the first one", 24) := ⟨rfl, sub_of 384 (by decide +kernel), tbl_of 1324 (by decide +kernel)⟩
theorem os_25 : okStr 25 ("TranscriptCutter", 307, "there is no such shot to move behind", 25) := ⟨rfl, sub_of 425 (by decide +kernel), tbl_of 1325 (by decide +kernel)⟩
theorem os_26 : okStr 26 ("TranscriptCutter", 309, "the shot to move behind is moved itself", 26) := ⟨rfl, sub_of 465 (by decide +kernel), tbl_of 1326 (by decide +kernel)⟩
theorem os_27 : okStr 27 ("TranscriptCutter", 315, "a head or tail is 0 to 999", 27) := ⟨rfl, sub_of 508 (by decide +kernel), tbl_of 1335 (by decide +kernel)⟩
theorem os_28 : okStr 28 ("TranscriptCutter$FormattedText", 58, "s", 28) := ⟨rfl, sub_of 538 (by decide +kernel), tbl_of 1348 (by decide +kernel)⟩
theorem os_29 : okStr 29 ("TranscriptCutter$FormattedText", 66, "-", 29) := ⟨rfl, sub_of 543 (by decide +kernel), tbl_of 1354 (by decide +kernel)⟩
theorem os_30 : okStr 30 ("TranscriptCutter$FormattedText", 87, ":", 30) := ⟨rfl, sub_of 548 (by decide +kernel), tbl_of 1355 (by decide +kernel)⟩
theorem os_31 : okStr 31 ("TranscriptCutter$FormattedText", 89, ":[", 31) := ⟨rfl, sub_of 553 (by decide +kernel), tbl_of 1356 (by decide +kernel)⟩
theorem os_32 : okStr 32 ("TranscriptCutter$FormattedText", 91, "", 32) := ⟨rfl, sub_of 559 (by decide +kernel), tbl_of 1357 (by decide +kernel)⟩
theorem os_33 : okStr 33 ("TranscriptCutter$FormattedText", 93, "]", 33) := ⟨rfl, sub_of 563 (by decide +kernel), tbl_of 1358 (by decide +kernel)⟩
theorem os_34 : okStr 34 ("TranscriptCutterModel", 195, "length", 34) := ⟨rfl, sub_of 568 (by decide +kernel), tbl_of 1573 (by decide +kernel)⟩
theorem os_35 : okStr 35 ("TranscriptCutterModel", 199, "speaker", 35) := ⟨rfl, sub_of 579 (by decide +kernel), tbl_of 1600 (by decide +kernel)⟩
theorem os_36 : okStr 36 ("TranscriptCutterModel", 204, "word", 36) := ⟨rfl, sub_of 591 (by decide +kernel), tbl_of 1617 (by decide +kernel)⟩
theorem os_37 : okStr 37 ("TranscriptCutterModel", 209, "breath", 37) := ⟨rfl, sub_of 600 (by decide +kernel), tbl_of 1635 (by decide +kernel)⟩
theorem os_38 : okStr 38 ("TranscriptCutterModel", 214, "handle", 38) := ⟨rfl, sub_of 611 (by decide +kernel), tbl_of 1640 (by decide +kernel)⟩
theorem os_39 : okStr 39 ("TranscriptCutterModel", 238, "cut", 39) := ⟨rfl, sub_of 622 (by decide +kernel), tbl_of 1669 (by decide +kernel)⟩
theorem os_40 : okStr 40 ("TranscriptCutterModel", 240, "clean", 40) := ⟨rfl, sub_of 630 (by decide +kernel), tbl_of 1670 (by decide +kernel)⟩
theorem os_41 : okStr 41 ("TranscriptCutterModel", 242, "restore", 41) := ⟨rfl, sub_of 640 (by decide +kernel), tbl_of 1671 (by decide +kernel)⟩
theorem os_42 : okStr 42 ("TranscriptCutterModel", 244, "move", 42) := ⟨rfl, sub_of 652 (by decide +kernel), tbl_of 1672 (by decide +kernel)⟩
theorem os_43 : okStr 43 ("TranscriptCutterModel", 246, "if", 43) := ⟨rfl, sub_of 661 (by decide +kernel), tbl_of 1673 (by decide +kernel)⟩
theorem os_44 : okStr 44 ("TranscriptCutterModel", 248, "repeat", 44) := ⟨rfl, sub_of 668 (by decide +kernel), tbl_of 1674 (by decide +kernel)⟩
theorem os_45 : okStr 45 ("TranscriptCutterModel", 262, "else", 45) := ⟨rfl, sub_of 679 (by decide +kernel), tbl_of 1687 (by decide +kernel)⟩
theorem os_46 : okStr 46 ("TranscriptCutterModel", 264, "behind", 46) := ⟨rfl, sub_of 688 (by decide +kernel), tbl_of 1688 (by decide +kernel)⟩
theorem os_all : ∀ i, i < 47 → ∃ q, okStr i q := (ball_s (ball_s (ball_s (ball_s (ball_s (ball_s (ball_s (ball_s (ball_s (ball_s (ball_s (ball_s (ball_s (ball_s (ball_s (ball_s (ball_s (ball_s (ball_s (ball_s (ball_s (ball_s (ball_s (ball_s (ball_s (ball_s (ball_s (ball_s (ball_s (ball_s (ball_s (ball_s (ball_s (ball_s (ball_s (ball_s (ball_s (ball_s (ball_s (ball_s (ball_s (ball_s (ball_s (ball_s (ball_s (ball_s (ball_s (fun k hk => absurd hk (Nat.not_lt_zero k)) ⟨_, os_0⟩) ⟨_, os_1⟩) ⟨_, os_2⟩) ⟨_, os_3⟩) ⟨_, os_4⟩) ⟨_, os_5⟩) ⟨_, os_6⟩) ⟨_, os_7⟩) ⟨_, os_8⟩) ⟨_, os_9⟩) ⟨_, os_10⟩) ⟨_, os_11⟩) ⟨_, os_12⟩) ⟨_, os_13⟩) ⟨_, os_14⟩) ⟨_, os_15⟩) ⟨_, os_16⟩) ⟨_, os_17⟩) ⟨_, os_18⟩) ⟨_, os_19⟩) ⟨_, os_20⟩) ⟨_, os_21⟩) ⟨_, os_22⟩) ⟨_, os_23⟩) ⟨_, os_24⟩) ⟨_, os_25⟩) ⟨_, os_26⟩) ⟨_, os_27⟩) ⟨_, os_28⟩) ⟨_, os_29⟩) ⟨_, os_30⟩) ⟨_, os_31⟩) ⟨_, os_32⟩) ⟨_, os_33⟩) ⟨_, os_34⟩) ⟨_, os_35⟩) ⟨_, os_36⟩) ⟨_, os_37⟩) ⟨_, os_38⟩) ⟨_, os_39⟩) ⟨_, os_40⟩) ⟨_, os_41⟩) ⟨_, os_42⟩) ⟨_, os_43⟩) ⟨_, os_44⟩) ⟨_, os_45⟩) ⟨_, os_46⟩)
theorem nlk_ok : ∀ q ∈ nlk, Cond.methodLinkNest q.1 q.2.1 q.2.2.1 q.2.2.2 ∈ lw_tbl := List.forall_mem_cons.mpr ⟨tbl_of 137 (by decide +kernel), List.forall_mem_cons.mpr ⟨tbl_of 169 (by decide +kernel), List.forall_mem_cons.mpr ⟨tbl_of 398 (by decide +kernel), List.forall_mem_cons.mpr ⟨tbl_of 462 (by decide +kernel), List.forall_mem_cons.mpr ⟨tbl_of 476 (by decide +kernel), List.forall_mem_cons.mpr ⟨tbl_of 478 (by decide +kernel), List.forall_mem_cons.mpr ⟨tbl_of 175 (by decide +kernel), List.forall_mem_cons.mpr ⟨tbl_of 275 (by decide +kernel), List.forall_mem_cons.mpr ⟨tbl_of 384 (by decide +kernel), List.forall_mem_cons.mpr ⟨tbl_of 404 (by decide +kernel), fun _ h => absurd h List.not_mem_nil⟩⟩⟩⟩⟩⟩⟩⟩⟩⟩
theorem casts_ok : ∀ q ∈ casts, Cond.castable q.1 q.2 ∈ lw_tbl := List.forall_mem_cons.mpr ⟨tbl_of 959 (by decide +kernel), List.forall_mem_cons.mpr ⟨tbl_of 1102 (by decide +kernel), List.forall_mem_cons.mpr ⟨tbl_of 1294 (by decide +kernel), fun _ h => absurd h List.not_mem_nil⟩⟩⟩
theorem ncasts_ok : ∀ q ∈ ncasts, (Cond.castable q.1 q.2).not ∈ FL := List.forall_mem_cons.mpr ⟨fl_of 33 (by decide +kernel), List.forall_mem_cons.mpr ⟨fl_of 34 (by decide +kernel), fun _ h => absurd h List.not_mem_nil⟩⟩
/-- classes, arrays, links -/
theorem start_KG {s : State} {args : Array Value} (hts : ∀ w ∈ lw_tbl, w.before args s = true) : ∃ (D : va_G) (dA : Nat → ClassId), KG D dA s := by
  have hTW : ∀ w ∈ TW, w.before args s = true := fun w hw => hts w (List.mem_filter.mp hw).1
  obtain ⟨c0, i0, h0⟩ := u_known (C := RX0) (T := TX0) (N := 5) (n := 5) hTW wsX0_in (hTW _ in_X0)
  obtain ⟨c1, i1, h1⟩ := u_known (C := RX1) (T := TX1) (N := 16) (n := 16) hTW wsX1_in (hTW _ in_X1)
  obtain ⟨c2, i2, h2⟩ := u_known (C := RX2) (T := TX2) (N := 2) (n := 2) hTW wsX2_in (hTW _ in_X2)
  obtain ⟨c3, i3, h3⟩ := u_known (C := RX3) (T := TX3) (N := 3) (n := 3) hTW wsX3_in (hTW _ in_X3)
  obtain ⟨c4, i4, h4⟩ := u_known (C := RX4) (T := TX4) (N := 19) (n := 19) hTW wsX4_in (hTW _ in_X4)
  obtain ⟨c5, i5, h5⟩ := u_known (C := RX5) (T := TX5) (N := 4) (n := 4) hTW wsX5_in (hTW _ in_X5)
  obtain ⟨c6, i6, h6⟩ := u_known (C := RX6) (T := TX6) (N := 7) (n := 7) hTW wsX6_in (hTW _ in_X6)
  obtain ⟨c7, i7, h7⟩ := u_known (C := RX9) (T := TX9) (N := 7) (n := 7) hTW wsX9_in (hTW _ in_X9)
  obtain ⟨c8, i8, h8⟩ := u_known (C := RX10) (T := TX10) (N := 7) (n := 7) hTW wsX10_in (hTW _ in_X10)
  obtain ⟨c9, i9, h9⟩ := u_known (C := RX11) (T := TX11) (N := 43) (n := 43) hTW wsX11_in (hTW _ in_X11)
  have hc : ∀ (k : Nat) (q : vw_C), vwCl[k]? = some q → u_Kn s q.1 q.2.1 q.2.2 ([c0, c1, c2, c3, c4, c5, c6, c7, c8, c9].getD k 0) ([i0, i1, i2, i3, i4, i5, i6, i7, i8, i9].getD k (fun _ => 0)) := by
    intro k q hq
    match k, hq with
    | 0, hq => cases hq; exact h0
    | 1, hq => cases hq; exact h1
    | 2, hq => cases hq; exact h2
    | 3, hq => cases hq; exact h3
    | 4, hq => cases hq; exact h4
    | 5, hq => cases hq; exact h5
    | 6, hq => cases hq; exact h6
    | 7, hq => cases hq; exact h7
    | 8, hq => cases hq; exact h8
    | 9, hq => cases hq; exact h9
    | k + 10, hq => simp [vwCl] at hq
  have ac : ∀ (ty : FieldType), (∀ C, ty ≠ .object C) → Cond.arrayClass ty ∈ TW → ∃ cA, ArrOfT s cA ty ∧ va_RA s cA ty := by
    intro ty hno hw
    obtain ⟨c, k, comp, e1, e2, e3⟩ := Cond.arrayClass_spec (hTW _ hw)
    refine ⟨c, fun n z => ?_, ?_⟩
    · exact ⟨fun _ h => (by cases h), k, e2, comp, e3⟩
    · cases ty with
      | object C => exact absurd rfl (hno C)
      | _ => exact e1
  obtain ⟨a0, b0⟩ := ac .byte (fun C h => by cases h) ac_byte
  obtain ⟨a1, b1⟩ := ac .int (fun C h => by cases h) ac_int
  obtain ⟨a2, b2⟩ := ac .boolean (fun C h => by cases h) ac_boolean
  obtain ⟨a4, b4⟩ := ac .long (fun C h => by cases h) ac_long
  have ho : (Cond.arrayOver (.object RX0)).before args s = true := hts _ (tbl_of 383 (by decide +kernel))
  obtain ⟨comp, c, k, e1, e0, e2, e3, e4⟩ := Cond.arrayOver_spec ho
  refine ⟨(fun k => [c0, c1, c2, c3, c4, c5, c6, c7, c8, c9].getD k 0, fun k => [i0, i1, i2, i3, i4, i5, i6, i7, i8, i9].getD k (fun _ => 0)), fun k => [a0, a1, a2, c, a4].getD k 0, ⟨⟨hc, ?_⟩, ?_, fun q hq => va_Nw.of rfl (hts _ (nlk_ok q hq))⟩⟩
  · intro k q hq
    match k, hq with
    | 0, hq => cases hq; exact b0
    | 1, hq => cases hq; exact b1
    | 2, hq => cases hq; exact b2
    | 3, hq => cases hq; exact ⟨fun n z => ⟨fun _ h => (by cases h), _, e2, comp, e3⟩, ⟨_, comp, e2, e3, e1, e4⟩⟩
    | 4, hq => cases hq; exact b4
    | k + 5, hq => simp [tyG] at hq
  · exact ho
theorem tl_lt : ∀ i, i < 47 → (tx.getD i []).length < 2 ^ 31 := by decide +kernel
theorem strs_n0 : ∀ q ∈ strs, q.2.2.2 < 47 ∧ strs[q.2.2.2]? = some q := by decide +kernel
theorem strs_n (q : String × Nat × String × Nat) (hq : q ∈ strs) : q.2.2.2 < 47 ∧ strs[q.2.2.2]? = some q := strs_n0 q hq
/-- texts, statics, casts -/
theorem start_SX {s : State} {args : Array Value} (hts : ∀ w ∈ lw_tbl, w.before args s = true) (hgv : (Jvm.Cond.and given_1 narrow_1).before args s = true) (D : va_G) (dA : Nat → ClassId) : ∃ sa : Nat → Nat, sa 1000 = 0 ∧ SX ((fun _ => 0), D, dA, s.heap.size, sa) s s.heap := by
  have hf : ∀ w ∈ FL, w.before args s = true := flat_of_before _ hgv
  have hA : ∀ a, a < s.heap.size → ¬ (fun q => s.heap.size ≤ q) a := fun a h => Nat.not_le.mpr h
  have hex : ∀ i, i < 47 → ∃ a v, (∀ q, strs[i]? = some q → vk_R q.1 q.2.1 q.2.2.1 a s) ∧ va_O "java/lang/String" a (fun q => s.heap.size ≤ q) s s.heap ∧ va_OF "java/lang/String" "coder" "B" (.int 0) a (fun q => s.heap.size ≤ q) s s.heap ∧ va_OF "java/lang/String" "value" "[B" (.ref v) a (fun q => s.heap.size ≤ q) s s.heap ∧ va_T .byte v (tl i) (fun j => .int (tb i j)) (fun q => s.heap.size ≤ q) s s.heap := by
    intro i hi
    obtain ⟨q, h1, h2, h3⟩ := os_all i hi
    obtain ⟨a, v, ha, b1, b2, b3, b4⟩ := str_ok (args := args) (s := s) (A := fun q => s.heap.size ≤ q) (fun w hw => hf w (h2 w hw)) (tl_lt i hi) hA
    refine ⟨a, v, fun q2 hq2 => ?_, b1, b2, b3, b4⟩
    cases Option.some.inj (hq2.symm.trans h1)
    exact vk_R.of (hts _ h3) ha
  let pa : ∀ i, i < 47 → Nat := fun i hi => Classical.choose (hex i hi)
  let pv : ∀ i, i < 47 → Nat := fun i hi => Classical.choose (Classical.choose_spec (hex i hi))
  let sa : Nat → Nat := fun n => if h : n / 2 < 47 then (if n % 2 = 0 then pa (n / 2) h else pv (n / 2) h) else 0
  have e0 : ∀ i (hi : i < 47), sa (2 * i) = pa i hi := by
    intro i hi
    have z : 2 * i / 2 = i := by omega
    show (if h : 2 * i / 2 < 47 then (if 2 * i % 2 = 0 then pa (2 * i / 2) h else pv (2 * i / 2) h) else 0) = pa i hi
    rw [dif_pos (by omega), if_pos (by omega)]
    exact (fun j hj e => by subst e; rfl : ∀ j (hj : j < 47), j = i → pa j hj = pa i hi) _ (by omega) z
  have e1 : ∀ i (hi : i < 47), sa (2 * i + 1) = pv i hi := by
    intro i hi
    show (if h : (2 * i + 1) / 2 < 47 then (if (2 * i + 1) % 2 = 0 then pa ((2 * i + 1) / 2) h else pv ((2 * i + 1) / 2) h) else 0) = pv i hi
    have z : (2 * i + 1) / 2 = i := by omega
    rw [dif_pos (by omega), if_neg (by omega)]
    exact (fun j hj e => by subst e; rfl : ∀ j (hj : j < 47), j = i → pv j hj = pv i hi) _ (by omega) z
  have hsp : ∀ i (hi : i < 47), (∀ q, strs[i]? = some q → vk_R q.1 q.2.1 q.2.2.1 (pa i hi) s) ∧ va_O "java/lang/String" (pa i hi) (fun q => s.heap.size ≤ q) s s.heap ∧ va_OF "java/lang/String" "coder" "B" (.int 0) (pa i hi) (fun q => s.heap.size ≤ q) s s.heap ∧ va_OF "java/lang/String" "value" "[B" (.ref (pv i hi)) (pa i hi) (fun q => s.heap.size ≤ q) s s.heap ∧ va_T .byte (pv i hi) (tl i) (fun j => .int (tb i j)) (fun q => s.heap.size ≤ q) s s.heap := fun i hi => Classical.choose_spec (Classical.choose_spec (hex i hi))
  refine ⟨sa, dif_neg (by decide), fun i hi => ?_, fun q hq => ?_, ?_, ?_, ?_, ?_, ⟨fun q hq => va_Nw.of rfl (hts _ (casts_ok q hq)), fun q hq => va_Nc.of (hf _ (ncasts_ok q hq))⟩⟩
  · have hi : i < 47 := hi
    show va_O "java/lang/String" (sa (2 * i)) _ s s.heap ∧ va_OF "java/lang/String" "coder" "B" (.int 0) (sa (2 * i)) _ s s.heap ∧ va_OF "java/lang/String" "value" "[B" (.ref (sa (2 * i + 1))) (sa (2 * i)) _ s s.heap ∧ va_T .byte (sa (2 * i + 1)) (tl i) (fun j => .int (tb i j)) _ s s.heap
    rw [e0 i hi, e1 i hi]
    exact (hsp i hi).2
  · obtain ⟨h1, h2⟩ := strs_n q hq
    show vk_R q.1 q.2.1 q.2.2.1 (sa (2 * q.2.2.2)) s
    rw [e0 _ h1]
    exact (hsp _ h1).1 q h2
  · obtain ⟨y, ey, fy⟩ := Cond.eq_one (hf (.eq (.static "java/lang/String" "COMPACT_STRINGS" "Z") (.int 1)) (fl_of 4 (by decide +kernel)))
    cases Option.some.inj fy
    exact va_Zof (hts _ (tbl_of 789 (by decide +kernel))) (hts _ (tbl_of 115 (by decide +kernel))) ey hA
  · exact va_Zqof (hts _ (tbl_of 805 (by decide +kernel))) (hts _ (tbl_of 117 (by decide +kernel))) (hf _ (fl_of 5 (by decide +kernel))) hA
  · exact vx_Zqof (hts _ (tbl_of 984 (by decide +kernel))) (hts _ (tbl_of 119 (by decide +kernel))) (hf _ (fl_of 9 (by decide +kernel))) hA
  · exact vx_Zqof (hts _ (tbl_of 986 (by decide +kernel))) (hts _ (tbl_of 119 (by decide +kernel))) (hf _ (fl_of 10 (by decide +kernel))) hA
