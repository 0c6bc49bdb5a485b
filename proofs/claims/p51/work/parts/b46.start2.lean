/-! the law's entry: texts, statics, digits -/
def digW (nm : String) (f : Nat → Int32) : List Cond := (List.range 100).map (fun j => Cond.eq (.elem (.static "java/lang/Integer" nm "[B") (.int (Int32.ofNat j))) (.int (f j)))
theorem digO_in : ∀ w ∈ digW "DigitOnes" dgO, w ∈ FL := sub_of 14 (by decide +kernel)
theorem digT_in : ∀ w ∈ digW "DigitTens" dgT, w ∈ FL := sub_of 117 (by decide +kernel)
theorem dig_ok {s : State} {args : Array Value} {A : Nat → Prop} (hf : ∀ w ∈ FL, w.before args s = true) (hA : ∀ a, a < s.heap.size → ¬ A a) (nm : String) (f : Nat → Int32) (hin : ∀ w ∈ digW nm f, w ∈ FL) (harr : Cond.arrayOf (.static "java/lang/Integer" nm "[B") .byte ∈ FL) (hlen : Cond.eq (.length (.static "java/lang/Integer" nm "[B")) (.int 100) ∈ FL) (hl : (Cond.laysStatic "java/lang/Integer" nm "[B").before args s = true) (hini : (Cond.initialized "java/lang/Integer").before args s = true) : ∃ t : Nat, va_Z "java/lang/Integer" nm "[B" (.ref t) A s s.heap ∧ va_T .byte t 100 (fun j => .int (f j)) A s s.heap := by
  obtain ⟨y4, e4, f4⟩ := Cond.eq_one (hf _ hlen)
  cases Option.some.inj f4
  obtain ⟨t, ht, hT⟩ := va_Tof (tm := .static "java/lang/Integer" nm "[B") (ty := .byte) (N := 100) (f := fun j => .int (f j)) (A := A) (by decide) (hf _ harr) e4 (fun j hj => by
    have h5 := hf _ (hin (Cond.eq (.elem (.static "java/lang/Integer" nm "[B") (.int (Int32.ofNat j))) (.int (f j))) (List.mem_map.mpr ⟨j, List.mem_range.mpr hj, rfl⟩))
    obtain ⟨y5, e5, f5⟩ := Cond.eq_one h5
    cases Option.some.inj f5
    exact e5) hA
  exact ⟨t, va_Zof hl hini ht hA, hT⟩
theorem txA_lt : ∀ q ∈ strs, (txA q.2.2.2).length < 2 ^ 31 := by decide +kernel
theorem strs_one0 : (strs.all fun q => strs.all fun r => !(r.2.2.2 == q.2.2.2) || (r == q)) = true := by decide +kernel
theorem strs_one {q r : String × Nat × String × Nat} (hq : q ∈ strs) (hr : r ∈ strs) (h : r.2.2.2 = q.2.2.2) : r = q := by
  have h1 := List.all_eq_true.mp (List.all_eq_true.mp strs_one0 q hq) r hr
  rw [Bool.or_eq_true] at h1
  rcases h1 with h1 | h1
  · rw [h, beq_self_eq_true] at h1
    cases h1
  · exact eq_of_beq h1
theorem ok_num : ∀ i ∈ okL, ∃ q ∈ strs, q.2.2.2 = i := by decide +kernel
theorem ok_numP : ∀ i, i < 10 → ∃ q ∈ strs, q.2.2.2 = 100 + i := by decide +kernel
theorem okL_lt : ∀ i ∈ okL, i < 100 := by decide +kernel
theorem start_sa {s : State} {args : Array Value} (hts : ∀ w ∈ lw_tbl, w.before args s = true) (hf : ∀ w ∈ FL, w.before args s = true) : ∃ sa : Nat → Nat, ∀ q ∈ strs, vk_R q.1 q.2.1 q.2.2.1 (sa (2 * q.2.2.2)) s ∧ va_O "java/lang/String" (sa (2 * q.2.2.2)) (fun q => s.heap.size ≤ q) s s.heap ∧ va_OF "java/lang/String" "coder" "B" (.int 0) (sa (2 * q.2.2.2)) (fun q => s.heap.size ≤ q) s s.heap ∧ va_OF "java/lang/String" "value" "[B" (.ref (sa (2 * q.2.2.2 + 1))) (sa (2 * q.2.2.2)) (fun q => s.heap.size ≤ q) s s.heap ∧ va_T .byte (sa (2 * q.2.2.2 + 1)) (txA q.2.2.2).length (fun j => .int ((txA q.2.2.2).getD j 0)) (fun q => s.heap.size ≤ q) s s.heap := by
  have hA : ∀ a, a < s.heap.size → ¬ (fun q => s.heap.size ≤ q) a := fun a h => Nat.not_le.mpr h
  have hex : ∀ j : Nat, ∃ av : Nat × Nat, ∀ q ∈ strs, q.2.2.2 = j → vk_R q.1 q.2.1 q.2.2.1 av.1 s ∧ va_O "java/lang/String" av.1 (fun q => s.heap.size ≤ q) s s.heap ∧ va_OF "java/lang/String" "coder" "B" (.int 0) av.1 (fun q => s.heap.size ≤ q) s s.heap ∧ va_OF "java/lang/String" "value" "[B" (.ref av.2) av.1 (fun q => s.heap.size ≤ q) s s.heap ∧ va_T .byte av.2 (txA j).length (fun i => .int ((txA j).getD i 0)) (fun q => s.heap.size ≤ q) s s.heap := by
    intro j
    by_cases h : ∃ q ∈ strs, q.2.2.2 = j
    · obtain ⟨q, hq, rfl⟩ := h
      obtain ⟨h2, h3⟩ := os_all q hq
      obtain ⟨a, v, ha, b1, b2, b3, b4⟩ := str_ok (args := args) (s := s) (A := fun q => s.heap.size ≤ q) (fun w hw => hf w (h2 w hw)) (txA_lt q hq) hA
      refine ⟨(a, v), fun r hr e => ?_⟩
      rw [strs_one hq hr e]
      exact ⟨vk_R.of (hts _ h3) ha, b1, b2, b3, b4⟩
    · exact ⟨(0, 0), fun q hq e => absurd ⟨q, hq, e⟩ h⟩
  refine ⟨fun n => if n % 2 = 0 then (Classical.choose (hex (n / 2))).1 else (Classical.choose (hex (n / 2))).2, fun q hq => ?_⟩
  have h := Classical.choose_spec (hex q.2.2.2) q hq rfl
  have z1 : 2 * q.2.2.2 % 2 = 0 := by omega
  have z2 : ¬ (2 * q.2.2.2 + 1) % 2 = 0 := by omega
  have z3 : 2 * q.2.2.2 / 2 = q.2.2.2 := by omega
  have z4 : (2 * q.2.2.2 + 1) / 2 = q.2.2.2 := by omega
  simp only [z1, z2, z3, z4, if_true, if_false]
  exact h
theorem start_SX {s : State} {args : Array Value} (hts : ∀ w ∈ lw_tbl, w.before args s = true) (hgv : (Jvm.Cond.and given_1 narrow_1).before args s = true) (D : va_G) (dA : Nat → ClassId) (hKG : KG D dA s) : ∃ sa : Nat → Nat, ∀ z1 : Nat → Nat, SX (z1, D, dA, s.heap.size, sa) s s.heap ∧ PX (z1, D, dA, s.heap.size, sa) s s.heap := by
  have hf : ∀ w ∈ FL, w.before args s = true := flat_of_before _ hgv
  have hA : ∀ a, a < s.heap.size → ¬ (fun q => s.heap.size ≤ q) a := fun a h => Nat.not_le.mpr h
  obtain ⟨sa, hsa⟩ := start_sa hts hf
  obtain ⟨tO, zO, TO⟩ := dig_ok (A := fun q => s.heap.size ≤ q) hf hA "DigitOnes" dgO digO_in (fl_of 12 (by decide +kernel)) (fl_of 13 (by decide +kernel)) (hts _ (tbl_of 672 (by decide +kernel))) (hts _ (tbl_of 41 (by decide +kernel)))
  obtain ⟨tT, zT, TT⟩ := dig_ok (A := fun q => s.heap.size ≤ q) hf hA "DigitTens" dgT digT_in (fl_of 115 (by decide +kernel)) (fl_of 116 (by decide +kernel)) (hts _ (tbl_of 674 (by decide +kernel))) (hts _ (tbl_of 41 (by decide +kernel)))
  have ho4 : (Cond.arrayOver (.array .int)).before args s = true := hts _ (tbl_of 397 (by decide +kernel))
  obtain ⟨comp4, a4, k4, f1, f0, f2, f3, f4⟩ := arrayOverA_spec ho4
  have r1 := hKG.1.2 1 (dA 1, .int) rfl
  have r4 := hKG.1.2 4 (dA 4, .array .int) rfl
  have e4 : a4 = dA 4 := va_RA_inj (U := s) (ty := .array .int) f4 r4.2
  have e1 : comp4 = dA 1 := va_RA_inj (U := s) (ty := .int) f1 r1.2
  subst e4
  subst e1
  obtain ⟨-, k1, hk1, -⟩ := r1.1 0 (fun _ => .int 0)
  refine ⟨sa, fun z1 => ⟨⟨fun i hi => ?_, fun q hq => (hsa q hq).1, ?_, ?_, ?_, ?_, ⟨fun q hq => va_Nw.of rfl (hts _ (casts_ok q hq)), fun q hq => va_Nc.of (hf _ (ncasts_ok q hq))⟩⟩, fun i hi => ?_, ⟨tO, tT, zO, TO, zT, TT⟩, ⟨⟨k4, k1, f2, f3, hk1⟩, ho4, va_Nc.of (hf _ (fl_of 246 (by decide +kernel)))⟩, fun q hq => va_Nw.of rfl (hts _ (flk_ok q hq))⟩⟩
  · have hm := List.contains_iff_mem.mp hi
    obtain ⟨q, hq, e⟩ := ok_num i hm
    have h := (hsa q hq).2
    rw [e, show txA i = tx.getD i [] from if_pos (okL_lt i hm)] at h
    exact h
  · obtain ⟨y, ey, fy⟩ := Cond.eq_one (hf (.eq (.static "java/lang/String" "COMPACT_STRINGS" "Z") (.int 1)) (fl_of 4 (by decide +kernel)))
    cases Option.some.inj fy
    exact va_Zof (hts _ (tbl_of 414 (by decide +kernel))) (hts _ (tbl_of 28 (by decide +kernel))) ey hA
  · exact va_Zqof (hts _ (tbl_of 499 (by decide +kernel))) (hts _ (tbl_of 34 (by decide +kernel))) (hf _ (fl_of 5 (by decide +kernel))) hA
  · exact vx_Zqof (hts _ (tbl_of 642 (by decide +kernel))) (hts _ (tbl_of 36 (by decide +kernel))) (hf _ (fl_of 9 (by decide +kernel))) hA
  · exact vx_Zqof (hts _ (tbl_of 644 (by decide +kernel))) (hts _ (tbl_of 36 (by decide +kernel))) (hf _ (fl_of 10 (by decide +kernel))) hA
  · obtain ⟨q, hq, e⟩ := ok_numP i hi
    have h := (hsa q hq).2
    rw [e, show txA (100 + i) = txP.getD i [] from (if_neg (by omega)).trans (by rw [Nat.add_sub_cancel_left])] at h
    have z1 : 2 * (100 + i) = 2 * i + 200 := by omega
    rw [z1] at h
    exact h
