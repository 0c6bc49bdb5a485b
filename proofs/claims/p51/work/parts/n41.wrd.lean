/-! one word, drawn -/
theorem ST.cg {n0 n1 x : Nat} {g g' : PL} {ts : List Nat} (s : ST n0 g x ts) (hn : n0 ≤ n1) (h1 : g.1 ≤ g'.1) (h3 : ∀ o, o < g.1 → g'.2.1 o = g.2.1 o) (h4 : ∀ o, o < g.1 → (g.2.1 o).1 = 3 ∨ (g.2.1 o).1 = 6 → g'.2.2 o = g.2.2 o) : ST n1 g' x ts := by
  rcases s with s | ⟨w, s1, s2, s3, s4, s5, s6, s7, s8, s9⟩
  · exact Or.inl s
  · refine Or.inr ⟨w, by omega, by omega, by omega, by omega, by rw [h3 x s3]; exact s5, ?_, ?_, by rw [h3 w s4]; exact s8, fun i hi => ?_⟩
    · rw [h4 x s3 (Or.inl s5)]; exact s6
    · rw [h4 x s3 (Or.inl s5)]; exact s7
    · rw [h4 w s4 (Or.inr (by rw [s8]))]; exact s9 i hi
theorem WQ.fr {g g' : PL} {R : Nat → Nat → Nat} {wid : Nat → Nat} {fr n M k : Nat} (q : WQ g R wid fr n M) (f : Fr g.1 k g g') (h2 : g'.1 ≤ 600000) : WQ g' R wid fr n M := q.cg f.a h2 f.s (fun o ho _ _ _ => f.h o ho) (fun j _ _ _ _ _ => by rw [f.h 1 (by have := q.d.n; omega)])
theorem WO.cg {g g' : PL} {R : Nat → Nat → Nat} {wid : Nat → Nat} {n : Nat} (q : WO g R wid n) (h1 : g'.1 = g.1) (h3 : g'.2.1 = g.2.1) (h2 : g'.2.2 2 = g.2.2 2) (h4 : ∀ w, w < n → g'.2.2 (wid w) = g.2.2 (wid w)) : WO g' R wid n := fun w hw => by
  rw [h1, h2, h3, h4 w hw]
  exact q w hw
set_option maxHeartbeats 2000000 in
theorem d_wrd {g : PL} {R : Nat → Nat → Nat} {wid : Nat → Nat} {fr n M at0 m k x : Nat} {ts : List Nat} (q : WQ g R wid fr n M) (hp : g.1 ≤ 500000) (hn : n < 10) (hM : M ≤ 300) (hat : at0 ≤ M) (hk : k + 15 ≤ 301) (h16 : g.2.2 1 16 = nI x) (hx : x < 2000000) (hT : ST g.1 g x ts) (hl : ts.length ≤ 230) (hm : m < 100) (r : Int32 × Int32 × PL × Nat → Option PL) : ∃ sp st en t i at' g' x' wid', Fp_X11_init_183 1 0 fr r (nI at0, nI (m + 1), g, k) = r (nI at', nI m, g', k + 15) ∧ LStp (wrdL (97 + sp) (97 + t) sp st en) R (insR R i (641 + t) sp st en) ∧ WQ g' (insR R i (641 + t) sp st en) wid' fr (n + 1) (M + 21) ∧ at' ≤ M + 21 ∧ g'.2.2 1 16 = nI x' ∧ x' < 2000000 ∧ ST g'.1 g' x' (ts ++ lnB (wrdL (97 + sp) (97 + t) sp st en)) ∧ g'.1 ≤ g.1 + 15 ∧ g.1 ≤ g'.1 ∧ (∀ j, ¬ j = 5 → ¬ j = 16 → g'.2.2 1 j = g.2.2 1 j) ∧ ∀ o, 3 ≤ o → o < 12 → g'.2.2 o = g.2.2 o ∧ g'.2.1 o = g.2.1 o := by
  have d := q.d
  have h12 := d.n
  obtain ⟨f1, f2⟩ := q.fo
  have hR := q.rn
  obtain ⟨s1, s2, s3⟩ := q.sp
  have hs2 := q.s2
  -- draws
  obtain ⟨sp, g1, e1, hsp, w1⟩ := d.dr (c := nI (R 0 2)) rfl (by omega) (by omega)
  obtain ⟨f, hf, hfM, hfw⟩ := q.ff sp hsp
  have d1 := w1.dk d
  obtain ⟨a, g2, e2, ha, w2⟩ := d1.dr (c := 12) (n := 12) rfl (by decide) (by decide)
  have d2 := w2.dk d1
  obtain ⟨b, g3, e3, hb, w3⟩ := d2.dr (c := 9) (n := 9) rfl (by decide) (by decide)
  have d3 := w3.dk d2
  have W3 := (w1.tr w2).tr w3
  obtain ⟨st, est⟩ : ∃ st, st = max f (at0 + a) := ⟨_, rfl⟩
  obtain ⟨en, een⟩ : ∃ en, en = st + 1 + b := ⟨_, rfl⟩
  have n1 := w1.1
  have n2 := w2.1
  have n3 : g3.1 = g.1 := W3.1
  -- the word's cells
  have K0 : (gu (gnew g3 4 5 (fun _ => 0)) g3.1 0 (nI sp)).2.1 g3.1 = (4, 5) := nw_k (g := g3) (kd := 4) (n := 5) (f := fun _ => 0)
  have K1 : ∀ o, o < g.1 → (gu (gnew g3 4 5 (fun _ => 0)) g3.1 0 (nI sp)).2.1 o = g.2.1 o := fun o ho => by
    show (gnew g3 4 5 (fun _ => 0)).2.1 o = _
    rw [nw_ko (by omega), W3.2.1]
  have K2 : ∀ o, o < g.1 → ¬ o = 0 → (gu (gnew g3 4 5 (fun _ => 0)) g3.1 0 (nI sp)).2.2 o = g.2.2 o := fun o ho h => by
    rw [gu_h, up_o (by omega), nw_ho (by omega), W3.2.2 o h]
  obtain ⟨t, g4, e4, ht, w4⟩ := dr1 (g := gu (gnew g3 4 5 (fun _ => 0)) g3.1 0 (nI sp)) (c := 3) (n := 3) (by show 0 < g3.1 + 1; omega) (by rw [K1 0 (by omega)]; exact d.k0) rfl (by decide) (by decide)
  have n4 : g4.1 = g.1 + 1 := by rw [w4.1]; show g3.1 + 1 = _; omega
  have k4p : g4.2.1 g3.1 = (4, 5) := by rw [w4.2.1]; exact K0
  obtain ⟨u5, hu5⟩ : ∃ u, u = gu (gu (gu (gu g4 g3.1 1 (nI t)) g3.1 2 (nI st)) g3.1 3 (nI en)) g3.1 4 0 := ⟨_, rfl⟩
  have n5 : u5.1 = g.1 + 1 := by rw [hu5]; exact n4
  have k5 : u5.2.1 = g4.2.1 := by rw [hu5]; rfl
  have k5o : ∀ o, o < g.1 → u5.2.1 o = g.2.1 o := fun o ho => by rw [k5, w4.2.1, K1 o ho]
  have k5p : u5.2.1 g3.1 = (4, 5) := by rw [k5]; exact k4p
  have v5 : ∀ o, o < g.1 → ¬ o = 0 → u5.2.2 o = g.2.2 o := fun o ho h => by
    rw [hu5, gu_h, up_o (by omega), gu_h, up_o (by omega), gu_h, up_o (by omega), gu_h, up_o (by omega), w4.2.2 o h, K2 o ho h]
  have p0 : u5.2.2 g3.1 0 = nI sp := by
    rw [hu5, gu_h, up_sn (by decide), gu_h, up_sn (by decide), gu_h, up_sn (by decide), gu_h, up_sn (by decide), w4.2.2 _ (by omega), gu_h, up_ss]
  have p1 : u5.2.2 g3.1 1 = nI t := by
    rw [hu5, gu_h, up_sn (by decide), gu_h, up_sn (by decide), gu_h, up_sn (by decide), gu_h, up_ss]
  have p2 : u5.2.2 g3.1 2 = nI st := by
    rw [hu5, gu_h, up_sn (by decide), gu_h, up_sn (by decide), gu_h, up_ss]
  have p3 : u5.2.2 g3.1 3 = nI en := by
    rw [hu5, gu_h, up_sn (by decide), gu_h, up_ss]
  have q5 : WQ u5 R wid fr n M := q.cg (by omega) (by omega) k5o (fun o ho h _ _ => v5 o ho h) (fun j _ _ _ _ _ => by rw [v5 1 (by omega) (by decide)])
  obtain ⟨u6, e6, i, hi, n6, k6, v6, x6, c6, r6⟩ := d_putWord q5.d q5.w q5.n5 hR (by omega) (p := g3.1) (by omega) (by omega) k5p p0 p2 (by omega) (by omega)
  have hi1 : i ≤ n := by have := hi.1; omega
  obtain ⟨c, g7, e7, hc, w7⟩ := dr1 (g := u6) (c := 2) (n := 2) (by omega) (by rw [k6, k5o 0 (by omega)]; exact d.k0) rfl (by decide) (by decide)
  have k7o : ∀ o, g7.2.1 o = u5.2.1 o := fun o => by rw [w7.2.1, k6]
  have n7 : g7.1 = g.1 + 1 := by rw [w7.1, n6, n5]
  obtain ⟨u8, hu8⟩ : ∃ u, u = gu g7 fr sp (nI (en + c)) := ⟨_, rfl⟩
  have n8 : u8.1 = g.1 + 1 := by rw [hu8]; exact n7
  have k8o : ∀ o, u8.2.1 o = u5.2.1 o := fun o => by rw [hu8]; exact k7o o
  obtain ⟨e, g9, e9, he, w9⟩ := dr1 (g := u8) (c := 4) (n := 4) (by omega) (by rw [k8o, k5o 0 (by omega)]; exact d.k0) rfl (by decide) (by decide)
  obtain ⟨at', eat⟩ : ∃ at', at' = max at0 (st - e) := ⟨_, rfl⟩
  have N9 : g9.1 = g.1 + 1 := by rw [w9.1, n8]
  have k9 : g9.2.1 = u6.2.1 := by rw [w9.2.1, hu8]; show g7.2.1 = _; exact w7.2.1
  have k9o : ∀ o, g9.2.1 o = u5.2.1 o := fun o => by rw [k9, k6]
  have v9' : ∀ o, ¬ o = 0 → ¬ o = fr → g9.2.2 o = u6.2.2 o := fun o a1 a2 => by rw [w9.2.2 o a1, hu8, gu_h, up_o a2, w7.2.2 o a1]
  have v9 : ∀ o, ¬ o = 0 → ¬ o = fr → ¬ o = 1 → ¬ o = 2 → g9.2.2 o = u5.2.2 o := fun o a1 a2 a3 a4 => by rw [v9' o a1 a2, v6 o a3 a4]
  have f9 : ∀ j, ¬ j = 5 → g9.2.2 1 j = g.2.2 1 j := fun j hj => by rw [v9' 1 (by decide) (by omega), x6 j hj, v5 1 (by omega) (by decide)]
  have fr9 : ∀ j, g9.2.2 fr j = if j = sp then nI (en + c) else g.2.2 fr j := fun j => by
    rw [w9.2.2 fr (by omega), hu8, gu_h]
    by_cases z : j = sp
    · rw [if_pos z, z, up_ss]
    · rw [if_neg z, up_sn z, w7.2.2 fr (by omega), v6 fr (by omega) (by omega), v5 fr f2 (by omega)]
  obtain ⟨R', hR'⟩ : ∃ R', R' = insR R i (641 + t) sp st en := ⟨_, rfl⟩
  obtain ⟨wd', hwd⟩ : ∃ wd', wd' = insW wid i g3.1 := ⟨_, rfl⟩
  have IO : ∀ w, w < n + 1 → (w = i ∧ wd' w = g3.1 ∧ R' 2 w = 641 + t ∧ R' 3 w = sp ∧ R' 4 w = st ∧ R' 5 w = en) ∨ (¬ w = i ∧ ∃ v, v < n ∧ v = (if w < i then w else w - 1) ∧ wd' w = wid v ∧ R' 2 w = R 2 v ∧ R' 3 w = R 3 v ∧ R' 4 w = R 4 v ∧ R' 5 w = R 5 v) := fun w hw => by
    rw [hR', hwd]
    exact ins_old hR hi1 hw
  have hst : st ≤ M + 11 := by omega
  have hen : en ≤ M + 20 := by omega
  have q9 : WQ g9 R' wd' fr (n + 1) (M + 21) := by
    have W6 : WO u6 R' wd' (n + 1) := by
      rw [hR', hwd]
      exact q5.w.ins hi1 hR (by omega) (by omega) k5p p0 p2 (by omega) (by omega) n6 k6 v6 r6
    have R0 : ∀ o j, ¬ (2 ≤ o ∧ o ≤ 5) → ¬ (o = 0 ∧ j = 4) → R' o j = R o j := fun o j a b => by rw [hR']; exact ins_0 a b
    refine ⟨?_, W6.cg (by rw [N9, n6, n5]) k9 (v9' 2 (by decide) (by omega)) (fun w hw => v9' _ ?_ ?_), ?_, by rw [hR', ins_n, hR], fun w hw => ?_, fun w v hw hv h => ?_, by rw [k9o, k5o fr f2]; exact q.fk, ⟨f1, by omega⟩, fun s hs => ?_, ?_, ?_, by rw [R0 0 10 (by decide) (by decide)]; exact q.br⟩
    · exact d.cg (by omega) (by omega) (fun o ho => by rw [k9o, k5o o ho]) (fun j a1 a2 a3 a4 a5 a6 => f9 j a2)
    · have := (W6 w hw).2.1
      omega
    · rcases IO w hw with ⟨-, z, -⟩ | ⟨-, v, hv, -, z, -⟩
      · rw [z]; omega
      · rw [z]; have := (q.wx v hv).1; omega
    · rw [v9' 1 (by decide) (by omega)]; exact c6
    · rcases IO w hw with ⟨-, z, z2, z3, z4, z5⟩ | ⟨-, v, hv, -, z, z2, z3, z4, z5⟩
      · rw [z, z2, z4, z5, v9 g3.1 (by omega) (by omega) (by omega) (by omega)]
        exact ⟨by omega, p3, by omega, by omega, t, ht, p1, rfl⟩
      · obtain ⟨y1, y2, y3, y4, t2, y5, y6, y7⟩ := q.wx v hv
        have yl := (q.w v hv).2.2.1
        rw [z, z2, z4, z5, v9 _ (by omega) (by omega) (by omega) (by omega), v5 _ yl (by omega)]
        exact ⟨y1, y2, by omega, y4, t2, y5, y6, y7⟩
    · rcases IO w hw with ⟨y, z, -⟩ | ⟨y, v1, y1, y2, z, -⟩ <;> rcases IO v hv with ⟨y', z', -⟩ | ⟨y', v2, y1', y2', z', -⟩
      · omega
      · rw [z, z'] at h
        have := (q.w v2 y1').2.2.1
        omega
      · rw [z, z'] at h
        have := (q.w v1 y1).2.2.1
        omega
      · rw [z, z'] at h
        have := q.inj v1 v2 y1 y1' h
        split at y2 <;> split at y2' <;> omega
    · rw [R0 0 2 (by decide) (by decide)] at hs
      rw [fr9]
      by_cases z : s = sp
      · refine ⟨en + c, if_pos z, by omega, fun w hw h => ?_⟩
        rcases IO w hw with ⟨-, -, -, -, -, y⟩ | ⟨-, v, hv, -, -, -, y3, -, y5⟩
        · omega
        · rw [y5]
          have := hfw v hv (by omega)
          omega
      · obtain ⟨f', l1, l2, l3⟩ := q.ff s hs
        refine ⟨f', by rw [if_neg z]; exact l1, by omega, fun w hw h => ?_⟩
        rcases IO w hw with ⟨-, -, -, y, -, -⟩ | ⟨-, v, hv, -, -, -, y3, -, y5⟩
        · omega
        · rw [y5]
          exact l3 v hv (by omega)
    · rw [f9 2 (by decide), R0 0 2 (by decide) (by decide)]; exact q.s2
    · rw [R0 0 2 (by decide) (by decide)]
      exact ⟨s1, s2, fun j hj => by rw [R0 1 j (by omega) (by omega)]; exact s3 j hj⟩
  -- the text
  have T9 : ST g9.1 g9 x ts := hT.cg (by omega) (by omega) (fun o ho => by rw [k9o, k5o o ho]) (fun o ho h => by
    have z0 : ¬ o = 0 := fun z => by rw [z, d.k0] at h; revert h; decide
    have z1 : ¬ o = 1 := fun z => by rw [z, d.k1] at h; revert h; decide
    have z2 : ¬ o = 2 := fun z => by rw [z, d.k2] at h; revert h; decide
    have z3 : ¬ o = fr := fun z => by rw [z, q.fk] at h; revert h; decide
    rw [v9 o z0 z3 z1 z2, v5 o ho z0])
  have ls := dgs_l (n := st)
  have le := dgs_l (n := en)
  obtain ⟨u10, v10, b10, s10, y10⟩ := sb_open (g := g9) (by omega)
  have x10 : u10.2.2 1 16 = nI x := by rw [y10.h 1 (by omega), f9 16 (by decide)]; exact h16
  have A10 := y10.a
  have B10 := y10.b
  obtain ⟨u11, v11, b11, s11, y11⟩ := sb_str1 s10 (by omega) (T9.fr y10) (by simp only [List.length_append, List.length_cons, List.length_nil]; omega)
  have A11 := y11.a
  have B11 := y11.b
  obtain ⟨u12, v12, b12, s12, y12⟩ := sb_str1 s11 (by omega) tlit4 (by simp only [List.length_append, List.length_cons, List.length_nil]; omega)
  have A12 := y12.a
  have B12 := y12.b
  obtain ⟨u13, v13, b13, s13, y13⟩ := sb_chr1 (c := 97 + sp) s12 (by omega) (by omega) (by simp only [List.length_append, List.length_cons, List.length_nil]; omega)
  have A13 := y13.a
  have B13 := y13.b
  obtain ⟨u14, v14, b14, s14, y14⟩ := sb_str1 s13 (by omega) tlit5 (by simp only [List.length_append, List.length_cons, List.length_nil]; omega)
  have A14 := y14.a
  have B14 := y14.b
  obtain ⟨u15, v15, b15, s15, y15⟩ := sb_chr1 (c := 97 + t) s14 (by omega) (by omega) (by simp only [List.length_append, List.length_cons, List.length_nil]; omega)
  have A15 := y15.a
  have B15 := y15.b
  obtain ⟨u16, v16, b16, s16, y16⟩ := sb_str1 s15 (by omega) tlit6 (by simp only [List.length_append, List.length_cons, List.length_nil]; omega)
  have A16 := y16.a
  have B16 := y16.b
  obtain ⟨u17, v17, b17, s17, y17⟩ := sb_num1 (n := st) s16 (by omega) (by omega) (by simp only [List.length_append, List.length_cons, List.length_nil]; omega)
  have A17 := y17.a
  have B17 := y17.b
  obtain ⟨u18, v18, b18, s18, y18⟩ := sb_str1 s17 (by omega) tlit6 (by simp only [List.length_append, List.length_cons, List.length_nil]; omega)
  have A18 := y18.a
  have B18 := y18.b
  obtain ⟨u19, v19, b19, s19, y19⟩ := sb_num1 (n := en) s18 (by omega) (by omega) (by simp only [List.length_append, List.length_cons, List.length_nil]; omega)
  have A19 := y19.a
  have B19 := y19.b
  obtain ⟨u20, v20, b20, s20, y20⟩ := sb_str1 s19 (by omega) tlit2 (by simp only [List.length_append, List.length_cons, List.length_nil]; omega)
  have A20 := y20.a
  have B20 := y20.b
  obtain ⟨u21, b21, t21, y21, z21⟩ := sb_txt1 s20 (by omega) (by omega)
  have A21 := y21.a
  have B21 := y21.b
  have y14 : Fr g9.1 6 g9 u14 := (((y10.tr y11 (k := 3) (by omega)).tr y12 (k := 4) (by omega)).tr y13 (k := 5) (by omega)).tr y14 (by omega)
  have ff : Fr g9.1 14 g9 u21 := ((((((y14.tr y15 (k := 7) (by omega)).tr y16 (k := 8) (by omega)).tr y17 (k := 9) (by omega)).tr y18 (k := 10) (by omega)).tr y19 (k := 11) (by omega)).tr y20 (k := 12) (by omega)).tr y21 (by omega)
  have q14 := q9.fr y14 (by omega)
  have eW : fp_X11_wordOf u14 1 (nI sp) (nI st) = some g3.1 := by
    rcases IO i (by omega) with ⟨-, z, z2, z3, z4, z5⟩ | ⟨z, -⟩
    · have h := d_wordOf q14.d q14.w q14.n5 (by omega) (show i < n + 1 by omega) (fun w hw h => ?_)
      · rw [z3, z4, z] at h
        exact h
      · rw [z3, z4] at h
        rcases IO w (by omega) with ⟨y, -⟩ | ⟨-, v, hv, -, -, -, y3, y4, y5⟩
        · omega
        · have y6 := (q.wx v hv).2.2.2.1
          have y7 := hfw v hv (by omega)
          omega
    · exact absurd rfl z
  have p14 : u14.2.2 g3.1 1 = nI t := by rw [y14.h _ (by omega), v9 g3.1 (by omega) (by omega) (by omega) (by omega)]; exact p1
  have k14 : u14.2.1 g3.1 = (4, 5) := by rw [y14.s _ (by omega), k9o]; exact k5p
  have k21 : u21.2.1 1 = (0, 0) := by rw [ff.s 1 (by omega)]; exact q9.d.k1
  obtain ⟨T, F⟩ := tx_put (by omega) k21 ff t21
  have RK : ∀ {u : PL}, g.1 ≤ u.1 → rkb u 1 = true ∧ rkb u 0 = true ∧ rkb u fr = true := fun h => ⟨rkb_i (by omega), rkb_i (by omega), rkb_i (by omega)⟩
  have gb : ∀ {u : PL} {v : Nat} {bs : List Nat}, SB g9.1 u g9.1 v bs → gk u g9.1 2 = true := fun s => gk_i s.o s.k
  have dk : ∀ m, m ≤ 301 → decide (m ≤ 301) = true := fun m h => decide_eq_true h
  have GD1 : ∀ {u : PL}, g.1 ≤ u.1 → (u.2.1 1 = g.2.1 1) → gk u 1 0 = true := fun h h2 => gk_i (by omega) (by rw [h2, d.k1])
  have GD0 : ∀ {u : PL}, g.1 ≤ u.1 → (u.2.1 0 = g.2.1 0) → gk u 0 1 = true := fun h h2 => gk_i (by omega) (by rw [h2, d.k0])
  have FK : ∀ {u : PL}, g.1 ≤ u.1 → u.2.1 fr = g.2.1 fr → (gk u fr 4 && inb (nI sp) (gl u fr)) = true := fun {u} h h2 => by
    have e : gl u fr = 4 := by show (u.2.1 fr).2 = 4; rw [h2, q.fk]
    rw [gk_i (by omega) (by rw [h2, q.fk]), e, inb_t (by omega) (by omega)]
    rfl
  have i0 : ix (0 : Int32) = 0 := ix_n (a := 0) (by decide)
  have i1 : ix (1 : Int32) = 1 := ix_n (a := 1) (by decide)
  have i2 : ix (2 : Int32) = 2 := ix_n (a := 2) (by decide)
  have i3 : ix (3 : Int32) = 3 := ix_n (a := 3) (by decide)
  have i4 : ix (4 : Int32) = 4 := ix_n (a := 4) (by decide)
  have i5 : ix (5 : Int32) = 5 := ix_n (a := 5) (by decide)
  have F1 := F.1
  have F2 := F.2.1
  have F5 := F.2.2.2.2
  refine ⟨sp, st, en, t, i, at', gu u21 1 16 (nI u20.1), u20.1, wd', ?_, ?_, ?_, by omega, by rw [gu_h, up_ss], by omega, ?_, by omega, by omega, fun j h5 h6 => by rw [F5 j h6, f9 j h5], fun o o1 o2 => ⟨by rw [F.2.2.2.1 o (by omega) (by omega), v9 o (by omega) (by omega) (by omega) (by omega), v5 o (by omega) (by omega)], by rw [F.2.2.1 o (by omega), k9o, k5o o (by omega)]⟩⟩
  · unfold Fp_X11_init_183
    (try dsimp only)
    rw [i0, i1, i2, i3, i4, i5]
    rw [if_neg (show ¬ nI (m + 1) ≤ 0 from fun y => by have := (nI_leI (a := m + 1) (b := 0) (by omega) (by omega)).mp y; omega), ck_of d.g1, ck_of d.g0, hs2, e1, bnd_some, ck_of (decide_eq_true w1.1), ck_of (by exact FK (Nat.le_of_eq n1.symm) (by rw [w1.2.1])), ck_of d1.g0, e2, bnd_some, ck_of (decide_eq_true w2.1)]
    (try dsimp only)
    rw [show imax (g1.2.2 fr (ix (nI sp))) (nI at0 + nI a) = nI st from by rw [ix_n (by omega), w1.2.2 fr (by omega), hf, nI_add, imax_n (by omega) (by omega), est], stp_eq, ck_of d2.g0, e3, bnd_some, ck_of (decide_eq_true w3.1)]
    (try dsimp only)
    rw [show nI st + (1 : Int32) + nI b = nI en from by rw [show nI st + (1 : Int32) = nI (st + 1) from nI_add st 1, nI_add, een], stp_eq, ck_of (RK (Nat.le_of_eq n3.symm)).1, ck_of (RK (Nat.le_of_eq n3.symm)).2.1, ck_of (RK (Nat.le_of_eq n3.symm)).2.2, ck_of (dk _ (by omega)), ck_of (by rw [ngw_i (by omega) (by decide)]; rfl), stp_eq, ck_of (by exact in5 (u := gnew g3 4 5 (fun _ => 0)) (Nat.lt_succ_self _) K0 (by decide)), stp_eq, ck_of (by exact GD0 (u := gu (gnew g3 4 5 (fun _ => 0)) g3.1 0 (nI sp)) (by show g.1 ≤ g3.1 + 1; omega) (K1 0 (by omega))), e4, bnd_some, ck_of (decide_eq_true w4.1), ck_of (by exact in5 (by omega) k4p (by decide)), stp_eq, ck_of (by exact in5 (u := g4) (by omega) k4p (by decide)), stp_eq, ck_of (by exact in5 (u := g4) (by omega) k4p (by decide)), stp_eq, ck_of (by exact in5 (u := g4) (by omega) k4p (by decide))]
    (try dsimp only)
    rw [← hu5, stp_eq, ck_of q5.d.g1, e6, bnd_some, ck_of (decide_eq_true n6), ck_of (by exact GD0 (by omega) (by rw [k6, k5o 0 (by omega)])), e7, bnd_some, ck_of (decide_eq_true w7.1), ck_of (by exact FK (u := g7) (by omega) (by rw [k7o, k5o fr f2]))]
    (try dsimp only)
    rw [ix_n (show sp < 2147483648 by omega), nI_add en c, ← hu8, stp_eq, ck_of (by exact GD0 (u := u8) (by omega) (by rw [k8o, k5o 0 (by omega)])), e9, bnd_some, ck_of (decide_eq_true w9.1)]
    (try dsimp only)
    rw [show imax (nI at0) (nI st - nI e) = nI at' from by rw [imax_r (by omega) (by omega) (by omega), eat], stp_eq, ck_of (RK (show g.1 ≤ g9.1 by omega)).1, ck_of (RK (show g.1 ≤ g9.1 by omega)).2.1, ck_of (RK (show g.1 ≤ g9.1 by omega)).2.2, ck_of (dk _ (by omega)), ck_of (ngw_i (by omega) (by omega)), stp_eq, ck_of (rkb_i (show 1 < g9.1 + 1 by omega)), ck_of (rkb_i (show 0 < g9.1 + 1 by omega)), ck_of (rkb_i (show fr < g9.1 + 1 by omega)), ck_of (rkb_i (show g9.1 < g9.1 + 1 by omega)), ck_of (dk _ (by omega)), b10, bnd_some, ckn_of (by exact GD1 (u := u10) (by omega) (by rw [y10.s 1 (by omega), k9o, k5o 1 (by omega)])) x10 (by omega)]
    (try dsimp only)
    rw [ck_of (RK (show g.1 ≤ u10.1 by omega)).1, ck_of (RK (show g.1 ≤ u10.1 by omega)).2.1, ck_of (RK (show g.1 ≤ u10.1 by omega)).2.2, ck_of (dk _ (by omega)), ck_of (gb s10), b11, bnd_some]
    (try dsimp only)
    rw [ck_of (RK (show g.1 ≤ u11.1 by omega)).1, ck_of (RK (show g.1 ≤ u11.1 by omega)).2.1, ck_of (RK (show g.1 ≤ u11.1 by omega)).2.2, ck_of (dk _ (by omega)), ck_of (gb s11), b12, bnd_some]
    (try dsimp only)
    rw [ck_of (RK (show g.1 ≤ u12.1 by omega)).1, ck_of (RK (show g.1 ≤ u12.1 by omega)).2.1, ck_of (RK (show g.1 ≤ u12.1 by omega)).2.2, ck_of (dk _ (by omega)), ck_of (gb s12), i2c_97 sp (by omega), b13, bnd_some]
    (try dsimp only)
    rw [ck_of (RK (show g.1 ≤ u13.1 by omega)).1, ck_of (RK (show g.1 ≤ u13.1 by omega)).2.1, ck_of (RK (show g.1 ≤ u13.1 by omega)).2.2, ck_of (dk _ (by omega)), ck_of (gb s13), b14, bnd_some, ck_of q14.d.g1, eW, bnd_some, ck_of (by exact in5 (by omega) k14 (by decide))]
    (try dsimp only)
    rw [ck_of (RK (show g.1 ≤ u14.1 by omega)).1, ck_of (RK (show g.1 ≤ u14.1 by omega)).2.1, ck_of (RK (show g.1 ≤ u14.1 by omega)).2.2, ck_of (dk _ (by omega)), ck_of (gb s14), p14, i2c_97 t (by omega), b15, bnd_some]
    (try dsimp only)
    rw [ck_of (RK (show g.1 ≤ u15.1 by omega)).1, ck_of (RK (show g.1 ≤ u15.1 by omega)).2.1, ck_of (RK (show g.1 ≤ u15.1 by omega)).2.2, ck_of (dk _ (by omega)), ck_of (gb s15), b16, bnd_some]
    (try dsimp only)
    rw [ck_of (RK (show g.1 ≤ u16.1 by omega)).1, ck_of (RK (show g.1 ≤ u16.1 by omega)).2.1, ck_of (RK (show g.1 ≤ u16.1 by omega)).2.2, ck_of (dk _ (by omega)), ck_of (gb s16), b17, bnd_some]
    (try dsimp only)
    rw [ck_of (RK (show g.1 ≤ u17.1 by omega)).1, ck_of (RK (show g.1 ≤ u17.1 by omega)).2.1, ck_of (RK (show g.1 ≤ u17.1 by omega)).2.2, ck_of (dk _ (by omega)), ck_of (gb s17), b18, bnd_some]
    (try dsimp only)
    rw [ck_of (RK (show g.1 ≤ u18.1 by omega)).1, ck_of (RK (show g.1 ≤ u18.1 by omega)).2.1, ck_of (RK (show g.1 ≤ u18.1 by omega)).2.2, ck_of (dk _ (by omega)), ck_of (gb s18), b19, bnd_some]
    (try dsimp only)
    rw [ck_of (RK (show g.1 ≤ u19.1 by omega)).1, ck_of (RK (show g.1 ≤ u19.1 by omega)).2.1, ck_of (RK (show g.1 ≤ u19.1 by omega)).2.2, ck_of (dk _ (by omega)), ck_of (gb s19), b20, bnd_some]
    (try dsimp only)
    rw [ck_of (RK (show g.1 ≤ u20.1 by omega)).1, ck_of (RK (show g.1 ≤ u20.1 by omega)).2.1, ck_of (RK (show g.1 ≤ u20.1 by omega)).2.2, ck_of (dk _ (by omega)), ck_of (gb s20), b21, bnd_some, ck_of (by rw [GD1 (u := u21) (by omega) (by rw [ff.s 1 (by omega), k9o, k5o 1 (by omega)]), rkb_i (show u20.1 < u21.1 by omega), lt31 (by omega)]; rfl), stp_eq, m1_n (by omega), stp_eq, ck_of (dk _ (by omega))]
    rfl
  · refine ⟨by omega, ⟨by show 97 ≤ 97 + sp; omega, by show 97 + sp ≤ 122; omega⟩, ⟨by show 97 ≤ 97 + t; omega, by show 97 + t ≤ 122; omega⟩, hsp, ?_, fun j hj => ?_, by show st < en; omega, by show en < 1000; omega, fun w hw h => ?_, i, hi, ?_⟩
    · show R 1 sp = 608 + (97 + sp - 96)
      rw [s3 sp hsp]
      omega
    · show ¬ R 1 j = 608 + (97 + sp - 96)
      have hj : j < sp := hj
      rw [s3 j (by omega)]
      omega
    · have h : R 3 w = sp := h
      have := hfw w (by omega) h
      show R 5 w ≤ st
      omega
    · show _ = insR R i (640 + (97 + t - 96)) sp st en
      rw [show 640 + (97 + t - 96) = 641 + t by omega]
  · rw [← hR']
    exact q9.cg F1 (by omega) F.2.2.1 (fun o ho _ h _ => F.2.2.2.1 o ho h) (fun j _ _ _ _ h => F5 j h)
  · have e : ts ++ lnB (wrdL (97 + sp) (97 + t) sp st en) = [] ++ ts ++ [119, 111, 114, 100, 32, 115] ++ [97 + sp] ++ [32, 116] ++ [97 + t] ++ [32] ++ dgs st ++ [32] ++ dgs en ++ [59] := by
      show ts ++ _ = _
      simp [lnB, wrdL, kW]
    rw [e]
    exact T
