/-! all breaths; the end of the text -/
theorem bre_l (a b : Nat) : (lnB (breL a b)).length ≤ 15 := by
  have h1 := dgs_l (n := a)
  have h2 := dgs_l (n := b)
  simp only [lnB, breL, kB, List.length_append, List.length_cons, List.length_nil]
  omega
theorem d_bres {P R0 : Nat → Nat → Nat} {wid bid0 : Nat → Nat} {g0 : PL} {x0 n T L c : Nat} {ls0 : List Ln} {Q : PL → Prop} (q : WB g0 R0 wid bid0 n 0 T) (hp : g0.1 ≤ 2000) (hL : L ≤ 900) (hc : c ≤ 3) (h16 : g0.2.2 1 16 = nI x0) (hx : x0 < 2000000) (hT : ST g0.1 g0 x0 (flt ls0)) (hl : (flt ls0).length ≤ 223) (hls : ls0.length ≤ 13) (hr : Rds ls0 (clR P) R0) (fin : ∀ g x R ls bid, WB g R wid bid n c T → g.2.2 1 16 = nI x → x < 2000000 → ST g.1 g x (flt ls) → (flt ls).length ≤ 268 → ls.length ≤ 16 → Rds ls (clR P) R → g.1 ≤ g0.1 + 33 → g0.1 ≤ g.1 → (∀ j, ¬ j = 6 → ¬ j = 16 → g.2.2 1 j = g0.2.2 1 j) → (∀ o, 4 ≤ o → o < 12 → g.2.2 o = g0.2.2 o ∧ g.2.1 o = g0.2.1 o) → Wp (Jp_X11_init_549 1 0 g) Q) : Wp (Lp (Fp_X11_init_432 1 0 (nI L)) FU (nI c, g0, 301)) Q := by
  refine wp_for (i := 0) c (fun j s => ∃ g x R ls bid, s = (nI (c - j), g, 301 + 11 * j) ∧ WB g R wid bid n j T ∧ g.2.2 1 16 = nI x ∧ x < 2000000 ∧ ST g.1 g x (flt ls) ∧ (flt ls).length ≤ 223 + 15 * j ∧ ls.length ≤ 13 + j ∧ Rds ls (clR P) R ∧ g.1 ≤ g0.1 + 11 * j ∧ g0.1 ≤ g.1 ∧ (∀ j, ¬ j = 6 → ¬ j = 16 → g.2.2 1 j = g0.2.2 1 j) ∧ ∀ o, 4 ≤ o → o < 12 → g.2.2 o = g0.2.2 o ∧ g.2.1 o = g0.2.1 o) (by omega) (Nat.zero_le _) ⟨g0, x0, R0, ls0, bid0, rfl, q, h16, hx, hT, by omega, by omega, hr, by omega, Nat.le_refl _, fun _ _ _ => rfl, fun _ _ _ => ⟨rfl, rfl⟩⟩ ?_
  rintro j s r hj ⟨g, x, R, ls, bid, rfl, q1, h1, h2, h3, h4, h5, h6, h7, h8, h9, h10⟩ kk
  by_cases z : j < c
  · obtain ⟨a, b, g', x', bid', e, b1, b2, b3, b4, b5, b6, b7, b8, b9, b10⟩ := d_bre (m := c - (j + 1)) (k := 301 + 11 * j) q1 (by omega) (by omega) hL (by omega) h1 h2 h3 (by omega) (by omega) r
    rw [show c - j = c - (j + 1) + 1 by omega, e]
    have hw := bre_l a b
    refine kk _ z ⟨g', x', _, ls ++ [breL a b], bid', ?_, b3, b4, b5, ?_, ?_, ?_, h6.app ⟨_, ⟨by rw [q1.rb]; omega, b1, b2, rfl⟩, rfl⟩, by omega, by omega, fun k c1 c2 => (b9 k c1 c2).trans (h9 k c1 c2), fun o o1 o2 => ⟨(b10 o o1 o2).1.trans (h10 o o1 o2).1, (b10 o o1 o2).2.trans (h10 o o1 o2).2⟩⟩
    · rw [show 301 + 11 * j + 11 = 301 + 11 * (j + 1) by omega]
    · rw [flt_app]
      show ST g'.1 g' x' (flt ls ++ (lnB (breL a b) ++ []))
      rw [List.append_nil]
      exact b6
    · rw [flt_app, List.length_append]
      show _ + (lnB (breL a b) ++ []).length ≤ _
      rw [List.append_nil]
      omega
    · rw [List.length_append]
      show _ + 1 ≤ _
      omega
  · have e : j = c := by omega
    subst e
    unfold Fp_X11_init_432
    dsimp only
    rw [Nat.sub_self, if_pos (show nI 0 ≤ (0 : Int32) from by decide)]
    exact fin g x R ls bid q1 h1 h2 h3 (by omega) (by omega) h6 (by omega) h8 h9 h10
/-- the recording's numbers behind length and handle -/
def lhR (R : Nat → Nat → Nat) (T H : Nat) : Nat → Nat → Nat := setE (setE R 0 0 T) 0 1 H
theorem lh_o {R : Nat → Nat → Nat} {T H o j : Nat} (h : ¬ (o = 0 ∧ j ≤ 1)) : lhR R T H o j = R o j := by
  unfold lhR
  by_cases e : o = 0
  · rw [setE_n (by omega), setE_n (by omega)]
  · rw [setE_o e, setE_o e]
theorem lh_0 {R : Nat → Nat → Nat} {T H : Nat} : lhR R T H 0 0 = T ∧ lhR R T H 0 1 = H := by
  unfold lhR
  rw [setE_n (by decide), setE_s, setE_s]
  exact ⟨rfl, rfl⟩
theorem WB.lh {g : PL} {R : Nat → Nat → Nat} {wid bid : Nat → Nat} {n nb T H : Nat} (q : WB g R wid bid n nb T) : WB g (lhR R T H) wid bid n nb T := by
  refine ⟨q.d, fun w hw => ?_, q.n5, by rw [lh_o (by omega)]; exact q.rn, fun w hw => ?_, q.inj, q.n6, by rw [lh_o (by omega)]; exact q.rb, fun i hi => ?_, q.n0⟩
  · rw [lh_o (by omega), lh_o (by omega)]; exact q.w w hw
  · rw [lh_o (by omega), lh_o (by omega)]; exact q.wx w hw
  · rw [lh_o (by omega), lh_o (by omega)]; exact q.b i hi
theorem WB.ft {g g' : PL} {R : Nat → Nat → Nat} {wid bid : Nat → Nat} {n nb T k : Nat} (q : WB g R wid bid n nb T) (f : FT k g g') (hp : g'.1 ≤ 600000) : WB g' R wid bid n nb T := by
  have hd := q.d.n
  obtain ⟨f1, f2, f3, f4, f5⟩ := f
  refine ⟨q.d.cg f1 hp f3 (fun j a1 a2 a3 a4 a5 a6 => f5 j a6), fun w hw => ?_, by rw [f5 5 (by decide)]; exact q.n5, q.rn, fun w hw => ?_, q.inj, by rw [f5 6 (by decide)]; exact q.n6, q.rb, fun i hi => ?_, by rw [f5 0 (by decide)]; exact q.n0⟩
  · obtain ⟨w1, w2, w3, w4, w5, w6, w7, w8⟩ := q.w w hw
    rw [f4 2 (by omega) (by decide), f3 _ w3, f4 _ w3 (by omega)]
    exact ⟨w1, w2, by omega, w4, w5, w6, w7, w8⟩
  · obtain ⟨w1, w2, w3, -⟩ := q.w w hw
    rw [f4 _ w3 (by omega)]
    exact q.wx w hw
  · obtain ⟨w1, w2, w3, w4, w5⟩ := q.b i hi
    rw [f4 3 (by omega) (by decide), f3 _ w3, f4 _ w3 (by omega)]
    exact ⟨w1, w2, by omega, w4, w5⟩
set_option maxHeartbeats 1000000 in
theorem d_end {P R : Nat → Nat → Nat} {wid bid : Nat → Nat} {g : PL} {x n nb T H : Nat} {ls : List Ln} {Q : PL → Prop} (q : WB g R wid bid n nb T) (hp : g.1 ≤ 3000) (h16 : g.2.2 1 16 = nI x) (hx : x < 2000000) (hT : ST g.1 g x (flt ls)) (hl : (flt ls).length ≤ 268) (hr : Rds ls (clR P) R) (h1 : g.2.2 1 1 = nI H) (hT1 : 1 ≤ T) (hT2 : T < 1000) (hH : H < 1000) (fin : ∀ g' x', WB g' (lhR R T H) wid bid n nb T → g'.2.2 1 16 = nI x' → x' < 4000 → ST g'.1 g' x' (flt (ls ++ [lenL T, hanL H])) → Rds (ls ++ [lenL T, hanL H]) (clR P) (lhR R T H) → (flt (ls ++ [lenL T, hanL H])).length ≤ 290 → FT 10 g g' → Wp (bnd (fp_X11_layBlocks g' 1) (fun u => some u)) Q) : Wp (Jp_X11_init_549 1 0 g) Q := by
  have d := q.d
  have h12 := d.n
  have ls1 := dgs_l (n := T)
  have ls2 := dgs_l (n := H)
  obtain ⟨u10, v10, b10, s10, y10⟩ := sb_open (g := g) (by omega)
  have x10 : u10.2.2 1 16 = nI x := by rw [y10.h 1 (by omega)]; exact h16
  have A10 := y10.a
  have B10 := y10.b
  obtain ⟨u11, v11, b11, s11, y11⟩ := sb_str1 s10 (by omega) (hT.fr y10) (by simp only [List.length_nil]; omega)
  have A11 := y11.a
  have B11 := y11.b
  obtain ⟨u12, v12, b12, s12, y12⟩ := sb_str1 s11 (by omega) tlit8 (by simp only [List.length_append, List.length_cons, List.length_nil]; omega)
  have A12 := y12.a
  have B12 := y12.b
  obtain ⟨u13, v13, b13, s13, y13⟩ := sb_num1 (n := T) s12 (by omega) (by omega) (by simp only [List.length_append, List.length_cons, List.length_nil]; omega)
  have A13 := y13.a
  have B13 := y13.b
  obtain ⟨u14, v14, b14, s14, y14⟩ := sb_str1 s13 (by omega) tlit9 (by simp only [List.length_append, List.length_cons, List.length_nil]; omega)
  have A14 := y14.a
  have B14 := y14.b
  obtain ⟨u15, v15, b15, s15, y15⟩ := sb_num1 (n := H) s14 (by omega) (by omega) (by simp only [List.length_append, List.length_cons, List.length_nil]; omega)
  have A15 := y15.a
  have B15 := y15.b
  obtain ⟨u16, v16, b16, s16, y16⟩ := sb_str1 s15 (by omega) tlit2 (by simp only [List.length_append, List.length_cons, List.length_nil]; omega)
  have A16 := y16.a
  have B16 := y16.b
  obtain ⟨u17, b17, t17, y17, z17⟩ := sb_txt1 s16 (by omega) (by omega)
  have A17 := y17.a
  have B17 := y17.b
  have f12 : Fr g.1 4 g u12 := (y10.tr y11 (k := 3) (by omega)).tr y12 (by omega)
  have f14 : Fr g.1 6 g u14 := (f12.tr y13 (k := 5) (by omega)).tr y14 (by omega)
  have ff : Fr g.1 10 g u17 := ((f14.tr y15 (k := 7) (by omega)).tr y16 (k := 8) (by omega)).tr y17 (by omega)
  have k17 : u17.2.1 1 = (0, 0) := by rw [ff.s 1 (by omega)]; exact d.k1
  obtain ⟨TT, F⟩ := tx_put (by omega) k17 ff t17
  have R1 : ∀ {u : PL}, g.1 ≤ u.1 → rkb u 1 = true := fun h => rkb_i (by omega)
  have gb : ∀ {u : PL} {v : Nat} {bs : List Nat}, SB g.1 u g.1 v bs → gk u g.1 2 = true := fun s => gk_i s.o s.k
  have GD1 : ∀ {u : PL}, g.1 ≤ u.1 → (u.2.1 1 = g.2.1 1) → gk u 1 0 = true := fun h h2 => gk_i (by omega) (by rw [h2, d.k1])
  have e12 : u12.2.2 1 0 = nI T := by rw [f12.h 1 (by omega)]; exact q.n0
  have e14 : u14.2.2 1 1 = nI H := by rw [f14.h 1 (by omega)]; exact h1
  unfold Jp_X11_init_549
  rw [ck_of (R1 (Nat.le_refl _)), ck_of (ngw_i (by omega) (by omega)), stp_eq, ck_of (rkb_i (show 1 < g.1 + 1 by omega)), ck_of (rkb_i (show g.1 < g.1 + 1 by omega)), b10, bnd_some, ckn_of (by exact GD1 (u := u10) (by omega) (y10.s 1 (by omega))) x10 (by omega), ck_of (R1 (show g.1 ≤ u10.1 by omega)), ck_of (gb s10), b11, bnd_some]
  (try dsimp only)
  rw [ck_of (R1 (show g.1 ≤ u11.1 by omega)), ck_of (gb s11), b12, bnd_some]
  (try dsimp only)
  rw [ck_of (by exact GD1 (u := u12) (by omega) (f12.s 1 (by omega))), ck_of (R1 (show g.1 ≤ u12.1 by omega)), ck_of (gb s12), e12, b13, bnd_some]
  (try dsimp only)
  rw [ck_of (R1 (show g.1 ≤ u13.1 by omega)), ck_of (gb s13), b14, bnd_some]
  (try dsimp only)
  rw [ck_of (by exact GD1 (u := u14) (by omega) (f14.s 1 (by omega))), ck_of (R1 (show g.1 ≤ u14.1 by omega)), ck_of (gb s14), e14, b15, bnd_some]
  (try dsimp only)
  rw [ck_of (R1 (show g.1 ≤ u15.1 by omega)), ck_of (gb s15), b16, bnd_some]
  (try dsimp only)
  rw [ck_of (R1 (show g.1 ≤ u16.1 by omega)), ck_of (gb s16), b17, bnd_some]
  (try dsimp only)
  rw [ck_of (by rw [GD1 (u := u17) (by omega) (ff.s 1 (by omega)), rkb_i (show u16.1 < u17.1 by omega), lt31 (by omega)]; rfl), stp_eq, ck_of (by exact GD1 (u := u17) (by omega) (ff.s 1 (by omega)))]
  have et : flt (ls ++ [lenL T, hanL H]) = [] ++ flt ls ++ [108, 101, 110, 103, 116, 104, 32] ++ dgs T ++ [59, 104, 97, 110, 100, 108, 101, 32] ++ dgs H ++ [59] := by
    rw [flt_app]
    show flt ls ++ (lnB (lenL T) ++ (lnB (hanL H) ++ [])) = _
    simp [lnB, lenL, hanL, kL, kH]
  refine fin _ u16.1 (q.ft F (by have := F.2.1; omega)).lh (by rw [gu_h, up_ss]) (by omega) (by rw [et]; exact TT) (hr.app ⟨_, ⟨hT1, hT2, rfl⟩, _, ⟨hH, rfl⟩, rfl⟩) ?_ F
  rw [et]
  simp only [List.length_append, List.length_cons, List.length_nil]
  omega
