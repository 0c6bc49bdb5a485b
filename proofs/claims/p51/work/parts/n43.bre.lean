/-! one breath, drawn -/
/-- words, breaths and the end of the recording as they lie in the pool -/
def WB (g : PL) (R : Nat → Nat → Nat) (wid : Nat → Nat) (bid : Nat → Nat) (n : Nat) (nb : Nat) (T : Nat) : Prop :=
  (DK g) ∧
  (WO g R wid n) ∧
  (g.2.2 1 5 = nI n) ∧
  (R 0 4 = n) ∧
  (∀ w, w < n → g.2.2 (wid w) 3 = nI (R 5 w) ∧ R 5 w ≤ T ∧ R 4 w < R 5 w) ∧
  (∀ w v, w < n → v < n → wid w = wid v → w = v) ∧
  (g.2.2 1 6 = nI nb) ∧
  (R 0 10 = nb) ∧
  (∀ i, i < nb → g.2.2 3 i = nI (bid i) ∧ 12 ≤ bid i ∧ bid i < g.1 ∧ g.2.1 (bid i) = (4, 2) ∧ g.2.2 (bid i) 0 = nI (R 7 i) ∧ g.2.2 (bid i) 1 = nI (R 8 i) ∧ R 7 i < 1000 ∧ R 8 i < 1000) ∧
  (g.2.2 1 0 = nI T)
theorem WB.d {g : PL} {R : Nat → Nat → Nat} {wid : Nat → Nat} {bid : Nat → Nat} {n : Nat} {nb : Nat} {T : Nat} (q : WB g R wid bid n nb T) : DK g := q.1
theorem WB.w {g : PL} {R : Nat → Nat → Nat} {wid : Nat → Nat} {bid : Nat → Nat} {n : Nat} {nb : Nat} {T : Nat} (q : WB g R wid bid n nb T) : WO g R wid n := q.2.1
theorem WB.n5 {g : PL} {R : Nat → Nat → Nat} {wid : Nat → Nat} {bid : Nat → Nat} {n : Nat} {nb : Nat} {T : Nat} (q : WB g R wid bid n nb T) : g.2.2 1 5 = nI n := q.2.2.1
theorem WB.rn {g : PL} {R : Nat → Nat → Nat} {wid : Nat → Nat} {bid : Nat → Nat} {n : Nat} {nb : Nat} {T : Nat} (q : WB g R wid bid n nb T) : R 0 4 = n := q.2.2.2.1
theorem WB.wx {g : PL} {R : Nat → Nat → Nat} {wid : Nat → Nat} {bid : Nat → Nat} {n : Nat} {nb : Nat} {T : Nat} (q : WB g R wid bid n nb T) : ∀ w, w < n → g.2.2 (wid w) 3 = nI (R 5 w) ∧ R 5 w ≤ T ∧ R 4 w < R 5 w := q.2.2.2.2.1
theorem WB.inj {g : PL} {R : Nat → Nat → Nat} {wid : Nat → Nat} {bid : Nat → Nat} {n : Nat} {nb : Nat} {T : Nat} (q : WB g R wid bid n nb T) : ∀ w v, w < n → v < n → wid w = wid v → w = v := q.2.2.2.2.2.1
theorem WB.n6 {g : PL} {R : Nat → Nat → Nat} {wid : Nat → Nat} {bid : Nat → Nat} {n : Nat} {nb : Nat} {T : Nat} (q : WB g R wid bid n nb T) : g.2.2 1 6 = nI nb := q.2.2.2.2.2.2.1
theorem WB.rb {g : PL} {R : Nat → Nat → Nat} {wid : Nat → Nat} {bid : Nat → Nat} {n : Nat} {nb : Nat} {T : Nat} (q : WB g R wid bid n nb T) : R 0 10 = nb := q.2.2.2.2.2.2.2.1
theorem WB.b {g : PL} {R : Nat → Nat → Nat} {wid : Nat → Nat} {bid : Nat → Nat} {n : Nat} {nb : Nat} {T : Nat} (q : WB g R wid bid n nb T) : ∀ i, i < nb → g.2.2 3 i = nI (bid i) ∧ 12 ≤ bid i ∧ bid i < g.1 ∧ g.2.1 (bid i) = (4, 2) ∧ g.2.2 (bid i) 0 = nI (R 7 i) ∧ g.2.2 (bid i) 1 = nI (R 8 i) ∧ R 7 i < 1000 ∧ R 8 i < 1000 := q.2.2.2.2.2.2.2.2.1
theorem WB.n0 {g : PL} {R : Nat → Nat → Nat} {wid : Nat → Nat} {bid : Nat → Nat} {n : Nat} {nb : Nat} {T : Nat} (q : WB g R wid bid n nb T) : g.2.2 1 0 = nI T := q.2.2.2.2.2.2.2.2.2
theorem br_0 {R : Nat → Nat → Nat} {a b o j : Nat} (h7 : ¬ o = 7) (h8 : ¬ o = 8) (h : ¬ (o = 0 ∧ j = 10)) : breR R a b o j = R o j := by
  unfold breR
  by_cases e : o = 0
  · rw [setE_n (fun y => h ⟨e, y⟩), setE_o h8, setE_o h7]
  · rw [setE_o e, setE_o h8, setE_o h7]
theorem br_n {R : Nat → Nat → Nat} {a b : Nat} : breR R a b 0 10 = R 0 10 + 1 := setE_s _ _ _ _
theorem br_7 {R : Nat → Nat → Nat} {a b j : Nat} : breR R a b 7 j = if j = R 0 10 then a else R 7 j := by
  unfold breR
  rw [setE_o (by decide), setE_o (by decide)]
  by_cases e : j = R 0 10
  · rw [if_pos e, e, setE_s]
  · rw [if_neg e, setE_n e]
theorem br_8 {R : Nat → Nat → Nat} {a b j : Nat} : breR R a b 8 j = if j = R 0 10 then b else R 8 j := by
  unfold breR
  rw [setE_o (by decide)]
  by_cases e : j = R 0 10
  · rw [if_pos e, e, setE_s]
  · rw [if_neg e, setE_n e, setE_o (by decide)]
theorem in2 {u : PL} {p : Nat} (h1 : p < u.1) (h2 : u.2.1 p = (4, 2)) {i : Int32} (hi : inb i 2 = true) : (gk u p 4 && inb i (gl u p)) = true := by
  have e : gl u p = 2 := by show (u.2.1 p).2 = 2; rw [h2]
  rw [gk_i h1 (by rw [h2]), e, hi]
  rfl
set_option maxHeartbeats 2000000 in
theorem d_bre {g : PL} {R : Nat → Nat → Nat} {wid bid : Nat → Nat} {n nb T L m k x : Nat} {ts : List Nat} (q : WB g R wid bid n nb T) (hp : g.1 ≤ 500000) (hnb : nb < 12) (hL : L ≤ 900) (hk : k + 11 ≤ 361) (h16 : g.2.2 1 16 = nI x) (hx : x < 2000000) (hT : ST g.1 g x ts) (hl : ts.length ≤ 270) (hm : m < 100) (r : Int32 × PL × Nat → Option PL) : ∃ s b g' x' bid', Fp_X11_init_432 1 0 (nI L) r (nI (m + 1), g, k) = r (nI m, g', k + 11) ∧ s < b ∧ b < 1000 ∧ WB g' (breR R s b) wid bid' n (nb + 1) T ∧ g'.2.2 1 16 = nI x' ∧ x' < 2000000 ∧ ST g'.1 g' x' (ts ++ lnB (breL s b)) ∧ g'.1 ≤ g.1 + 11 ∧ g.1 ≤ g'.1 ∧ (∀ j, ¬ j = 6 → ¬ j = 16 → g'.2.2 1 j = g.2.2 1 j) ∧ ∀ o, 4 ≤ o → o < 12 → g'.2.2 o = g.2.2 o ∧ g'.2.1 o = g.2.1 o := by
  have d := q.d
  have h12 := d.n
  have hR := q.rb
  obtain ⟨s, g1, e1, hs, w1⟩ := d.dr (c := nI (L + 1)) rfl (by omega) (by omega)
  have d1 := w1.dk d
  have n1 : g1.1 = g.1 := w1.1
  have K0 : (gu (gnew g1 4 2 (fun _ => 0)) g1.1 0 (nI s)).2.1 g1.1 = (4, 2) := nw_k (g := g1) (kd := 4) (n := 2) (f := fun _ => 0)
  have K1 : ∀ o, o < g.1 → (gu (gnew g1 4 2 (fun _ => 0)) g1.1 0 (nI s)).2.1 o = g.2.1 o := fun o ho => by
    show (gnew g1 4 2 (fun _ => 0)).2.1 o = _
    rw [nw_ko (by omega), w1.2.1]
  have K2 : ∀ o, o < g.1 → ¬ o = 0 → (gu (gnew g1 4 2 (fun _ => 0)) g1.1 0 (nI s)).2.2 o = g.2.2 o := fun o ho h => by
    rw [gu_h, up_o (by omega), nw_ho (by omega), w1.2.2 o h]
  obtain ⟨e, g4, e4, he, w4⟩ := dr1 (g := gu (gnew g1 4 2 (fun _ => 0)) g1.1 0 (nI s)) (c := 6) (n := 6) (by show 0 < g1.1 + 1; omega) (by rw [K1 0 (by omega)]; exact d.k0) rfl (by decide) (by decide)
  have n4 : g4.1 = g.1 + 1 := by rw [w4.1]; show g1.1 + 1 = _; omega
  have k4p : g4.2.1 g1.1 = (4, 2) := by rw [w4.2.1]; exact K0
  have k4o : ∀ o, o < g.1 → g4.2.1 o = g.2.1 o := fun o ho => by rw [w4.2.1, K1 o ho]
  obtain ⟨b, eb⟩ : ∃ b, b = s + 1 + e := ⟨_, rfl⟩
  obtain ⟨u5, hu5⟩ : ∃ u, u = gu (gu g4 g1.1 1 (nI b)) 3 nb (nI g1.1) := ⟨_, rfl⟩
  have n5 : u5.1 = g.1 + 1 := by rw [hu5]; exact n4
  have k5 : u5.2.1 = g4.2.1 := by rw [hu5]; rfl
  have k5o : ∀ o, o < g.1 → u5.2.1 o = g.2.1 o := fun o ho => by rw [k5, k4o o ho]
  have k5p : u5.2.1 g1.1 = (4, 2) := by rw [k5]; exact k4p
  have v5 : ∀ o, o < g.1 → ¬ o = 0 → ¬ o = 3 → u5.2.2 o = g.2.2 o := fun o ho h h3 => by
    rw [hu5, gu_h, up_o h3, gu_h, up_o (by omega), w4.2.2 o h, K2 o ho h]
  have r5 : ∀ j, u5.2.2 3 j = if j = nb then nI g1.1 else g.2.2 3 j := fun j => by
    rw [hu5, gu_h]
    by_cases z : j = nb
    · rw [if_pos z, z, up_ss]
    · rw [if_neg z, up_sn z, gu_h, up_o (by omega), w4.2.2 3 (by decide), K2 3 (by omega) (by decide)]
  have p0 : u5.2.2 g1.1 0 = nI s := by
    rw [hu5, gu_h, up_o (by omega), gu_h, up_sn (by decide), w4.2.2 _ (by omega), gu_h, up_ss]
  have p1 : u5.2.2 g1.1 1 = nI b := by
    rw [hu5, gu_h, up_o (by omega), gu_h, up_ss]
  have T5 : ST u5.1 u5 x ts := hT.cg (by omega) (by omega) k5o (fun o ho h => by
    have z0 : ¬ o = 0 := fun z => by rw [z, d.k0] at h; revert h; decide
    have z3 : ¬ o = 3 := fun z => by rw [z, d.k3] at h; revert h; decide
    exact v5 o ho z0 z3)
  have ls := dgs_l (n := s)
  have le := dgs_l (n := b)
  obtain ⟨u10, v10, b10, s10, y10⟩ := sb_open (g := u5) (by omega)
  have x10 : u10.2.2 1 16 = nI x := by rw [y10.h 1 (by omega), v5 1 (by omega) (by decide) (by decide)]; exact h16
  have A10 := y10.a
  have B10 := y10.b
  obtain ⟨u11, v11, b11, s11, y11⟩ := sb_str1 s10 (by omega) (T5.fr y10) (by simp only [List.length_append, List.length_cons, List.length_nil]; omega)
  have A11 := y11.a
  have B11 := y11.b
  obtain ⟨u12, v12, b12, s12, y12⟩ := sb_str1 s11 (by omega) tlit7 (by simp only [List.length_append, List.length_cons, List.length_nil]; omega)
  have A12 := y12.a
  have B12 := y12.b
  obtain ⟨u13, v13, b13, s13, y13⟩ := sb_num1 (n := s) s12 (by omega) (by omega) (by simp only [List.length_append, List.length_cons, List.length_nil]; omega)
  have A13 := y13.a
  have B13 := y13.b
  obtain ⟨u14, v14, b14, s14, y14⟩ := sb_str1 s13 (by omega) tlit6 (by simp only [List.length_append, List.length_cons, List.length_nil]; omega)
  have A14 := y14.a
  have B14 := y14.b
  obtain ⟨u15, v15, b15, s15, y15⟩ := sb_num1 (n := b) s14 (by omega) (by omega) (by simp only [List.length_append, List.length_cons, List.length_nil]; omega)
  have A15 := y15.a
  have B15 := y15.b
  obtain ⟨u16, v16, b16, s16, y16⟩ := sb_str1 s15 (by omega) tlit2 (by simp only [List.length_append, List.length_cons, List.length_nil]; omega)
  have A16 := y16.a
  have B16 := y16.b
  obtain ⟨u17, b17, t17, y17, z17⟩ := sb_txt1 s16 (by omega) (by omega)
  have A17 := y17.a
  have B17 := y17.b
  have y14' : Fr u5.1 6 u5 u14 := (((y10.tr y11 (k := 3) (by omega)).tr y12 (k := 4) (by omega)).tr y13 (k := 5) (by omega)).tr y14 (by omega)
  have ff : Fr u5.1 10 u5 u17 := ((y14'.tr y15 (k := 7) (by omega)).tr y16 (k := 8) (by omega)).tr y17 (by omega)
  have k17 : u17.2.1 1 = (0, 0) := by rw [ff.s 1 (by omega), k5o 1 (by omega)]; exact d.k1
  obtain ⟨TT, F⟩ := tx_put (by omega) k17 ff t17
  have RK : ∀ {u : PL}, g.1 ≤ u.1 → rkb u 1 = true ∧ rkb u 0 = true := fun h => ⟨rkb_i (by omega), rkb_i (by omega)⟩
  have gb : ∀ {u : PL} {v : Nat} {bs : List Nat}, SB u5.1 u u5.1 v bs → gk u u5.1 2 = true := fun s => gk_i s.o s.k
  have dk : ∀ m, m ≤ 361 → decide (m ≤ 361) = true := fun m h => decide_eq_true h
  have GD1 : ∀ {u : PL}, g.1 ≤ u.1 → (u.2.1 1 = g.2.1 1) → gk u 1 0 = true := fun h h2 => gk_i (by omega) (by rw [h2, d.k1])
  have i0 : ix (0 : Int32) = 0 := ix_n (a := 0) (by decide)
  have i1 : ix (1 : Int32) = 1 := ix_n (a := 1) (by decide)
  have i2 : ix (2 : Int32) = 2 := ix_n (a := 2) (by decide)
  have F1 := F.1
  have F2 := F.2.1
  have F3 := F.2.2.1
  have F4 := F.2.2.2.1
  have F5 := F.2.2.2.2
  have g16 : g1.2.2 1 6 = nI nb := by rw [w1.2.2 1 (by decide)]; exact q.n6
  have g14 : u14.2.2 1 6 = nI nb := by rw [y14'.h 1 (by omega), v5 1 (by omega) (by decide) (by decide)]; exact q.n6
  have f14 : u14.2.2 1 4 = nI 3 := by rw [y14'.h 1 (by omega), v5 1 (by omega) (by decide) (by decide)]; exact d.f4
  have r14 : u14.2.2 3 nb = nI g1.1 := by rw [y14'.h 3 (by omega), r5, if_pos rfl]
  have p14 : u14.2.2 g1.1 1 = nI b := by rw [y14'.h _ (by omega)]; exact p1
  have k14 : u14.2.1 g1.1 = (4, 2) := by rw [y14'.s _ (by omega)]; exact k5p
  have k14' : ∀ o, o < g.1 → u14.2.1 o = g.2.1 o := fun o ho => by rw [y14'.s o (by omega), k5o o ho]
  have in3 : ∀ {u : PL}, g.1 ≤ u.1 → u.2.1 3 = g.2.1 3 → (gk u 3 7 && inb (nI nb) (gl u 3)) = true := fun {u} h h2 => by
    have e : gl u 3 = 12 := by show (u.2.1 3).2 = 12; rw [h2, d.k3]
    rw [gk_i (by omega) (by rw [h2, d.k3]), e, inb_t hnb (by omega)]
    rfl
  refine ⟨s, b, gu (gu u17 1 16 (nI u16.1)) 1 6 (nI (nb + 1)), u16.1, fun i => if i = nb then g1.1 else bid i, ?_, by omega, by omega, ?_, by rw [gu_h, up_sn (by decide), gu_h, up_ss], by omega, ?_, by show u17.1 ≤ _; omega, by show _ ≤ u17.1; omega, fun j h5 h6 => ?_, fun o ho1 ho2 => ?_⟩
  · unfold Fp_X11_init_432
    (try dsimp only)
    rw [i0, i1, i2]
    rw [if_neg (show ¬ nI (m + 1) ≤ 0 from fun y => by have := (nI_leI (a := m + 1) (b := 0) (by omega) (by omega)).mp y; omega), ck_of d.g0, show nI L + (1 : Int32) = nI (L + 1) from nI_add L 1, e1, bnd_some, ck_of (decide_eq_true w1.1)]
    (try dsimp only)
    rw [g16, ckn_of d1.g1 d1.f4 (by omega), ck_of d1.g1, ck_of (RK (Nat.le_of_eq n1.symm)).1, ck_of (RK (Nat.le_of_eq n1.symm)).2, ck_of (rkb_i (show 3 < g1.1 by omega)), ck_of (dk _ (by omega)), ck_of (by rw [ngw_i (by omega) (by decide)]; rfl), stp_eq, ck_of (by exact in2 (u := gnew g1 4 2 (fun _ => 0)) (Nat.lt_succ_self _) K0 (by decide)), stp_eq, ck_of (by exact gk_i (by show 0 < g1.1 + 1; omega) (by rw [K1 0 (by omega), d.k0])), e4, bnd_some, ck_of (decide_eq_true w4.1)]
    (try dsimp only)
    rw [ck_of (by exact in2 (u := g4) (by omega) k4p (by decide)), show nI s + (1 : Int32) + nI e = nI b from by rw [show nI s + (1 : Int32) = nI (s + 1) from nI_add s 1, nI_add, eb], stp_eq, ck_of (by rw [show (gk (gu g4 g1.1 1 (nI b)) 3 7 && inb (nI nb) (gl (gu g4 g1.1 1 (nI b)) 3)) = true from in3 (u := g4) (by omega) (k4o 3 (by omega)), show gk (gu g4 g1.1 1 (nI b)) g1.1 4 = true from gk_i (g := g4) (by omega) (by rw [k4p])]; rfl), ix_n (show nb < 2147483648 by omega), ← hu5, stp_eq, ck_of (RK (show g.1 ≤ u5.1 by omega)).1, ck_of (RK (show g.1 ≤ u5.1 by omega)).2, ck_of (dk _ (by omega)), ck_of (ngw_i (by omega) (by omega)), stp_eq, ck_of (rkb_i (show 1 < u5.1 + 1 by omega)), ck_of (rkb_i (show 0 < u5.1 + 1 by omega)), ck_of (rkb_i (show u5.1 < u5.1 + 1 by omega)), ck_of (dk _ (by omega)), b10, bnd_some, ckn_of (by exact GD1 (u := u10) (by omega) (by rw [y10.s 1 (by omega), k5o 1 (by omega)])) x10 (by omega)]
    (try dsimp only)
    rw [ck_of (RK (show g.1 ≤ u10.1 by omega)).1, ck_of (RK (show g.1 ≤ u10.1 by omega)).2, ck_of (dk _ (by omega)), ck_of (gb s10), b11, bnd_some]
    (try dsimp only)
    rw [ck_of (RK (show g.1 ≤ u11.1 by omega)).1, ck_of (RK (show g.1 ≤ u11.1 by omega)).2, ck_of (dk _ (by omega)), ck_of (gb s11), b12, bnd_some]
    (try dsimp only)
    rw [ck_of (RK (show g.1 ≤ u12.1 by omega)).1, ck_of (RK (show g.1 ≤ u12.1 by omega)).2, ck_of (dk _ (by omega)), ck_of (gb s12), b13, bnd_some]
    (try dsimp only)
    rw [ck_of (RK (show g.1 ≤ u13.1 by omega)).1, ck_of (RK (show g.1 ≤ u13.1 by omega)).2, ck_of (dk _ (by omega)), ck_of (gb s13), b14, bnd_some]
    (try dsimp only)
    rw [ckn_of (by exact GD1 (u := u14) (by omega) (k14' 1 (by omega))) f14 (by omega), ck_of (by exact GD1 (u := u14) (by omega) (k14' 1 (by omega))), g14, ix_n (show nb < 2147483648 by omega), ckn_of (by exact in3 (by omega) (k14' 3 (by omega))) r14 (by omega), ck_of (by exact in2 (by omega) k14 (by decide)), p14]
    rw [ck_of (RK (show g.1 ≤ u14.1 by omega)).1, ck_of (RK (show g.1 ≤ u14.1 by omega)).2, ck_of (dk _ (by omega)), ck_of (gb s14), b15, bnd_some]
    (try dsimp only)
    rw [ck_of (RK (show g.1 ≤ u15.1 by omega)).1, ck_of (RK (show g.1 ≤ u15.1 by omega)).2, ck_of (dk _ (by omega)), ck_of (gb s15), b16, bnd_some]
    (try dsimp only)
    rw [ck_of (RK (show g.1 ≤ u16.1 by omega)).1, ck_of (RK (show g.1 ≤ u16.1 by omega)).2, ck_of (dk _ (by omega)), ck_of (gb s16), b17, bnd_some, ck_of (by rw [GD1 (u := u17) (by omega) (by rw [ff.s 1 (by omega), k5o 1 (by omega)]), rkb_i (show u16.1 < u17.1 by omega), lt31 (by omega)]; rfl), stp_eq]
    dsimp only
    have gz : gk (gu u17 1 16 (nI u16.1)) 1 0 = true := GD1 (u := u17) (by omega) (by rw [ff.s 1 (by omega), k5o 1 (by omega)])
    have ez : (gu u17 1 16 (nI u16.1)).2.2 1 6 = nI nb := by rw [F5 6 (by decide), v5 1 (by omega) (by decide) (by decide)]; exact q.n6
    rw [ck_of gz, ck_of gz, ez, show nI nb + (1 : Int32) = nI (nb + 1) from nI_add nb 1, stp_eq, m1_n (by omega), stp_eq, ck_of (dk _ (by omega))]
    rfl
  · have V : ∀ o, o < g.1 → ¬ o = 0 → ¬ o = 1 → ¬ o = 3 → (gu (gu u17 1 16 (nI u16.1)) 1 6 (nI (nb + 1))).2.2 o = g.2.2 o := fun o ho a0 a1 a3 => by rw [gu_h, up_o a1, F4 o (by omega) a1, v5 o ho a0 a3]
    have K : ∀ o, o < g.1 → (gu (gu u17 1 16 (nI u16.1)) 1 6 (nI (nb + 1))).2.1 o = g.2.1 o := fun o ho => by
      show u17.2.1 o = _
      rw [ff.s o (by omega), k5o o ho]
    have J : ∀ j, ¬ j = 6 → ¬ j = 16 → (gu (gu u17 1 16 (nI u16.1)) 1 6 (nI (nb + 1))).2.2 1 j = g.2.2 1 j := fun j a b => by rw [gu_h, up_sn a, F5 j b, v5 1 (by omega) (by decide) (by decide)]
    have N : g.1 ≤ (gu (gu u17 1 16 (nI u16.1)) 1 6 (nI (nb + 1))).1 ∧ (gu (gu u17 1 16 (nI u16.1)) 1 6 (nI (nb + 1))).1 ≤ 600000 ∧ g1.1 < (gu (gu u17 1 16 (nI u16.1)) 1 6 (nI (nb + 1))).1 := by
      show g.1 ≤ u17.1 ∧ u17.1 ≤ 600000 ∧ g1.1 < u17.1
      omega
    have PP : (gu (gu u17 1 16 (nI u16.1)) 1 6 (nI (nb + 1))).2.2 g1.1 = u5.2.2 g1.1 := by rw [gu_h, up_o (by omega), F4 _ (by omega) (by omega)]
    have KP : (gu (gu u17 1 16 (nI u16.1)) 1 6 (nI (nb + 1))).2.1 g1.1 = (4, 2) := by
      show u17.2.1 g1.1 = _
      rw [ff.s _ (by omega)]
      exact k5p
    have RR : ∀ j, (gu (gu u17 1 16 (nI u16.1)) 1 6 (nI (nb + 1))).2.2 3 j = if j = nb then nI g1.1 else g.2.2 3 j := fun j => by rw [gu_h, up_o (by decide), F4 3 (by omega) (by decide), r5]
    have N6 : (gu (gu u17 1 16 (nI u16.1)) 1 6 (nI (nb + 1))).2.2 1 6 = nI (nb + 1) := by rw [gu_h, up_ss]
    generalize gu (gu u17 1 16 (nI u16.1)) 1 6 (nI (nb + 1)) = G at *
    refine ⟨d.cg N.1 N.2.1 K (fun j a1 a2 a3 a4 a5 a6 => J j a3 a6), fun w hw => ?_, by rw [J 5 (by decide) (by decide)]; exact q.n5, by rw [br_0 (by decide) (by decide) (by decide)]; exact q.rn, fun w hw => ?_, q.inj, N6, by rw [br_n, hR], fun i hi => ?_, by rw [J 0 (by decide) (by decide)]; exact q.n0⟩
    · obtain ⟨w1, w2, w3, w4, w5, w6, w7, w8⟩ := q.w w hw
      rw [br_0 (by decide) (by decide) (by omega), br_0 (by decide) (by decide) (by omega), V 2 (by omega) (by decide) (by decide) (by decide), K _ w3, V _ w3 (by omega) (by omega) (by omega)]
      exact ⟨w1, w2, by omega, w4, w5, w6, w7, w8⟩
    · obtain ⟨w1, w2, w3, -⟩ := q.w w hw
      rw [br_0 (by decide) (by decide) (by omega), br_0 (by decide) (by decide) (by omega), V _ w3 (by omega) (by omega) (by omega)]
      exact q.wx w hw
    · rw [br_7, br_8, hR]
      dsimp only
      by_cases z : i = nb
      · rw [if_pos z, if_pos z, if_pos z, RR, if_pos z, PP, p0, p1]
        exact ⟨rfl, by omega, N.2.2, KP, rfl, rfl, by omega, by omega⟩
      · obtain ⟨w1, w2, w3, w4, w5⟩ := q.b i (by omega)
        rw [if_neg z, if_neg z, if_neg z, RR, if_neg z, K _ w3, V _ w3 (by omega) (by omega) (by omega)]
        exact ⟨w1, w2, by omega, w4, w5⟩
  · have e : ts ++ lnB (breL s b) = [] ++ ts ++ [98, 114, 101, 97, 116, 104, 32] ++ dgs s ++ [32] ++ dgs b ++ [59] := by
      show ts ++ _ = _
      simp [lnB, breL, kB]
    rw [e]
    rcases TT with s | ⟨w, s1, s2, s3, s4, s5, s6, s7, s8, s9⟩
    · exact Or.inl s
    · have hx1 : ¬ u16.1 = 1 := by omega
      have hw1 : ¬ w = 1 := fun e => by
        rw [e] at s8
        have : (u17.2.1 1) = _ := s8
        rw [k17] at this
        cases this
      exact Or.inr ⟨w, s1, s2, s3, s4, s5, by rw [gu_h, up_o hx1]; exact s6, by rw [gu_h, up_o hx1]; exact s7, s8, fun i hi => by rw [gu_h, up_o hw1]; exact s9 i hi⟩
  · rw [gu_h, up_sn h5, F5 j h6, v5 1 (by omega) (by decide) (by decide)]
  · refine ⟨by rw [gu_h, up_o (by omega), F4 o (by omega) (by omega), v5 o (by omega) (by omega) (by omega)], ?_⟩
    show u17.2.1 o = _
    rw [ff.s o (by omega), k5o o (by omega)]
