/-! the constructor of the recording that the law draws -/
theorem ct_step {g : PL} {kd n j : Nat} {c : Int32} {f : Nat → Int32} {K : PL → Option PL} (h0 : 2 ≤ g.1) (hp : g.1 ≤ 500000) (k1 : g.2.1 1 = (0, 0)) (hc : c = nI n) (hn : n ≤ 600) : ck (rkb g 1) (ck (rkb g 0) (ck (decide (0 ≤ c) && ngw g (ix c)) (stp (gnew g kd (ix c) f) (fun g1 => ck (gk g1 1 0 && (rkb g1 g.1 && decide (g.1 < 2147483648))) (stp (gu g1 1 j (nI g.1)) K))))) = K (gu (gnew g kd n f) 1 j (nI g.1)) := by
  subst hc
  rw [ck_of (rkb_i (show 1 < g.1 by omega)), ck_of (rkb_i (show 0 < g.1 by omega)), ix_n (by omega), ck_of (by rw [ngw_i (by omega) hn, decide_eq_true (nI_pos' (by omega))]; rfl), stp_eq, ck_of (by rw [show gk (gnew g kd n f) 1 0 = true from gk_i (by show 1 < g.1 + 1; omega) (by rw [nw_ko (by omega), k1]), rkb_i (show g.1 < (gnew g kd n f).1 from Nat.lt_succ_self _), lt31 (by omega)]; rfl), stp_eq]
theorem d_init {P : Nat → Nat → Nat} {v : Int32} {Q : PL → Prop} (fin : ∀ g' x' R' ls' wid bid n nb T H, 3 ≤ n → n ≤ 10 → H < 1000 → WB g' R' wid bid n nb T → R' 0 0 = T → T < 1000 → R' 0 1 = H → nb ≤ 3 → g'.2.2 1 16 = nI x' → x' < 4000 → ST g'.1 g' x' (flt ls') → Rds ls' (clR P) R' → (flt ls').length ≤ 290 → ls'.length ≤ 18 → g'.1 ≤ 1600 → g'.2.2 1 1 = nI H → g'.2.2 1 7 = nI 0 → (∀ o, 4 ≤ o → o < 12 → g'.2.2 o = fun _ => 0) → g'.2.1 11 = (4, 0) → g'.2.2 1 15 = nI 11 → Wp (bnd (fp_X11_layBlocks g' 1) (fun u => some u)) Q) : Wp (fp_X11_init (gnew (gD v) 0 0 (dfl 0)) 1 0) Q := by
  obtain ⟨S0, hS0⟩ : ∃ s, s = gnew (gD v) 0 0 (dfl 0) := ⟨_, rfl⟩
  have n0 : S0.1 = 2 := by rw [hS0]; rfl
  have k0 : S0.2.1 1 = (0, 0) := by rw [hS0]; rfl
  obtain ⟨S1, hS1⟩ : ∃ s, s = gu (gnew S0 7 40 (fun _ => -1)) 1 3 (nI S0.1) := ⟨_, rfl⟩
  have n1 : S1.1 = 3 := by rw [hS1]; show S0.1 + 1 = 3; omega
  have k1 : S1.2.1 1 = (0, 0) := by rw [hS1]; show (gnew S0 7 40 (fun _ => -1)).2.1 1 = _; rw [nw_ko (by omega)]; exact k0
  obtain ⟨S2, hS2⟩ : ∃ s, s = gu (gnew S1 7 12 (fun _ => -1)) 1 4 (nI S1.1) := ⟨_, rfl⟩
  have n2 : S2.1 = 4 := by rw [hS2]; show S1.1 + 1 = 4; omega
  have k2 : S2.2.1 1 = (0, 0) := by rw [hS2]; show (gnew S1 7 12 (fun _ => -1)).2.1 1 = _; rw [nw_ko (by omega)]; exact k1
  obtain ⟨S3, hS3⟩ : ∃ s, s = gu (gnew S2 4 41 (fun _ => 0)) 1 8 (nI S2.1) := ⟨_, rfl⟩
  have n3 : S3.1 = 5 := by rw [hS3]; show S2.1 + 1 = 5; omega
  have k3 : S3.2.1 1 = (0, 0) := by rw [hS3]; show (gnew S2 4 41 (fun _ => 0)).2.1 1 = _; rw [nw_ko (by omega)]; exact k2
  obtain ⟨S4, hS4⟩ : ∃ s, s = gu (gnew S3 4 41 (fun _ => 0)) 1 9 (nI S3.1) := ⟨_, rfl⟩
  have n4 : S4.1 = 6 := by rw [hS4]; show S3.1 + 1 = 6; omega
  have k4 : S4.2.1 1 = (0, 0) := by rw [hS4]; show (gnew S3 4 41 (fun _ => 0)).2.1 1 = _; rw [nw_ko (by omega)]; exact k3
  obtain ⟨S5, hS5⟩ : ∃ s, s = gu (gnew S4 4 41 (fun _ => 0)) 1 10 (nI S4.1) := ⟨_, rfl⟩
  have n5 : S5.1 = 7 := by rw [hS5]; show S4.1 + 1 = 7; omega
  have k5 : S5.2.1 1 = (0, 0) := by rw [hS5]; show (gnew S4 4 41 (fun _ => 0)).2.1 1 = _; rw [nw_ko (by omega)]; exact k4
  obtain ⟨S6, hS6⟩ : ∃ s, s = gu (gnew S5 4 41 (fun _ => 0)) 1 11 (nI S5.1) := ⟨_, rfl⟩
  have n6 : S6.1 = 8 := by rw [hS6]; show S5.1 + 1 = 8; omega
  have k6 : S6.2.1 1 = (0, 0) := by rw [hS6]; show (gnew S5 4 41 (fun _ => 0)).2.1 1 = _; rw [nw_ko (by omega)]; exact k5
  obtain ⟨S7, hS7⟩ : ∃ s, s = gu (gnew S6 4 41 (fun _ => 0)) 1 12 (nI S6.1) := ⟨_, rfl⟩
  have n7 : S7.1 = 9 := by rw [hS7]; show S6.1 + 1 = 9; omega
  have k7 : S7.2.1 1 = (0, 0) := by rw [hS7]; show (gnew S6 4 41 (fun _ => 0)).2.1 1 = _; rw [nw_ko (by omega)]; exact k6
  obtain ⟨S8, hS8⟩ : ∃ s, s = gu (gnew S7 4 41 (fun _ => 0)) 1 13 (nI S7.1) := ⟨_, rfl⟩
  have n8 : S8.1 = 10 := by rw [hS8]; show S7.1 + 1 = 10; omega
  have k8 : S8.2.1 1 = (0, 0) := by rw [hS8]; show (gnew S7 4 41 (fun _ => 0)).2.1 1 = _; rw [nw_ko (by omega)]; exact k7
  obtain ⟨S9, hS9⟩ : ∃ s, s = gu (gnew S8 5 40 (fun _ => 0)) 1 14 (nI S8.1) := ⟨_, rfl⟩
  have n9 : S9.1 = 11 := by rw [hS9]; show S8.1 + 1 = 11; omega
  have k9 : S9.2.1 1 = (0, 0) := by rw [hS9]; show (gnew S8 5 40 (fun _ => 0)).2.1 1 = _; rw [nw_ko (by omega)]; exact k8
  obtain ⟨S10, hS10⟩ : ∃ s, s = gu (gnew S9 4 0 (fun _ => 0)) 1 15 (nI S9.1) := ⟨_, rfl⟩
  have n10 : S10.1 = 12 := by rw [hS10]; show S9.1 + 1 = 12; omega
  have k10 : S10.2.1 1 = (0, 0) := by rw [hS10]; show (gnew S9 4 0 (fun _ => 0)).2.1 1 = _; rw [nw_ko (by omega)]; exact k9
  obtain ⟨S11, hS11⟩ : ∃ s, s = gu S10 1 16 (nI 1000000) := ⟨_, rfl⟩
  have n11 : S11.1 = 12 := by rw [hS11]; exact n10
  have k11 : S11.2.1 1 = (0, 0) := by rw [hS11]; exact k10
  have FA : S11.2.1 0 = (1, 0) ∧ S11.2.1 2 = (7, 40) ∧ S11.2.1 3 = (7, 12) ∧ S11.2.1 4 = (4, 41) ∧ S11.2.1 5 = (4, 41) ∧ S11.2.1 6 = (4, 41) ∧ S11.2.1 7 = (4, 41) ∧ S11.2.1 8 = (4, 41) ∧ S11.2.1 9 = (4, 41) ∧ S11.2.1 10 = (5, 40) ∧ S11.2.1 11 = (4, 0) := by
    rw [hS11]
    subst hS10 hS9 hS8 hS7 hS6 hS5 hS4 hS3 hS2 hS1 hS0
    exact ⟨rfl, rfl, rfl, rfl, rfl, rfl, rfl, rfl, rfl, rfl, rfl⟩
  have FB : S11.2.2 1 3 = nI 2 ∧ S11.2.2 1 4 = nI 3 ∧ S11.2.2 1 8 = nI 4 ∧ S11.2.2 1 9 = nI 5 ∧ S11.2.2 1 10 = nI 6 ∧ S11.2.2 1 11 = nI 7 ∧ S11.2.2 1 12 = nI 8 ∧ S11.2.2 1 13 = nI 9 ∧ S11.2.2 1 14 = nI 10 ∧ S11.2.2 1 15 = nI 11 ∧ S11.2.2 1 16 = nI 1000000 := by
    rw [hS11]
    subst hS10 hS9 hS8 hS7 hS6 hS5 hS4 hS3 hS2 hS1 hS0
    exact ⟨rfl, rfl, rfl, rfl, rfl, rfl, rfl, rfl, rfl, rfl, rfl⟩
  have FC : S11.2.2 1 5 = nI 0 ∧ S11.2.2 1 6 = nI 0 ∧ S11.2.2 1 7 = nI 0 := by
    rw [hS11]
    subst hS10 hS9 hS8 hS7 hS6 hS5 hS4 hS3 hS2 hS1 hS0
    exact ⟨rfl, rfl, rfl⟩
  have FZ : ∀ o, 4 ≤ o → o < 12 → S11.2.2 o = fun _ => 0 := fun o h1 h2 => by
    rw [hS11]
    subst hS10 hS9 hS8 hS7 hS6 hS5 hS4 hS3 hS2 hS1 hS0
    have h : o = 4 ∨ o = 5 ∨ o = 6 ∨ o = 7 ∨ o = 8 ∨ o = 9 ∨ o = 10 ∨ o = 11 := by omega
    rcases h with rfl | rfl | rfl | rfl | rfl | rfl | rfl | rfl <;> rfl
  obtain ⟨a0, a2, a3, a4, a5, a6, a7, a8, a9, a10, a11⟩ := FA
  obtain ⟨b3, b4, b8, b9, b10, b11, b12, b13, b14, b15, b16⟩ := FB
  have d : DK S11 := ⟨by omega, by omega, a0, k11, a2, a3, fun j h1 h2 => by
    have h : j = 4 ∨ j = 5 ∨ j = 6 ∨ j = 7 ∨ j = 8 ∨ j = 9 := by omega
    rcases h with rfl | rfl | rfl | rfl | rfl | rfl <;> assumption, a10, b3, b4, fun j h1 h2 => by
    have h : j = 8 ∨ j = 9 ∨ j = 10 ∨ j = 11 ∨ j = 12 ∨ j = 13 ∨ j = 14 := by omega
    rcases h with rfl | rfl | rfl | rfl | rfl | rfl | rfl <;> assumption⟩
  obtain ⟨H, g1, e1, hH, w1⟩ := d.dr (c := 20) (n := 20) rfl (by decide) (by decide)
  obtain ⟨u2, hu2⟩ : ∃ u, u = gu g1 1 1 (nI H) := ⟨_, rfl⟩
  have m2 : u2.1 = 12 := by rw [hu2]; exact w1.1.trans n11
  have l2 : u2.2.1 = S11.2.1 := by rw [hu2]; exact w1.2.1
  obtain ⟨r, g3, e3, hr, w3⟩ := dr1 (g := u2) (c := 3) (n := 3) (by omega) (by rw [l2]; exact a0) rfl (by decide) (by decide)
  obtain ⟨u4, hu4⟩ : ∃ u, u = gu g3 1 2 (nI (1 + r)) := ⟨_, rfl⟩
  have m4 : u4.1 = 12 := by rw [hu4]; show g3.1 = 12; rw [w3.1]; exact m2
  have l4 : u4.2.1 = S11.2.1 := by rw [hu4]; show g3.2.1 = _; rw [w3.2.1]; exact l2
  have v4 : ∀ o, ¬ o = 0 → ¬ o = 1 → u4.2.2 o = S11.2.2 o := fun o h0 h1 => by rw [hu4, gu_h, up_o h1, w3.2.2 o h0, hu2, gu_h, up_o h1, w1.2.2 o h0]
  have f4 : ∀ j, ¬ j = 1 → ¬ j = 2 → u4.2.2 1 j = S11.2.2 1 j := fun j h1 h2 => by rw [hu4, gu_h, up_sn h2, w3.2.2 1 (by decide), hu2, gu_h, up_sn h1, w1.2.2 1 (by decide)]
  have f42 : u4.2.2 1 2 = nI (1 + r) := by rw [hu4, gu_h, up_ss]
  have f41 : u4.2.2 1 1 = nI H := by rw [hu4, gu_h, up_sn (by decide), w3.2.2 1 (by decide), hu2, gu_h, up_ss]
  have d4 : DK u4 := d.cg (by omega) (by omega) (fun o _ => by rw [l4]) (fun j h _ _ _ _ _ => f4 j (by omega) (by omega))
  rw [← hS0]
  unfold fp_X11_init
  rw [ct_step (c := 40) (n := 40) (by omega) (by omega) k0 rfl (by decide), ← hS1, ct_step (c := 12) (n := 12) (by omega) (by omega) k1 rfl (by decide), ← hS2, ct_step (c := 41) (n := 41) (by omega) (by omega) k2 rfl (by decide), ← hS3, ct_step (c := 41) (n := 41) (by omega) (by omega) k3 rfl (by decide), ← hS4, ct_step (c := 41) (n := 41) (by omega) (by omega) k4 rfl (by decide), ← hS5, ct_step (c := 41) (n := 41) (by omega) (by omega) k5 rfl (by decide), ← hS6, ct_step (c := 41) (n := 41) (by omega) (by omega) k6 rfl (by decide), ← hS7, ct_step (c := 41) (n := 41) (by omega) (by omega) k7 rfl (by decide), ← hS8, ct_step (c := 40) (n := 40) (by omega) (by omega) k8 rfl (by decide), ← hS9, ct_step (c := 0) (n := 0) (by omega) (by omega) k9 rfl (by decide), ← hS10]
  rw [ck_of (by rw [gk_i (show 1 < S10.1 by omega) (by rw [k10]), rkb_T (by decide)]; rfl), ← hS11, stp_eq, ck_of d.g0, e1, bnd_some, ck_of (decide_eq_true w1.1), ck_of (by exact gk_i (show 1 < g1.1 by rw [w1.1]; omega) (by rw [w1.2.1, k11]))]
  dsimp only
  rw [← hu2, stp_eq, ck_of (by exact gk_i (by omega) (by rw [l2, a0])), e3, bnd_some, ck_of (decide_eq_true w3.1), ck_of (by exact gk_i (show 1 < g3.1 by rw [w3.1]; omega) (by rw [w3.2.1, l2, k11]))]
  dsimp only
  rw [show (1 : Int32) + nI r = nI (1 + r) from nI_add 1 r, ← hu4, stp_eq]
  refine d_spks (P := P) d4 (by omega) (by rw [f4 16 (by decide) (by decide)]; exact b16) f42 (by omega) (fun g5 x5 R5 ls5 d5 c1 c2 c3 c4 c5 c6 c7 c8 => ?_)
  obtain ⟨y1, y2, y3, y4, y5⟩ := c8
  have g5n : g5.1 ≤ 36 := by omega
  refine d_wds d5 (by omega) c1 c2 c3 (by omega) (by omega) c6 c7 ⟨by omega, by omega⟩ (by rw [y5 2 (by decide)]; exact f42) (by rw [y5 5 (by decide), f4 5 (by decide) (by decide)]; exact FC.1) (by rw [y5 6 (by decide), f4 6 (by decide) (by decide)]; exact FC.2.1) (by rw [y5 1 (by decide)]; exact f41) (show H < 1000 by omega) (fun g6 x6 R6 ls6 wid bid n nb T hn3 hn10 e1 e2 e3 e4 e5 e6 e7 e8 e9 e10 e11 e12 e13 e14 => ?_)
  refine fin g6 x6 R6 ls6 wid bid n nb T H hn3 hn10 (by omega) e1 e2 e3 e4 e5 e6 e7 e8 e9 e10 e11 e12 ?_ ?_ (fun o o1 o2 => ?_) ?_ ?_
  · rw [e13 1 (by decide) (by decide) (by decide) (by decide), y5 1 (by decide)]; exact f41
  · rw [e13 7 (by decide) (by decide) (by decide) (by decide), y5 7 (by decide), f4 7 (by decide) (by decide)]; exact FC.2.2
  · rw [(e14 o o1 o2).1, y4 o (by omega) (by omega), v4 o (by omega) (by omega)]; exact FZ o o1 o2
  · rw [(e14 11 (by decide) (by decide)).2, y3 11 (by omega), l4]; exact a11
  · rw [e13 15 (by decide) (by decide) (by decide) (by decide), y5 15 (by decide), f4 15 (by decide) (by decide)]; exact b15
