/-! from the last word to the end of the text; from the entry to the last word -/
theorem d_mid {P R : Nat → Nat → Nat} {wid : Nat → Nat} {g : PL} {x fr n L H : Nat} {ls : List Ln} {Q : PL → Prop} (q : WQ g R wid fr n 210) (hp : g.1 ≤ 1500) (hL1 : 1 ≤ L) (hL2 : L ≤ 210) (h5 : ∀ w, w < n → R 5 w ≤ L) (h6 : g.2.2 1 6 = nI 0) (h1 : g.2.2 1 1 = nI H) (hH : H < 1000) (h16 : g.2.2 1 16 = nI x) (hx : x < 2000000) (hT : ST g.1 g x (flt ls)) (hl : (flt ls).length ≤ 223) (hls : ls.length ≤ 13) (hr : Rds ls (clR P) R) (fin : ∀ g' x' R' ls' bid nb T, WB g' R' wid bid n nb T → R' 0 0 = T → T < 1000 → R' 0 1 = H → nb ≤ 3 → g'.2.2 1 16 = nI x' → x' < 4000 → ST g'.1 g' x' (flt ls') → Rds ls' (clR P) R' → (flt ls').length ≤ 290 → ls'.length ≤ 18 → g'.1 ≤ 1600 → (∀ j, ¬ j = 0 → ¬ j = 6 → ¬ j = 16 → g'.2.2 1 j = g.2.2 1 j) → (∀ o, 4 ≤ o → o < 12 → g'.2.2 o = g.2.2 o ∧ g'.2.1 o = g.2.1 o) → Wp (bnd (fp_X11_layBlocks g' 1) (fun u => some u)) Q) : Wp (Jp_X11_init_412 1 0 g (nI L)) Q := by
  have d := q.d
  have h12 := d.n
  obtain ⟨r1, g1, e1, hr1, w1⟩ := d.dr (c := 9) (n := 9) rfl (by decide) (by decide)
  have d1 := w1.dk d
  obtain ⟨T, eT⟩ : ∃ T, T = L + r1 := ⟨_, rfl⟩
  obtain ⟨u2, hu2⟩ : ∃ u, u = gu g1 1 0 (nI T) := ⟨_, rfl⟩
  have n2 : u2.1 = g.1 := by rw [hu2]; exact w1.1
  have k2 : u2.2.1 = g.2.1 := by rw [hu2]; exact w1.2.1
  obtain ⟨b, g3, e3, hb, w3⟩ := dr1 (g := u2) (c := 4) (n := 4) (by omega) (by rw [k2]; exact d.k0) rfl (by decide) (by decide)
  have n3 : g3.1 = g.1 := by rw [w3.1, n2]
  have k3 : g3.2.1 = g.2.1 := by rw [w3.2.1, k2]
  have v3 : ∀ o, ¬ o = 0 → ¬ o = 1 → g3.2.2 o = g.2.2 o := fun o a c => by rw [w3.2.2 o a, hu2, gu_h, up_o c, w1.2.2 o a]
  have f3 : ∀ j, ¬ j = 0 → g3.2.2 1 j = g.2.2 1 j := fun j hj => by rw [w3.2.2 1 (by decide), hu2, gu_h, up_sn hj, w1.2.2 1 (by decide)]
  have z3 : g3.2.2 1 0 = nI T := by rw [w3.2.2 1 (by decide), hu2, gu_h, up_ss]
  have q3 : WQ g3 R wid fr n 210 := q.cg (by omega) (by omega) (fun o _ => by rw [k3]) (fun o _ a c _ => v3 o a c) (fun j a _ _ _ _ => f3 j (by omega))
  have b3 : WB g3 R wid (fun _ => 0) n 0 T := ⟨q3.d, q3.w, q3.n5, q3.rn, fun w hw => by
    obtain ⟨-, y2, -, y4, -⟩ := q3.wx w hw
    have := h5 w hw
    exact ⟨y2, by omega, y4⟩, q3.inj, by rw [f3 6 (by decide)]; exact h6, q3.br, fun i hi => absurd hi (Nat.not_lt_zero _), z3⟩
  have T3 : ST g3.1 g3 x (flt ls) := hT.cg (by omega) (by omega) (fun o _ => by rw [k3]) (fun o ho h => by
    have z0 : ¬ o = 0 := fun z => by rw [z, d.k0] at h; revert h; decide
    have z1 : ¬ o = 1 := fun z => by rw [z, d.k1] at h; revert h; decide
    exact v3 o z0 z1)
  unfold Jp_X11_init_412
  rw [ck_of d.g0, e1, bnd_some, ck_of (decide_eq_true w1.1), ck_of d1.g1]
  dsimp only
  rw [nI_add, ← eT, ← hu2, stp_eq, ck_of (by exact gk_i (by omega) (by rw [k2, d.k0])), e3, bnd_some, ck_of (decide_eq_true w3.1)]
  dsimp only
  refine d_bres b3 (by omega) (by omega) (by omega) (by rw [f3 16 (by decide)]; exact h16) hx T3 hl hls hr (fun g4 x4 R4 ls4 bid4 b4 a1 a2 a3 a4 a5 a6 a7 a8 a9 a10 => ?_)
  refine d_end b4 (by omega) a1 a2 a3 a4 a6 (by rw [a9 1 (by decide) (by decide), f3 1 (by decide)]; exact h1) (by omega) (by omega) hH (fun g5 x5 b5 c1 c2 c3 c4 c5 c6 => ?_)
  refine fin g5 x5 _ _ bid4 b T b5 lh_0.1 (by omega) lh_0.2 (by omega) c1 c2 c3 c4 c5 (by rw [List.length_append]; show _ + 2 ≤ _; omega) (by have := c6.2.1; omega) (fun j y1 y2 y3 => by rw [c6.2.2.2.2 j y3, a9 j y2 y3, f3 j y1]) (fun o o1 o2 => ⟨?_, ?_⟩)
  · rw [c6.2.2.2.1 o (by omega) (by omega), (a10 o o1 o2).1, v3 o (by omega) (by omega)]
  · rw [c6.2.2.1 o (by omega), (a10 o o1 o2).2, k3]
theorem d_wds {P R : Nat → Nat → Nat} {g : PL} {x s H : Nat} {ls : List Ln} {Q : PL → Prop} (d : DK g) (hp : g.1 ≤ 500) (h16 : g.2.2 1 16 = nI x) (hx : x < 2000000) (hT : ST g.1 g x (flt ls)) (hl : (flt ls).length ≤ 33) (hls : ls.length ≤ 3) (hr : Rds ls (clR P) R) (sd : SD R s) (hs : 1 ≤ s ∧ s ≤ 3) (h2 : g.2.2 1 2 = nI s) (h5 : g.2.2 1 5 = nI 0) (h6 : g.2.2 1 6 = nI 0) (h1 : g.2.2 1 1 = nI H) (hH : H < 1000) (fin : ∀ g' x' R' ls' wid bid n nb T, 3 ≤ n → n ≤ 10 → WB g' R' wid bid n nb T → R' 0 0 = T → T < 1000 → R' 0 1 = H → nb ≤ 3 → g'.2.2 1 16 = nI x' → x' < 4000 → ST g'.1 g' x' (flt ls') → Rds ls' (clR P) R' → (flt ls').length ≤ 290 → ls'.length ≤ 18 → g'.1 ≤ 1600 → (∀ j, ¬ j = 0 → ¬ j = 5 → ¬ j = 6 → ¬ j = 16 → g'.2.2 1 j = g.2.2 1 j) → (∀ o, 4 ≤ o → o < 12 → g'.2.2 o = g.2.2 o ∧ g'.2.1 o = g.2.1 o) → Wp (bnd (fp_X11_layBlocks g' 1) (fun u => some u)) Q) : Wp (Jp_X11_init_167 1 0 g) Q := by
  have h12 := d.n
  obtain ⟨u1, hu1⟩ : ∃ u, u = gnew g 4 4 (fun _ => 0) := ⟨_, rfl⟩
  have n1 : u1.1 = g.1 + 1 := by rw [hu1]; rfl
  have k1 : ∀ o, o < g.1 → u1.2.1 o = g.2.1 o := fun o ho => by rw [hu1, nw_ko ho]
  have k1f : u1.2.1 g.1 = (4, 4) := by rw [hu1, nw_k]
  have v1 : ∀ o, o < g.1 → u1.2.2 o = g.2.2 o := fun o ho => by rw [hu1, nw_ho ho]
  have v1f : u1.2.2 g.1 = fun _ => 0 := by rw [hu1, nw_h]
  obtain ⟨r, g2, e2, hr2, w2⟩ := dr1 (g := u1) (c := 8) (n := 8) (by omega) (by rw [k1 0 (by omega)]; exact d.k0) rfl (by decide) (by decide)
  have n2 : g2.1 = g.1 + 1 := by rw [w2.1, n1]
  have k2 : ∀ o, o < g.1 → g2.2.1 o = g.2.1 o := fun o ho => by rw [w2.2.1, k1 o ho]
  have v2 : ∀ o, o < g.1 → ¬ o = 0 → g2.2.2 o = g.2.2 o := fun o ho h => by rw [w2.2.2 o h, v1 o ho]
  obtain ⟨s1, s2, s3, s4⟩ := sd
  have q2 : WQ g2 R (fun _ => 0) g.1 0 0 := by
    refine ⟨d.cg (by omega) (by omega) k2 (fun j a1 a2 a3 a4 a5 a6 => by rw [v2 1 (by omega) (by decide)]), fun w hw => absurd hw (Nat.not_lt_zero _), by rw [v2 1 (by omega) (by decide)]; exact h5, s3, fun w hw => absurd hw (Nat.not_lt_zero _), fun w v hw => absurd hw (Nat.not_lt_zero _), by rw [w2.2.1]; exact k1f, ⟨h12, by omega⟩, fun i hi => ⟨0, ?_, Nat.le_refl _, fun w hw => absurd hw (Nat.not_lt_zero _)⟩, by rw [v2 1 (by omega) (by decide), s1]; exact h2, ?_, s4⟩
    · rw [w2.2.2 g.1 (by omega), v1f]; rfl
    · rw [s1]
      exact ⟨hs.1, hs.2, s2⟩
  have T2 : ST g2.1 g2 x (flt ls) := hT.cg (by omega) (by omega) k2 (fun o ho h => by
    have z0 : ¬ o = 0 := fun z => by rw [z, d.k0] at h; revert h; decide
    exact v2 o ho z0)
  unfold Jp_X11_init_167
  rw [ck_of (rkb_i (show 1 < g.1 by omega)), ck_of (rkb_i (show 0 < g.1 by omega)), show ix (4 : Int32) = 4 from ix_n (a := 4) (by decide), ck_of (by rw [ngw_i (by omega) (by decide)]; rfl), ← hu1, stp_eq, ck_of (by exact gk_i (by omega) (by rw [k1 0 (by omega), d.k0])), e2, bnd_some, ck_of (decide_eq_true w2.1)]
  dsimp only
  rw [show (3 : Int32) + nI r = nI (3 + r) from nI_add 3 r, stp_eq]
  refine d_wrds q2 (by omega) (by rw [v2 1 (by omega) (by decide)]; exact h16) hx T2 hl hls hr (by omega) (fun g3 x3 R3 ls3 wid3 q3 a1 a2 a3 a4 a5 a6 a7 a8 a9 a10 => ?_)
  refine d_last q3 (by decide) (by omega) (by omega) (fun L hL1 hL2 hL3 => ?_)
  refine d_mid q3 (by omega) hL1 hL2 hL3 (by rw [a9 6 (by decide) (by decide), v2 1 (by omega) (by decide)]; exact h6) (by rw [a9 1 (by decide) (by decide), v2 1 (by omega) (by decide)]; exact h1) hH a1 a2 a3 a4 a5 a6 (fun g4 x4 R4 ls4 bid4 nb T b1 b2 b3 b4 b5 b6 b7 b8 b9 b10 b11 b12 b13 b14 => ?_)
  exact fin g4 x4 R4 ls4 wid3 bid4 (3 + r) nb T (by omega) (by omega) b1 b2 b3 b4 b5 b6 b7 b8 b9 b10 b11 b12 (fun j y1 y2 y3 y4 => by rw [b13 j y1 y3 y4, a9 j y2 y4, v2 1 (by omega) (by decide)]) (fun o o1 o2 => ⟨by rw [(b14 o o1 o2).1, (a10 o (by omega) o2).1, v2 o (by omega) (by omega)], by rw [(b14 o o1 o2).2, (a10 o (by omega) o2).2, k2 o (by omega)]⟩)
