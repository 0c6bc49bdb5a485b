/-! one speaker's line, drawn -/
/-- one speaker -/
theorem d_spk {g : PL} {x s k n : Nat} {ts : List Nat} (d : DK g) (hp : g.1 ≤ 500000) (h16 : g.2.2 1 16 = nI x) (hx : x < 2000000) (hT : ST g.1 g x ts) (hl : ts.length ≤ 250) (hs : s < 3) (hk : k + 8 ≤ 50) (hS : g.2.2 1 2 = nI n) (hsn : s < n) (hn : n < 100) (r : Int32 × PL × Nat → Option PL) : ∃ g' x', Fp_X11_init_114 1 0 r (nI s, g, k) = r (nI (s + 1), g', k + 8) ∧ DK g' ∧ g'.2.2 1 16 = nI x' ∧ x' < 2000000 ∧ ST g'.1 g' x' (ts ++ lnB (spkL (97 + s))) ∧ FT 8 g g' := by
  have h12 := d.n
  obtain ⟨u1, v1, e1, s1, f1⟩ := sb_open (g := g) (by omega)
  have b1 := f1.b
  have a1 := f1.a
  have x1 : u1.2.2 1 16 = nI x := by rw [f1.h 1 (by omega)]; exact h16
  obtain ⟨u2, v2, e2, s2, f2⟩ := sb_str1 s1 (by omega) (hT.fr f1) (by show 0 + ts.length ≤ 300; omega)
  have b2 := f2.b
  have a2 := f2.a
  have l2 : ([] ++ ts).length = ts.length := rfl
  obtain ⟨u3, v3, e3, s3, f3⟩ := sb_str1 s2 (by omega) tlit1 (by rw [l2]; show ts.length + 9 ≤ 300; omega)
  have b3 := f3.b
  have a3 := f3.a
  have l3 : ([] ++ ts ++ [115, 112, 101, 97, 107, 101, 114, 32, 115]).length = ts.length + 9 := by rw [List.length_append]; rfl
  obtain ⟨u4, v4, e4, s4, f4⟩ := sb_chr1 (c := 97 + s) s3 (by omega) (by omega) (by rw [l3]; omega)
  have b4 := f4.b
  have a4 := f4.a
  have l4 : ([] ++ ts ++ [115, 112, 101, 97, 107, 101, 114, 32, 115] ++ [97 + s]).length = ts.length + 10 := by rw [List.length_append, l3]; rfl
  obtain ⟨u5, v5, e5, s5, f5⟩ := sb_str1 s4 (by omega) tlit2 (by rw [l4]; show ts.length + 10 + 1 ≤ 300; omega)
  have b5 := f5.b
  have a5 := f5.a
  obtain ⟨u6, e6, t6, f6, z6⟩ := sb_txt1 s5 (by omega) (by omega)
  have ff : Fr g.1 8 g u6 := ((((f1.tr f2 (k := 3) (by omega)).tr f3 (k := 4) (by omega)).tr f4 (k := 5) (by omega)).tr f5 (k := 6) (by omega)).tr f6 (by omega)
  have k6 : u6.2.1 1 = (0, 0) := by rw [ff.s 1 (by omega)]; exact d.k1
  obtain ⟨T, F⟩ := tx_put (by omega) k6 ff t6
  have kk : ∀ {u : PL} {q : Nat}, Fr g.1 q g u → gk u 1 0 = true ∧ rkb u 1 = true ∧ rkb u 0 = true := fun f => by
    have := f.a
    exact ⟨gk_i (by omega) (by rw [f.s 1 (by omega), d.k1]), rkb_i (by omega), rkb_i (by omega)⟩
  have c1 := kk f1
  have c2 := kk (f1.tr f2 (k := 3) (by omega))
  have c3 := kk ((f1.tr f2 (k := 3) (by omega)).tr f3 (k := 4) (by omega))
  have c4 := kk (((f1.tr f2 (k := 3) (by omega)).tr f3 (k := 4) (by omega)).tr f4 (k := 5) (by omega))
  have c5 := kk ((((f1.tr f2 (k := 3) (by omega)).tr f3 (k := 4) (by omega)).tr f4 (k := 5) (by omega)).tr f5 (k := 6) (by omega))
  have c6 := kk ff
  have gb : ∀ {u : PL} {v : Nat} {bs : List Nat}, SB g.1 u g.1 v bs → gk u g.1 2 = true := fun s => gk_i s.o s.k
  have dk : ∀ m, m ≤ 50 → decide (m ≤ 50) = true := fun m h => decide_eq_true h
  refine ⟨gu u6 1 16 (nI u5.1), u5.1, ?_, F.dk d (by show u6.1 ≤ 600000; omega), by rw [gu_h, up_ss], by omega, ?_, F⟩
  · unfold Fp_X11_init_114
    dsimp only
    rw [ck_of d.g1, hS, if_pos (lty hsn (by omega)), ck_of (rkb_i (show 1 < g.1 by omega)), ck_of (rkb_i (show 0 < g.1 by omega)), ck_of (dk _ (by omega)), ck_of (ngw_i (by omega) (by omega)), stp_eq, ck_of (rkb_i (show 1 < g.1 + 1 by omega)), ck_of (rkb_i (show 0 < g.1 + 1 by omega)), ck_of (rkb_i (show g.1 < g.1 + 1 by omega)), ck_of (dk _ (by omega)), e1, bnd_some, ckn_of c1.1 x1 (by omega), ck_of c1.2.1, ck_of c1.2.2, ck_of (dk _ (by omega)), ck_of (gb s1), e2, bnd_some, ck_of c2.2.1, ck_of c2.2.2, ck_of (dk _ (by omega)), ck_of (gb s2), e3, bnd_some, ck_of c3.2.1, ck_of c3.2.2, ck_of (dk _ (by omega)), ck_of (gb s3), i2c_97 s (by omega), e4, bnd_some, ck_of c4.2.1, ck_of c4.2.2, ck_of (dk _ (by omega)), ck_of (gb s4), e5, bnd_some, ck_of c5.2.1, ck_of c5.2.2, ck_of (dk _ (by omega)), ck_of (gb s5), e6, bnd_some, ck_of (by rw [c6.1, rkb_i (show u5.1 < u6.1 by omega), lt31 (by omega)]; rfl), stp_eq, show nI s + (1 : Int32) = nI (s + 1) from nI_add s 1, stp_eq, ck_of (dk _ (by omega))]
  · have e : ts ++ lnB (spkL (97 + s)) = [] ++ ts ++ [115, 112, 101, 97, 107, 101, 114, 32, 115] ++ [97 + s] ++ [59] := by
      show ts ++ _ = _
      simp [lnB, spkL, kS]
    rw [e]
    exact T
