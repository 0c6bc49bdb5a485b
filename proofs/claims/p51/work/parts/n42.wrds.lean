/-! all words, drawn -/
theorem WQ.mono {g : PL} {R : Nat → Nat → Nat} {wid : Nat → Nat} {fr n M M' : Nat} (q : WQ g R wid fr n M) (h : M ≤ M') : WQ g R wid fr n M' := by
  refine ⟨q.d, q.w, q.n5, q.rn, fun w hw => ?_, q.inj, q.fk, q.fo, fun s hs => ?_, q.s2, q.sp, q.br⟩
  · obtain ⟨y1, y2, y3, y4, y5⟩ := q.wx w hw
    exact ⟨y1, y2, by omega, y4, y5⟩
  · obtain ⟨f, y1, y2, y3⟩ := q.ff s hs
    exact ⟨f, y1, by omega, y3⟩
theorem wrd_l (a t sp st en : Nat) : (lnB (wrdL a t sp st en)).length ≤ 19 := by
  have h1 := dgs_l (n := st)
  have h2 := dgs_l (n := en)
  simp only [lnB, wrdL, kW, List.length_append, List.length_cons, List.length_nil]
  omega
theorem d_wrds {P R0 : Nat → Nat → Nat} {wid0 : Nat → Nat} {g0 : PL} {x0 fr c : Nat} {ls0 : List Ln} {Q : PL → Prop} (q : WQ g0 R0 wid0 fr 0 0) (hp : g0.1 ≤ 1000) (h16 : g0.2.2 1 16 = nI x0) (hx : x0 < 2000000) (hT : ST g0.1 g0 x0 (flt ls0)) (hl : (flt ls0).length ≤ 33) (hls : ls0.length ≤ 3) (hr : Rds ls0 (clR P) R0) (hc : c ≤ 10) (fin : ∀ g x R ls wid, WQ g R wid fr c 210 → g.2.2 1 16 = nI x → x < 2000000 → ST g.1 g x (flt ls) → (flt ls).length ≤ 223 → ls.length ≤ 13 → Rds ls (clR P) R → g.1 ≤ g0.1 + 150 → g0.1 ≤ g.1 → (∀ j, ¬ j = 5 → ¬ j = 16 → g.2.2 1 j = g0.2.2 1 j) → (∀ o, 3 ≤ o → o < 12 → g.2.2 o = g0.2.2 o ∧ g.2.1 o = g0.2.1 o) → Wp (Jp_X11_init_375 1 0 g) Q) : Wp (Lp (Fp_X11_init_183 1 0 fr) FU (nI 0, nI c, g0, 51)) Q := by
  refine wp_for (i := 0) c (fun j s => ∃ at0 g x R ls wid, s = (nI at0, nI (c - j), g, 51 + 15 * j) ∧ at0 ≤ 21 * j ∧ WQ g R wid fr j (21 * j) ∧ g.2.2 1 16 = nI x ∧ x < 2000000 ∧ ST g.1 g x (flt ls) ∧ (flt ls).length ≤ 33 + 19 * j ∧ ls.length ≤ 3 + j ∧ Rds ls (clR P) R ∧ g.1 ≤ g0.1 + 15 * j ∧ g0.1 ≤ g.1 ∧ (∀ j, ¬ j = 5 → ¬ j = 16 → g.2.2 1 j = g0.2.2 1 j) ∧ ∀ o, 3 ≤ o → o < 12 → g.2.2 o = g0.2.2 o ∧ g.2.1 o = g0.2.1 o) (by omega) (Nat.zero_le _) ⟨0, g0, x0, R0, ls0, wid0, rfl, Nat.le_refl _, q, h16, hx, hT, by omega, by omega, hr, by omega, Nat.le_refl _, fun _ _ _ => rfl, fun _ _ _ => ⟨rfl, rfl⟩⟩ ?_
  rintro j s r hj ⟨at0, g, x, R, ls, wid, rfl, ha, q1, h1, h2, h3, h4, h5, h6, h7, h8, h9, h10⟩ kk
  by_cases z : j < c
  · obtain ⟨sp, st, en, t, i, at', g', x', wid', e, b1, b2, b3, b4, b5, b6, b7, b8, b9, b10⟩ := d_wrd (m := c - (j + 1)) (k := 51 + 15 * j) q1 (by omega) (by omega) (by omega) ha (by omega) h1 h2 h3 (by omega) (by omega) r
    rw [show c - j = c - (j + 1) + 1 by omega, e]
    have hw := wrd_l (97 + sp) (97 + t) sp st en
    refine kk _ z ⟨at', g', x', _, ls ++ [wrdL (97 + sp) (97 + t) sp st en], wid', ?_, by omega, b2.mono (by omega), b4, b5, ?_, ?_, ?_, h6.app ⟨_, b1, rfl⟩, by omega, by omega, fun k c1 c2 => (b9 k c1 c2).trans (h9 k c1 c2), fun o o1 o2 => ⟨(b10 o o1 o2).1.trans (h10 o o1 o2).1, (b10 o o1 o2).2.trans (h10 o o1 o2).2⟩⟩
    · rw [show 51 + 15 * j + 15 = 51 + 15 * (j + 1) by omega]
    · rw [flt_app]
      show ST g'.1 g' x' (flt ls ++ (lnB (wrdL (97 + sp) (97 + t) sp st en) ++ []))
      rw [List.append_nil]
      exact b6
    · rw [flt_app, List.length_append]
      show _ + (lnB (wrdL (97 + sp) (97 + t) sp st en) ++ []).length ≤ _
      rw [List.append_nil]
      omega
    · rw [List.length_append]
      show _ + 1 ≤ _
      omega
  · have e : j = c := by omega
    subst e
    unfold Fp_X11_init_183
    dsimp only
    rw [Nat.sub_self, if_pos (show nI 0 ≤ (0 : Int32) from by decide)]
    exact fin g x R ls wid (q1.mono (by omega)) h1 h2 h3 (by omega) (by omega) h6 (by omega) h8 h9 h10
theorem d_last {g : PL} {R : Nat → Nat → Nat} {wid : Nat → Nat} {fr n M : Nat} {Q : PL → Prop} (q : WQ g R wid fr n M) (hM : M ≤ 1000) (h0 : 0 < n) (h40 : n ≤ 40) (fin : ∀ L, 1 ≤ L → L ≤ M → (∀ w, w < n → R 5 w ≤ L) → Wp (Jp_X11_init_412 1 0 g (nI L)) Q) : Wp (Jp_X11_init_375 1 0 g) Q := by
  have k := q.d
  have hp := k.p
  unfold Jp_X11_init_375
  refine wp_for (i := 0) n (fun i s => ∃ L, s = (nI L, nI i) ∧ L ≤ M ∧ (0 < i → 1 ≤ L) ∧ ∀ w, w < i → R 5 w ≤ L) (by omega) (Nat.zero_le _) ⟨0, rfl, Nat.zero_le _, fun h => absurd h (Nat.lt_irrefl _), fun w hw => absurd hw (Nat.not_lt_zero _)⟩ ?_
  rintro i s r hi ⟨L, rfl, a1, a2, a3⟩ kk
  unfold Fp_X11_init_381
  dsimp only
  rw [ck_of k.g1, q.n5]
  by_cases z : i < n
  · obtain ⟨w1, w2, w3, w4, w5, w6, w7, w8⟩ := q.w i z
    obtain ⟨y1, y2, y3, y4, y5⟩ := q.wx i z
    rw [if_pos (lty z (by omega)), ckn_of k.g1 k.f3 (by omega), ix_n (by omega), ckn_of (by rw [k.g2, k.l2, inb_t (by omega) (by omega)]; rfl) w1 (by omega), ck_of (by exact in5 w3 w4 (by decide)), show ix (3 : Int32) = 3 from ix_n (a := 3) (by decide), y2, imax_n (by omega) (by omega), stp_eq, show nI i + (1 : Int32) = nI (i + 1) from nI_add i 1, stp_eq]
    refine kk _ z ⟨max L (R 5 i), rfl, by omega, fun _ => by omega, fun w hw => ?_⟩
    by_cases e : w = i
    · rw [e]; omega
    · have := a3 w (by omega)
      omega
  · have e : i = n := by omega
    subst e
    rw [if_neg (ltn (by omega) (by omega))]
    exact fin L (a2 h0) a1 a3
