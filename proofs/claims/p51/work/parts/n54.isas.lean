/-! class and law are as one: isAs, areWords -/
section
variable {h : Hp} {g : PL} {c f : Nat} {R E : Nat → Nat → Nat} {wid : Nat → Nat}
theorem fs_bd (q : PQ h c R E) {s : Nat} (hs : s ≤ E 0 1) : fs R E s < 2147483648 := by
  have := fs_le q.W q.E hs
  omega
theorem DG.i6 (q : DG g R E wid f) {p b : Nat} (h1 : 4 ≤ p) (h2 : p ≤ 9) (hb : b < 41) : (gk g p 4 && inb (nI b) (gl g p)) = true := q.d.i41 h1 h2 hb
theorem l_isAs2 (p : PQ h c R E) (q : DG g R E wid f) : Jp_L_isAs_141 h g 1 = some 1 := by
  have hn := p.n
  have hfo := q.fo
  have hp := q.d.p
  have r9 : g.2.2 1 9 = nI 5 := q.d.f8 9 (by decide) (by decide)
  have r10 : g.2.2 1 10 = nI 6 := q.d.f8 10 (by decide) (by decide)
  have r11 : g.2.2 1 11 = nI 7 := q.d.f8 11 (by decide) (by decide)
  have r12 : g.2.2 1 12 = nI 8 := q.d.f8 12 (by decide) (by decide)
  have r13 : g.2.2 1 13 = nI 9 := q.d.f8 13 (by decide) (by decide)
  refine wp_eq.mp ?_
  unfold Jp_L_isAs_141
  refine wp_for (i := 0) (R 0 13) (fun b x => x = nI b) (by omega) (Nat.zero_le _) rfl ?_
  rintro b x r hb rfl kk
  unfold Fp_L_isAs_143
  rw [ck_of q.d.g1, q.bn]
  by_cases z : b < R 0 13
  · obtain ⟨a0, a1, a5, a6, a7, a8⟩ := k_block p z
    have next : Wp (Jp_L_isAs_271 h g 1 r (nI b) (nI (R 12 b)) (nI (R 12 b))) (fun a => a = 1) := by
      unfold Jp_L_isAs_271
      rw [if_pos rfl, show nI b + (1 : Int32) = nI (b + 1) from nI_add b 1, stp_eq]
      exact kk _ z rfl
    rw [if_pos (lty z (by omega)), a0, bnd_some]
    (try dsimp only)
    rw [ck_of (by rfl), ckn_of q.d.g1 r9 (by omega), ck_of (q.i6 (p := 5) (by decide) (by decide) (by omega)), ix_n (by omega), q.beg b z, if_pos rfl, a1, bnd_some]
    (try dsimp only)
    rw [ck_of (by rfl), ckn_of q.d.g1 r10 (by omega), ck_of (q.i6 (p := 6) (by decide) (by decide) (by omega)), q.ends b z, if_pos rfl, a6, bnd_some]
    (try dsimp only)
    rw [ck_of (by rfl), ckn_of q.d.g1 r12 (by omega), ck_of (q.i6 (p := 8) (by decide) (by decide) (by omega)), q.head b (by omega), if_pos rfl, a7, bnd_some]
    (try dsimp only)
    rw [ck_of (by rfl), ckn_of q.d.g1 r13 (by omega), ck_of (q.i6 (p := 9) (by decide) (by decide) (by omega)), q.tail b (by omega), if_pos rfl, a8, bnd_some]
    (try dsimp only)
    rw [ck_of (by rfl), ck_of q.d.g1, d_shotOf p.W p.E q (by omega), bnd_some, if_pos rfl, a5, bnd_some]
    (try dsimp only)
    rw [ck_of (by rfl), ck_of q.d.g1, show nI (R 0 13) - (1 : Int32) = nI (R 0 13 - 1) from sub_n (b := 1) (by omega)]
    by_cases y : b + 1 = R 0 13
    · rw [if_pos (show nI b = nI (R 0 13 - 1) from by rw [← y, Nat.add_sub_cancel]), ck_of q.d.g1, q.len, ← p.W.last b y]
      exact next
    · rw [if_neg (eqo (show ¬ b = R 0 13 - 1 by omega) (by omega) (by omega)), ckn_of q.d.g1 r11 (by omega), ck_of (q.i6 (p := 7) (by decide) (by decide) (by omega)), q.cut b (by omega)]
      exact next
  · have e : b = R 0 13 := by omega
    rw [if_neg (ltn (by omega) (by omega))]
    unfold Jp_L_isAs_282
    rw [q.rf, ck_of q.gf, q.lf, k_blkX p, bnd_some]
    exact wp_some.mpr rfl
theorem l_isAs (p : PQ h c R E) (q : DG g R E wid f) : fp_L_isAs h g 1 = some 1 := by
  have hn := p.n
  have hfo := q.fo
  have hp := q.d.p
  refine wp_eq.mp ?_
  unfold fp_L_isAs
  rw [k_shots p, bnd_some, q.rf, ck_of q.gf, q.lf, if_pos rfl, k_flen p, bnd_some, ck_of q.d.g1, d_len p.W p.E q, bnd_some, if_pos rfl, k_cnt p, bnd_some, ck_of q.d.g1, q.bn, if_pos rfl]
  refine wp_for (i := 0) (E 0 1) (fun s x => x = (nI (fs R E s), nI s)) (by omega) (Nat.zero_le _) rfl ?_
  rintro s x r hs rfl kk
  unfold Fp_L_isAs_41
  (try dsimp only)
  rw [q.rf, ck_of q.gf, q.lf]
  by_cases z : s < E 0 1
  · have hb := p.E.lt s z
    obtain ⟨a0, a1, a2⟩ := k_shot p z
    rw [if_pos (lty z (by omega)), q.rf, ck_of (q.if z (by omega)), ix_n (by omega), q.fv s z, stp_eq, k_blk p z, bnd_some]
    (try dsimp only)
    rw [ck_of (by rfl), if_pos rfl, a0, bnd_some]
    (try dsimp only)
    rw [ck_of (by rfl), ck_of q.d.g1, d_from p.W p.E q hb, bnd_some, if_pos rfl, a1, bnd_some]
    (try dsimp only)
    rw [ck_of (by rfl), ck_of q.d.g1, d_to p.W p.E q hb, bnd_some, if_pos rfl, a2, bnd_some]
    (try dsimp only)
    rw [ck_of (by rfl), if_pos rfl, ck_of q.d.g1, bnd_some, ck_of q.d.g1, bnd_some, (pt_pf p.W p.E hb).1, nI_add, ← fs_s, stp_eq, show nI s + (1 : Int32) = nI (s + 1) from nI_add s 1, stp_eq]
    exact kk _ z rfl
  · rw [if_neg (ltn (by omega) (by omega)), l_isAs2 p q]
    exact wp_some.mpr rfl
theorem l_areWords (p : PQ h c R E) (q : DG g R E wid f) (hg : g.1 ≤ 400000) : ∃ u, fp_L_areWords h g 1 = some (1, u) ∧ u.1 = g.1 + 2 ∧ (∀ o, o < g.1 → u.2.1 o = g.2.1 o) ∧ ∀ o, o < g.1 → u.2.2 o = g.2.2 o := by
  have hn := p.n
  have hfo := q.fo
  have hp := q.d.p
  have hd := q.d.n
  have i0 : ix (0 : Int32) = 0 := ix_n (a := 0) (by decide)
  have i2 : ix (2 : Int32) = 2 := ix_n (a := 2) (by decide)
  have i3 : ix (3 : Int32) = 3 := ix_n (a := 3) (by decide)
  have i4 : ix (4 : Int32) = 4 := ix_n (a := 4) (by decide)
  have hl := trA_le p.W p.E
  obtain ⟨row, u, e, r1, r2, r3, r4, r5, r6, r7⟩ := d_trans p.W p.E q (by omega)
  have qu : DG u R E wid f := q.cg (by omega) (by omega) r6 (fun o ho _ => r7 o ho)
  have gr : gk u row 4 = true := gk_i r2 (by rw [r4])
  have lr : gl u row = (trA R E).length := by show (u.2.1 row).2 = _; rw [r4]
  refine ⟨u, wp_eq.mp ?_, r3, r6, r7⟩
  unfold fp_L_areWords
  refine wp_for (i := 0) (R 0 4) (fun w x => x = nI w) (by omega) (Nat.zero_le _) rfl ?_
  rintro w x r hw rfl kk
  unfold Fp_L_areWords_2
  rw [ck_of q.d.g1, q.n]
  by_cases z : w < R 0 4
  · obtain ⟨a0, a1, a2, a3, a4⟩ := k_word p z
    obtain ⟨-, -, -, -, w5, w6, w7, w8⟩ := q.w w z
    rw [if_pos (lty z (by omega)), q.rd hn.2.2 z, i0, i2, i3, i4, a0, bnd_some]
    (try dsimp only)
    rw [ck_of (by rfl), ck_of (q.i5 z (by decide)), w5, if_pos rfl, a1, bnd_some]
    (try dsimp only)
    rw [ck_of (by rfl), ck_of (q.i5 z (by decide)), w6, if_pos rfl, a2, bnd_some]
    (try dsimp only)
    rw [ck_of (by rfl), ck_of (q.i5 z (by decide)), w7, if_pos rfl, a3, bnd_some]
    (try dsimp only)
    rw [ck_of (by rfl), ck_of (q.i5 z (by decide)), w8, if_pos rfl, a4, bnd_some]
    (try dsimp only)
    rw [ck_of (by rfl), ck_of q.d.g1, d_state p.W p.E q z, bnd_some, if_pos rfl, show nI w + (1 : Int32) = nI (w + 1) from nI_add w 1, stp_eq]
    exact kk _ z rfl
  · rw [if_neg (ltn (by omega) (by omega))]
    unfold Jp_L_areWords_97
    rw [ck_of (rkb_i (show 1 < g.1 by omega)), ck_of q.d.g1, e, bnd_some, k_size p, bnd_some]
    (try dsimp only)
    rw [ck_of gr, lr, if_pos rfl, ck_of gr, k_twX p, bnd_some, if_pos rfl]
    clear kk r
    refine wp_for (i := 0) (trA R E).length (fun k x => x = nI k) (by omega) (Nat.zero_le _) rfl ?_
    rintro k x r hk rfl kk
    unfold Fp_L_areWords_125
    (try dsimp only)
    rw [ck_of gr, lr]
    by_cases y : k < (trA R E).length
    · obtain ⟨v, hv⟩ := lget y
      have hv2 := (trA_get p.W p.E hv).1
      have cc : (gk u row 4 && inb (nI k) (trA R E).length) = true := by rw [gr, inb_t y (by omega)]; rfl
      rw [if_pos (lty y (by omega)), k_tw p hv, bnd_some, ck_of cc, ix_n (by omega), r5 k v hv, if_pos rfl, ck_of cc, k_place p hv, bnd_some]
      (try dsimp only)
      rw [ck_of (by rfl), if_pos rfl, show nI k + (1 : Int32) = nI (k + 1) from nI_add k 1, stp_eq]
      exact kk _ y rfl
    · rw [if_neg (ltn (by omega) (by omega))]
      unfold Jp_L_areWords_165
      rw [ck_of qu.d.g1, qu.n, k_wordX p, bnd_some]
      exact wp_some.mpr rfl
end
