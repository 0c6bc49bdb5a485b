/-! the law's film asked: from, to, length, shot of a block, state of a word -/
section
variable {g : PL} {R E : Nat → Nat → Nat} {wid : Nat → Nat} {f : Nat}
theorem DG.rd (q : DG g R E wid f) (h40 : R 0 4 ≤ 40) {w : Nat} (hw : w < R 0 4) {α : Type} (K : Nat → Option α) : ckn (gk g 1 0) (g.2.2 1 3) (fun q => ckn (gk g q 7 && inb (nI w) (gl g q)) (g.2.2 q (ix (nI w))) K) = K (wid w) := by
  obtain ⟨w1, w2, w3, -⟩ := q.w w hw
  have := q.d.p
  rw [ckn_of q.d.g1 q.d.f3 (by omega), ix_n (by omega), ckn_of (by rw [q.d.g2, q.d.l2, inb_t (by omega) (by omega)]; rfl) w1 (by omega)]
theorem DG.i5 (q : DG g R E wid f) {w : Nat} (hw : w < R 0 4) {i : Int32} (hi : inb i 5 = true) : (gk g (wid w) 4 && inb i (gl g (wid w))) = true := in5 (q.w w hw).2.2.1 (q.w w hw).2.2.2.1 hi
theorem DG.gf (q : DG g R E wid f) : gk g f 4 = true := gk_i q.fo.2 (by rw [q.fk])
theorem DG.lf (q : DG g R E wid f) : gl g f = E 0 1 := by show (g.2.1 f).2 = _; rw [q.fk]
theorem DG.if (q : DG g R E wid f) {s : Nat} (hs : s < E 0 1) (h : E 0 1 ≤ 40) : (gk g f 4 && inb (nI s) (gl g f)) = true := by
  rw [q.gf, q.lf, inb_t hs (by omega)]
  rfl
theorem DG.rf {α : Type} (q : DG g R E wid f) (K : Nat → Option α) : ckn (gk g 1 0) (g.2.2 1 15) K = K f := ckn_of q.d.g1 q.film (by have := q.fo; have := q.d.p; omega)
theorem DG.r10 {α : Type} (q : DG g R E wid f) (K : Nat → Option α) : ckn (gk g 1 0) (g.2.2 1 14) K = K 10 := ckn_of q.d.g1 (q.d.f8 14 (by decide) (by decide)) (by decide)
theorem DK.i10 {u : PL} (d : DK u) {w : Nat} (hw : w < 40) : (gk u 10 5 && inb (nI w) (gl u 10)) = true := by
  have e : gl u 10 = 40 := by show (u.2.1 10).2 = 40; rw [d.kz]
  rw [gk_i (by have := d.n; omega) (by rw [d.kz]), e, inb_t hw (by omega)]
  rfl
theorem d_from (hW : WR R) (hE : WE R E) (q : DG g R E wid f) {b : Nat} (hb : b < R 0 13) : fp_X11_from g 1 (nI b) = some (nI (pf R E b)) := by
  obtain ⟨h0, h1, h2, h3, h4, h5, h6, h7, h8, h9⟩ := p_facts hW hE hb
  have p8 : g.2.2 1 12 = nI 8 := q.d.f8 12 (by decide) (by decide)
  have p6 : g.2.2 1 10 = nI 6 := q.d.f8 10 (by decide) (by decide)
  have p7 : g.2.2 1 11 = nI 7 := q.d.f8 11 (by decide) (by decide)
  unfold fp_X11_from pf
  by_cases z : b = 0
  · rw [if_pos (show nI b = 0 from by rw [z]; rfl), ckn_of q.d.g1 p8 (by omega), ck_of (q.d.i41 (p := 8) (by decide) (by decide) (by omega)), ix_n (by omega), q.head b h0, if_pos z, show -(nI (E 3 b)) = nI 0 - nI (E 3 b) from by rw [Int32.sub_eq_add_neg, show (nI 0 : Int32) = 0 from rfl, Int32.zero_add], show (0 : Int32) = nI 0 from rfl, imax_r (by omega) (by omega) (by omega)]
    rw [show max 0 (0 - E 3 b) = 0 by omega]
  · obtain ⟨q0, q1, q2, q3, -⟩ := p_facts hW hE (b := b - 1) (by omega)
    rw [if_neg (show ¬ nI b = (0 : Int32) from eqo (b := 0) z (by omega) (by omega)), show nI b - (1 : Int32) = nI (b - 1) from sub_n (b := 1) (by omega), ckn_of q.d.g1 p6 (by omega), ck_of (q.d.i41 (p := 6) (by decide) (by decide) (by omega)), ckn_of q.d.g1 p7 (by omega), ck_of (q.d.i41 (p := 7) (by decide) (by decide) (by omega)), ckn_of q.d.g1 p8 (by omega), ck_of (q.d.i41 (p := 8) (by decide) (by decide) (by omega)), ix_n (by omega), ix_n (by omega), q.ends (b - 1) (by omega), q.cut (b - 1) (by omega), q.head b h0, imax_r (by omega) (by omega) (by omega), if_neg z, Nat.max_comm]
theorem d_to (hW : WR R) (hE : WE R E) (q : DG g R E wid f) {b : Nat} (hb : b < R 0 13) : fp_X11_to g 1 (nI b) = some (nI (pt R E b)) := by
  obtain ⟨h0, h1, h2, h3, h4, h5, h6, h7, h8, h9⟩ := p_facts hW hE hb
  have h13 := hW.bw
  have h40 := hW.w40
  have p5 : g.2.2 1 9 = nI 5 := q.d.f8 9 (by decide) (by decide)
  have p7 : g.2.2 1 11 = nI 7 := q.d.f8 11 (by decide) (by decide)
  have p9 : g.2.2 1 13 = nI 9 := q.d.f8 13 (by decide) (by decide)
  unfold fp_X11_to pt
  rw [ck_of q.d.g1, q.bn, show nI (R 0 13) - (1 : Int32) = nI (R 0 13 - 1) from sub_n (b := 1) (by omega)]
  by_cases z : b + 1 = R 0 13
  · rw [if_pos (show nI b = nI (R 0 13 - 1) from by rw [← z, Nat.add_sub_cancel]), ck_of q.d.g1, q.len, if_pos z]
  · obtain ⟨q0, q1, q2, q3, -⟩ := p_facts hW hE (b := b + 1) (by omega)
    rw [if_neg (eqo (show ¬ b = R 0 13 - 1 by omega) (by omega) (by omega)), show nI b + (1 : Int32) = nI (b + 1) from nI_add b 1, ckn_of q.d.g1 p5 (by omega), ck_of (q.d.i41 (p := 5) (by decide) (by decide) (by omega)), ckn_of q.d.g1 p7 (by omega), ck_of (q.d.i41 (p := 7) (by decide) (by decide) (by omega)), ckn_of q.d.g1 p9 (by omega), ck_of (q.d.i41 (p := 9) (by decide) (by decide) (by omega)), ix_n (by omega), ix_n (by omega), q.beg (b + 1) (by omega), q.cut b (by omega), q.tail b h0, nI_add, imin_n (by omega) (by omega), if_neg z, Nat.min_comm]
theorem pt_pf (hW : WR R) (hE : WE R E) {b : Nat} (hb : b < R 0 13) : nI (pt R E b) - nI (pf R E b) = nI (plE R E b) ∧ pf R E b ≤ pt R E b := by
  obtain ⟨h0, h1, h2, h3, h4, h5, h6, h7, h8, h9⟩ := p_facts hW hE hb
  exact ⟨sub_n (by omega), by omega⟩
theorem d_len (hW : WR R) (hE : WE R E) (q : DG g R E wid f) : fp_X11_filmLength g 1 = some (nI (fs R E (E 0 1))) := by
  have h1 := hE.n
  have h13 := hW.bw
  have h40 := hW.w40
  refine wp_eq.mp ?_
  unfold fp_X11_filmLength
  rw [q.rf, ck_of q.gf, q.lf, stp_eq]
  refine wp_for (i := 0) (E 0 1) (fun i s => s = (nI (fs R E i), nI i)) (by omega) (Nat.zero_le _) rfl ?_
  rintro i s r hi rfl kk
  unfold Fp_X11_filmLength_13
  dsimp only
  by_cases z : i < E 0 1
  · have hb := hE.lt i z
    rw [if_pos (lty z (by omega)), ck_of (q.if z (by omega)), ix_n (by omega), q.fv i z, stp_eq, ck_of q.d.g1, d_to hW hE q hb, bnd_some, ck_of q.d.g1, d_from hW hE q hb, bnd_some, (pt_pf hW hE hb).1, nI_add, ← fs_s, stp_eq, show nI i + (1 : Int32) = nI (i + 1) from nI_add i 1, stp_eq]
    exact kk _ z rfl
  · rw [if_neg (ltn (by omega) (by omega))]
    have e : i = E 0 1 := by omega
    rw [e]
    exact wp_some.mpr rfl
theorem d_shotOf (hW : WR R) (hE : WE R E) (q : DG g R E wid f) {b : Nat} (hb : b < 2147483648) : fp_X11_shotOf g 1 (nI b) = some (oI (E 0 1) (sch (fun s => E 2 s = b) (E 0 1))) := by
  have h1 := hE.n
  have h13 := hW.bw
  have h40 := hW.w40
  refine wp_eq.mp ?_
  unfold fp_X11_shotOf
  refine wp_for (i := 0) (E 0 1) (fun i x => x = nI i ∧ ∀ s, s < i → ¬ E 2 s = b) (by omega) (by omega) ⟨rfl, fun s hs => absurd hs (Nat.not_lt_zero _)⟩ ?_
  rintro i x r hi ⟨rfl, hp⟩ kk
  unfold Fp_X11_shotOf_2
  rw [q.rf, ck_of q.gf, q.lf]
  by_cases z : i < E 0 1
  · have h4 := hE.lt i z
    rw [if_pos (lty z (by omega)), q.rf, ck_of (q.if z (by omega)), ix_n (by omega), q.fv i z]
    by_cases y : E 2 i = b
    · rw [if_pos (by rw [y])]
      refine wp_some.mpr ?_
      rw [sch_u (i := i) hi hp (fun _ => y), oI, if_pos z]
    · rw [if_neg (eqo y (by omega) hb), show nI i + (1 : Int32) = nI (i + 1) from nI_add i 1, stp_eq]
      refine kk _ z ⟨rfl, fun s hs => ?_⟩
      by_cases e : s = i
      · rw [e]; exact y
      · exact hp s (by omega)
  · rw [if_neg (ltn (by omega) (by omega))]
    refine wp_some.mpr ?_
    rw [sch_u (i := i) hi hp (fun y => absurd y z), oI, if_neg z]
    rfl
theorem oI_ge {n i : Nat} (hn : n < 2147483648) : (0 ≤ oI n i) ↔ i < n := by
  unfold oI
  by_cases z : i < n
  · rw [if_pos z]
    exact ⟨fun _ => z, fun _ => nI_pos' (by omega)⟩
  · rw [if_neg z]
    exact ⟨fun h => absurd h (by decide), fun h => absurd h z⟩
theorem d_state (hW : WR R) (hE : WE R E) (q : DG g R E wid f) {w : Nat} (hw : w < R 0 4) : fp_X11_state g 1 (nI w) = some (stO R E w) := by
  have h1 := hE.n
  have h13 := hW.bw
  have h40 := hW.w40
  have hk := hE.k1 w (by omega)
  have h6 := (hW.wb w hw).1
  unfold fp_X11_state stO
  rw [q.r10, ck_of (q.d.i10 (by omega)), show g.2.2 10 (ix (nI w)) = nI (1 - E 1 w) from by rw [ix_n (by omega)]; exact q.out w (by omega)]
  by_cases z : E 1 w = 1
  · rw [if_pos z, z, if_pos (show nI (1 - 1) = (0 : Int32) from rfl)]
    rfl
  · have e : E 1 w = 0 := by omega
    rw [if_neg z, e, if_neg (show ¬ nI (1 - 0) = (0 : Int32) by decide), q.rd h40 hw, ck_of (q.i5 hw (by decide)), show ix (4 : Int32) = 4 from ix_n (a := 4) (by decide), (q.w w hw).2.2.2.2.2.2.2, ck_of q.d.g1, d_shotOf hW hE q (by omega), bnd_some]
    by_cases y : ∃ s, s < E 0 1 ∧ E 2 s = R 6 w
    · rw [if_pos ((oI_ge (by omega)).mpr (by rw [sch_lt]; exact y)), if_pos y]
      rfl
    · rw [if_neg (fun v => y (by rw [← sch_lt]; exact (oI_ge (by omega)).mp v)), if_neg y]
      rfl
end
