/-! the law cuts a word, and restores one -/
section
variable {g : PL} {R E : Nat → Nat → Nat} {K : Nat → Nat} {wid : Nat → Nat} {f : Nat}
def K0 (K : Nat → Nat) (w : Nat) : Nat → Nat := fun v => if v = w then 0 else K v
theorem cut_E (hW : WR R) (hE : WE R E) (hk1 : ∀ w, w < 40 → K w ≤ 1) (hX : WX R (cutK R E K)) {w : Nat} (hw : w < R 0 4) (hkw : K w = 1) : ∃ s, s < cutK R E K 0 1 ∧ sch (fun s => cutK R E K 2 s = R 6 w) (cutK R E K 0 1) = s ∧ (¬ hasB R (K0 K w) (R 6 w) = true → cutK R E (K0 K w) 0 1 = cutK R E K 0 1 - 1 ∧ ∀ t, t < cutK R E K 0 1 - 1 → cutK R E (K0 K w) 2 t = outE (cutK R E K) s 2 t) ∧ (hasB R (K0 K w) (R 6 w) = true → cutK R E (K0 K w) 0 1 = cutK R E K 0 1 ∧ ∀ t, t < cutK R E K 0 1 → cutK R E (K0 K w) 2 t = cutK R E K 2 t) := by
  obtain ⟨f1, f2, f3, f4, f5, f6⟩ := w_facts hW hw
  have hblk := hW.wb w hw
  have hE1 := cutK_WE hW hE hk1
  obtain ⟨s, hs, es⟩ := hX.kept w hw hkw
  have hss : sch (fun s => cutK R E K 2 s = R 6 w) (cutK R E K 0 1) = s := sch_u (Nat.le_of_lt hs) (fun j hj e => by have := hE1.inj j s (Nat.lt_trans hj hs) hs (e.trans es.symm); omega) (fun _ => es)
  have hsb : ((ordL E).filter (hasB R K))[s]? = some (R 6 w) := by
    have : (ordL (cutK R E K))[s]? = some (cutK R E K 2 s) := ordL_get hs
    rw [ordL_cut, es] at this
    exact this
  have hother : ∀ b, b < R 0 13 → b ≠ R 6 w → hasB R (K0 K w) b = hasB R K b := by
    intro b hb hne
    have key : ∀ v, R 9 b ≤ v → v < R 9 (b + 1) → ¬ v = w := by
      intro v h1 h2 e
      subst e
      exact hne (hW.blk b v hb h1 h2).1.symm
    rw [Bool.eq_iff_iff, hasB_iff, hasB_iff]
    constructor
    · rintro ⟨v, h1, h2, h3⟩
      have h3 : (if v = w then 0 else K v) = 1 := h3
      rw [if_neg (key v h1 h2)] at h3
      exact ⟨v, h1, h2, h3⟩
    · rintro ⟨v, h1, h2, h3⟩
      exact ⟨v, h1, h2, by show (if v = w then 0 else K v) = 1; rw [if_neg (key v h1 h2)]; exact h3⟩
  have hlt2 : ∀ b ∈ ordL E, b < R 0 13 := fun b hb => by
    obtain ⟨t, h1, h2⟩ := ordL_mem.mp hb
    rw [← h2]
    exact hE.lt t h1
  refine ⟨s, hs, hss, fun z1 => ?_, fun z1 => ?_⟩
  · have ef : (ordL E).filter (hasB R (K0 K w)) = ((ordL E).filter (hasB R K)).eraseIdx s := by
      rw [← filter_erase _ s (List.Pairwise.filter _ (ordL_nodup hE)) hsb, List.filter_filter]
      refine List.filter_congr (fun b hb => ?_)
      by_cases e : b = R 6 w
      · rw [e, Bool.eq_false_iff.mpr z1]
        simp
      · rw [hother b (hlt2 b hb) e]
        simp [e]
    refine ⟨?_, fun t ht => ?_⟩
    · show ((ordL E).filter (hasB R (K0 K w))).length = ((ordL E).filter (hasB R K)).length - 1
      rw [ef, List.length_eraseIdx, if_pos (show s < ((ordL E).filter (hasB R K)).length from hs)]
    · refine cutK_get ?_
      have ht : t < ((ordL E).filter (hasB R K)).length - 1 := ht
      rw [ef, List.getElem?_eraseIdx]
      show _ = some (if t < s then cutK R E K 2 t else cutK R E K 2 (t + 1))
      by_cases y : t < s
      · rw [if_pos y, if_pos y]
        obtain ⟨x, hx⟩ := lget (show t < ((ordL E).filter (hasB R K)).length by omega)
        rw [cutK_get hx, hx]
      · rw [if_neg y, if_neg y]
        obtain ⟨x, hx⟩ := lget (show t + 1 < ((ordL E).filter (hasB R K)).length by omega)
        rw [cutK_get hx, hx]
  · have ef : (ordL E).filter (hasB R (K0 K w)) = (ordL E).filter (hasB R K) := by
      refine List.filter_congr (fun b hb => ?_)
      by_cases e : b = R 6 w
      · rw [e, z1]
        exact (hasB_iff.mpr ⟨w, hblk.2.1, hblk.2.2, hkw⟩).symm
      · exact hother b (hlt2 b hb) e
    refine ⟨?_, fun t ht => ?_⟩
    · show ((ordL E).filter (hasB R (K0 K w))).length = ((ordL E).filter (hasB R K)).length
      rw [ef]
    · refine cutK_get ?_
      rw [ef]
      obtain ⟨x, hx⟩ := lget (show t < ((ordL E).filter (hasB R K)).length from ht)
      show _ = some (cutK R E K 2 t)
      rw [cutK_get hx, hx]
theorem d_cutOne (hW : WR R) (hE : WE R E) (hk1 : ∀ w, w < 40 → K w ≤ 1) (hX : WX R (cutK R E K)) (q : DG g R (cutK R E K) wid f) (hp : g.1 ≤ 500000) {w : Nat} (hw : w < R 0 4) (hkw : K w = 1) : ∃ f' u, fp_X11_cutOne g 1 (nI w) = some u ∧ DG u R (cutK R E (K0 K w)) wid f' ∧ NF 1 g u := by
  obtain ⟨f1, f2, f3, f4, f5, f6⟩ := w_facts hW hw
  have h40 := hW.w40
  have hbw := hW.bw
  have hblk := hW.wb w hw
  have hE1 := cutK_WE hW hE hk1
  have hn1 := hE1.n
  have hbl := bw_le hW (b := R 6 w + 1) (by omega)
  have hlt := hW.wlt _ f6
  obtain ⟨s, hs, hss, c1, c2⟩ := cut_E hW hE hk1 hX hw hkw
  have hE2 : WE R (setE (cutK R E K) 1 w 0) := by
    refine ⟨hE1.n, hE1.lt, hE1.inj, fun v hv => ?_, hE1.hd, hE1.tl, hE1.fl⟩
    show (if v = w then 0 else K v) ≤ 1
    split
    · omega
    · exact hk1 v hv
  obtain ⟨u1, hu1⟩ : ∃ u, u = gu g 10 w (nI (1 - 0)) := ⟨_, rfl⟩
  have q1 : DG u1 R (setE (cutK R E K) 1 w 0) wid f := by rw [hu1]; exact q.g10
  have nf1 : NF 0 g u1 := by rw [hu1]; exact NF.gu (Or.inr ⟨by decide, by decide⟩)
  have n1 : u1.1 = g.1 := by rw [hu1]; rfl
  have p4 : u1.2.2 1 8 = nI 4 := q1.d.f8 8 (by decide) (by decide)
  have i4 : ix (4 : Int32) = 4 := ix_n (a := 4) (by decide)
  have key : Wp (fp_X11_cutOne g 1 (nI w)) (fun u => ∃ f', DG u R (cutK R E (K0 K w)) wid f' ∧ NF 1 g u) := by
    unfold fp_X11_cutOne
    rw [q.r10, ck_of (q.d.i10 f1), show gu g 10 (ix (nI w)) (1 : Int32) = u1 from by rw [ix_n (by omega)]; exact hu1.symm, stp_eq, q1.rd h40 hw, ck_of (q1.i5 hw (by decide)), i4, (q1.w w hw).2.2.2.2.2.2.2, stp_eq, ckn_of q1.d.g1 p4 (by omega), ck_of (q1.d.i41 (p := 4) (by decide) (by decide) (by omega)), ix_n (show R 6 w < 2147483648 by omega), q1.first _ (by omega), stp_eq]
    refine wp_for (i := R 9 (R 6 w)) (R 9 (R 6 w + 1)) (fun v x => x = nI v ∧ R 9 (R 6 w) ≤ v ∧ ∀ u, R 9 (R 6 w) ≤ u → u < v → ¬ K0 K w u = 1) (by omega) (by omega) ⟨rfl, Nat.le_refl _, fun u a b => by omega⟩ ?_
    rintro v x r hv ⟨rfl, hv0, hno⟩ kk
    unfold Fp_X11_cutOne_23
    rw [ckn_of q1.d.g1 p4 (by omega), show nI (R 6 w) + (1 : Int32) = nI (R 6 w + 1) from nI_add _ 1, ck_of (q1.d.i41 (p := 4) (by decide) (by decide) (by omega)), ix_n (show R 6 w + 1 < 2147483648 by omega), q1.first _ (by omega)]
    by_cases z : v < R 9 (R 6 w + 1)
    · rw [if_pos (lty z (by omega)), q1.r10, ck_of (q1.d.i10 (by omega)), ix_n (show v < 2147483648 by omega), q1.out v (by omega)]
      by_cases y : K0 K w v = 1
      · rw [show setE (cutK R E K) 1 w 0 1 v = 1 from y, if_pos (show nI (1 - 1) = (0 : Int32) from rfl)]
        obtain ⟨d1, d2⟩ := c2 (hasB_iff.mpr ⟨v, hv0, z, y⟩)
        exact wp_some.mpr ⟨f, q1.congr d1 d2 (fun _ _ => rfl) (fun _ _ => rfl) (fun _ _ => rfl) rfl, nf1.mono (by omega)⟩
      · have y0 : setE (cutK R E K) 1 w 0 1 v = 0 := by
          have := hE2.k1 v (by omega)
          have y : ¬ setE (cutK R E K) 1 w 0 1 v = 1 := y
          omega
        rw [y0, if_neg (show ¬ nI (1 - 0) = (0 : Int32) by decide), show nI v + (1 : Int32) = nI (v + 1) from nI_add v 1, stp_eq]
        refine kk _ z ⟨rfl, by omega, fun u a b => ?_⟩
        by_cases e : u = v
        · rw [e]; exact y
        · exact hno u a (by omega)
    · have e : v = R 9 (R 6 w + 1) := by omega
      subst e
      rw [if_neg (ltn (by omega) (by omega))]
      have hnb : ¬ hasB R (K0 K w) (R 6 w) = true := fun y => by
        obtain ⟨u, a, b, c⟩ := hasB_iff.mp y
        exact hno u a b c
      obtain ⟨d1, d2⟩ := c1 hnb
      have hso := d_shotOf hW hE2 q1 (b := R 6 w) (by omega)
      have hso : fp_X11_shotOf u1 1 (nI (R 6 w)) = some (oI (cutK R E K 0 1) (sch (fun s => cutK R E K 2 s = R 6 w) (cutK R E K 0 1))) := hso
      rw [hss, oI, if_pos hs] at hso
      obtain ⟨u, e1, e2, e3⟩ := d_takeOut q1 (by show cutK R E K 0 1 ≤ 40; omega) (by omega) (show s < setE (cutK R E K) 1 w 0 0 1 from hs) (nI w) (nI (R 6 w)) hso
      rw [e1]
      refine wp_some.mpr ⟨_, e2.congr d1 d2 (fun _ _ => rfl) (fun _ _ => rfl) (fun _ _ => rfl) rfl, nf1.tr e3 (by omega)⟩
  obtain ⟨u, e, f', a, b⟩ := key
  exact ⟨f', u, e, a, b⟩
theorem oI_lt {n i : Nat} (hn : n < 2147483648) : (oI n i < 0) ↔ ¬ i < n := by
  unfold oI
  by_cases z : i < n
  · rw [if_pos z]
    exact ⟨fun h => absurd h (nI_pos (by omega)), fun h => absurd z h⟩
  · rw [if_neg z]
    exact ⟨fun _ => z, fun _ => by decide⟩
theorem imax_m {a : Nat} (ha : a < 2147483648) : imax (-nI 1) (nI a) = nI a := by
  have h : -nI 1 < nI a := by
    rw [Int32.lt_iff_toInt_lt, nI_toInt ha, show (-nI 1).toInt = -1 from by decide]
    omega
  unfold imax
  rw [if_pos h]
def nrI (E : Nat → Nat → Nat) (b s : Nat) : Int32 := if insN E b s = 0 then -nI 1 else nI (E 2 (insN E b s - 1))
theorem d_restoreOne (hW : WR R) (hE : WE R E) (q : DG g R E wid f) (hp : g.1 ≤ 500000) {w : Nat} (hw : w < R 0 4) : ∃ f' u, fp_X11_restoreOne g 1 (nI w) = some u ∧ DG u R (resE R E w) wid f' ∧ NF 1 g u := by
  obtain ⟨f1, f2, f3, f4, f5, f6⟩ := w_facts hW hw
  have h40 := hW.w40
  have hbw := hW.bw
  have hn := hE.n
  have hblk := hW.wb w hw
  have hE1 : WE R (setE E 1 w 1) := setK_WE hE (by decide)
  obtain ⟨u1, hu1⟩ : ∃ u, u = gu g 10 w (nI (1 - 1)) := ⟨_, rfl⟩
  have q1 : DG u1 R (setE E 1 w 1) wid f := by rw [hu1]; exact q.g10
  have nf1 : NF 0 g u1 := by rw [hu1]; exact NF.gu (Or.inr ⟨by decide, by decide⟩)
  have n1 : u1.1 = g.1 := by rw [hu1]; rfl
  have hd := q1.d.n
  have i4 : ix (4 : Int32) = 4 := ix_n (a := 4) (by decide)
  have hso : fp_X11_shotOf u1 1 (nI (R 6 w)) = some (oI (E 0 1) (sch (fun s => E 2 s = R 6 w) (E 0 1))) := d_shotOf hW hE1 q1 (b := R 6 w) (by omega)
  have key : Wp (fp_X11_restoreOne g 1 (nI w)) (fun u => ∃ f', DG u R (resE R E w) wid f' ∧ NF 1 g u) := by
    unfold fp_X11_restoreOne
    rw [q.r10, ck_of (q.d.i10 f1), show gu g 10 (ix (nI w)) (0 : Int32) = u1 from by rw [ix_n (by omega)]; exact hu1.symm, stp_eq, q1.rd h40 hw, ck_of (q1.i5 hw (by decide)), i4, (q1.w w hw).2.2.2.2.2.2.2, stp_eq, ck_of q1.d.g1, hso, bnd_some]
    by_cases y : ∃ s, s < E 0 1 ∧ E 2 s = R 6 w
    · rw [if_neg (show ¬ oI (E 0 1) (sch (fun s => E 2 s = R 6 w) (E 0 1)) < 0 from fun v => (oI_lt (by omega)).mp v (by rw [sch_lt]; exact y)), resE_y y]
      exact wp_some.mpr ⟨f, q1, nf1.mono (by omega)⟩
    · have hroom := room_in hE f6 y
      rw [if_pos ((oI_lt (by omega)).mpr (fun v => y (by rw [← sch_lt]; exact v))), q1.rf, ck_of q1.gf, q1.lf, stp_eq]
      -- the shot is put in its place
      have put : Wp (Jp_X11_restoreOne_90 1 (nI w) u1 (nI (R 6 w)) 1 (nI (insN E (R 6 w) (E 0 1)))) (fun u => ∃ f', DG u R (resE R E w) wid f' ∧ NF 1 g u) := by
        have hil := insN_le E (R 6 w) (E 0 1)
        obtain ⟨u2, e2, q2, nf2, n2⟩ := d_putShot q1 (show setE E 1 w 1 0 1 < 40 by show E 0 1 < 40; omega) (by omega) (s := insN E (R 6 w) (E 0 1)) (b := R 6 w) (by show _ ≤ E 0 1; exact hil)
        have p8 : u2.2.2 1 12 = nI 8 := q2.d.f8 12 (by decide) (by decide)
        have q3 := q2.g8 (b := R 6 w) (v := 0)
        have p9 : (gu u2 8 (R 6 w) (nI 0)).2.2 1 13 = nI 9 := q3.d.f8 13 (by decide) (by decide)
        have q4 := q3.g9 (b := R 6 w) (v := 0)
        unfold Jp_X11_restoreOne_90
        rw [ck_of (rkb_i (show 1 < u1.1 by omega)), ck_of q1.d.g1, e2, bnd_some, ckn_of q2.d.g1 p8 (by omega), ck_of (q2.d.i41 (p := 8) (by decide) (by decide) (by omega)), ix_n (show R 6 w < 2147483648 by omega), show gu u2 8 (R 6 w) (0 : Int32) = gu u2 8 (R 6 w) (nI 0) from rfl, stp_eq, ckn_of q3.d.g1 p9 (by omega), ck_of (q3.d.i41 (p := 9) (by decide) (by decide) (by omega)), stp_eq]
        refine wp_some.mpr ⟨u1.1, ?_, ((nf1.tr nf2 (k := 1) (by omega)).tr (NF.gu (o := 8) (j := R 6 w) (v := nI 0) (Or.inr ⟨by decide, by decide⟩)) (k := 1) (by omega)).tr (NF.gu (o := 9) (j := R 6 w) (v := nI 0) (Or.inr ⟨by decide, by decide⟩)) (by omega)⟩
        rw [resE_n y]
        exact q4
      refine wp_for (i := 0) (E 0 1) (fun s x => x = (nrI E (R 6 w) s, nI s)) (by omega) (Nat.zero_le _) rfl ?_
      rintro s x r hs rfl kk
      unfold Fp_X11_restoreOne_41
      dsimp only
      have en : setE E 1 w 1 0 1 = E 0 1 := rfl
      rw [en]
      by_cases z : s < E 0 1
      · have hb := hE.lt s z
        have hil := insN_le E (R 6 w) s
        have hlt : ¬ insN E (R 6 w) s = 0 → E 2 (insN E (R 6 w) s - 1) < R 0 13 := fun a => hE.lt _ (by omega)
        rw [if_pos (lty z (by omega)), ck_of (q1.if (s := s) (by show s < E 0 1; exact z) (by show E 0 1 ≤ 40; omega)), ix_n (show s < 2147483648 by omega), q1.fv s (by show s < E 0 1; exact z), stp_eq, show setE E 1 w 1 2 s = E 2 s from rfl]
        unfold Jp_X11_restoreOne_68
        by_cases a : E 2 s < R 6 w
        · rw [if_pos (lty a (by omega))]
          by_cases i0 : insN E (R 6 w) s = 0
          · rw [show imax (nrI E (R 6 w) s) (nI (E 2 s)) = nrI E (R 6 w) (s + 1) from by
              unfold nrI
              rw [if_pos i0, imax_m (by omega), insN_y ⟨a, Or.inl i0⟩, if_neg (by omega), Nat.add_sub_cancel], stp_eq, show nI s + (1 : Int32) = nI (s + 1) from nI_add s 1, stp_eq]
            exact kk _ z rfl
          · have hl := hlt i0
            by_cases b : E 2 (insN E (R 6 w) s - 1) < E 2 s
            · rw [show imax (nrI E (R 6 w) s) (nI (E 2 s)) = nrI E (R 6 w) (s + 1) from by
                unfold nrI
                rw [if_neg i0, imax_n (by omega) (by omega), insN_y ⟨a, Or.inr b⟩, if_neg (by omega), Nat.add_sub_cancel, Nat.max_eq_right (by omega)], stp_eq, show nI s + (1 : Int32) = nI (s + 1) from nI_add s 1, stp_eq]
              exact kk _ z rfl
            · rw [show imax (nrI E (R 6 w) s) (nI (E 2 s)) = nrI E (R 6 w) (s + 1) from by
                unfold nrI
                rw [if_neg i0, imax_n (by omega) (by omega), insN_n (fun v => by rcases v.2 with v | v <;> omega), if_neg i0, Nat.max_eq_left (by omega)], stp_eq, show nI s + (1 : Int32) = nI (s + 1) from nI_add s 1, stp_eq]
              exact kk _ z rfl
        · rw [if_neg (ltn (by omega) (by omega)), show nI s + (1 : Int32) = nI (s + 1) from nI_add s 1, stp_eq]
          refine kk _ z ?_
          unfold nrI
          rw [insN_n (fun v => a v.1)]
      · have e : s = E 0 1 := by omega
        subst e
        have hil := insN_le E (R 6 w) (E 0 1)
        rw [if_neg (ltn (by omega) (by omega))]
        unfold Jp_X11_restoreOne_74
        by_cases i0 : insN E (R 6 w) (E 0 1) = 0
        · rw [show nrI E (R 6 w) (E 0 1) = -nI 1 from by unfold nrI; rw [if_pos i0], if_neg (show ¬ (0 : Int32) ≤ -nI 1 by decide)]
          rw [i0] at put
          exact put
        · have hl := hE.lt (insN E (R 6 w) (E 0 1) - 1) (by omega)
          have h2 := d_shotOf hW hE1 q1 (b := E 2 (insN E (R 6 w) (E 0 1) - 1)) (by omega)
          have h2 : fp_X11_shotOf u1 1 (nI (E 2 (insN E (R 6 w) (E 0 1) - 1))) = some (oI (E 0 1) (sch (fun s => E 2 s = E 2 (insN E (R 6 w) (E 0 1) - 1)) (E 0 1))) := h2
          have hsc : sch (fun s => E 2 s = E 2 (insN E (R 6 w) (E 0 1) - 1)) (E 0 1) = insN E (R 6 w) (E 0 1) - 1 := sch_u (by omega) (fun j hj e => by
            have := hE.inj j (insN E (R 6 w) (E 0 1) - 1) (by omega) (by omega) e
            omega) (fun _ => rfl)
          rw [hsc, oI, if_pos (show insN E (R 6 w) (E 0 1) - 1 < E 0 1 by omega)] at h2
          rw [show nrI E (R 6 w) (E 0 1) = nI (E 2 (insN E (R 6 w) (E 0 1) - 1)) from by unfold nrI; rw [if_neg i0], if_pos (nI_pos' (show E 2 (insN E (R 6 w) (E 0 1) - 1) < 2147483648 by omega)), ck_of q1.d.g1, h2, bnd_some, show nI (insN E (R 6 w) (E 0 1) - 1) + (1 : Int32) = nI (insN E (R 6 w) (E 0 1)) from by rw [show nI (insN E (R 6 w) (E 0 1) - 1) + (1 : Int32) = nI (insN E (R 6 w) (E 0 1) - 1 + 1) from nI_add _ 1, Nat.sub_add_cancel (by omega)]]
          exact put
  obtain ⟨u, e, f', a, b⟩ := key
  exact ⟨f', u, e, a, b⟩
end
