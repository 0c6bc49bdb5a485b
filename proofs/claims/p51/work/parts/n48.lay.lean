/-! the law's blocks: the words' loop -/
section
variable {g : PL} {P S : Nat → Nat → Nat} {wid bid : Nat → Nat} {n nb T w : Nat}
theorem nwB_9 (R : Nat → Nat → Nat) (w j : Nat) : nwB R w 9 j = if j = R 0 13 then w else R 9 j := by
  have := nw_9 R w j
  rw [ex_0 (by decide) (by decide)] at this
  exact this
theorem nwB_10 (R : Nat → Nat → Nat) (w j : Nat) : nwB R w 10 j = if j = R 0 13 then R 4 w else R 10 j := by
  have := nw_10 R w j
  rw [ex_0 (by decide) (by decide)] at this
  exact this
theorem nwB_11 (R : Nat → Nat → Nat) (w j : Nat) : nwB R w 11 j = if j = R 0 13 then R 5 w else R 11 j := by
  unfold nwB
  rw [setE_o (by decide)]
  by_cases e : j = R 0 13
  · rw [if_pos e, e, setE_s]
  · rw [if_neg e, setE_n e, setE_o (by decide), setE_o (by decide)]
theorem nwB_o {R : Nat → Nat → Nat} {w o j : Nat} (h1 : ¬ o = 0) (h2 : ¬ o = 9) (h3 : ¬ o = 10) (h4 : ¬ o = 11) : nwB R w o j = R o j := by
  unfold nwB
  rw [setE_o h1, setE_o h4, setE_o h3, setE_o h2]
theorem d_j54n (q : WB g P wid bid n nb T) (l : LY g P S wid w) (h40 : n ≤ 40) (hw : w < n) (hT : T < 1000) (hb2 : S 0 13 < 40) (e4 : S 4 w = P 4 w) (e5 : S 5 w = P 5 w) (r : Int32 × PL → Option PL) : ∃ g', Jp_X11_layBlocks_54 1 g r (nI w) (nI 0) = r (nI (w + 1), g') ∧ WB g' P wid bid n nb T ∧ LY g' P (exB (nwB S w) w) wid (w + 1) ∧ LZ wid n g g' := by
  have hd := q.d.n
  have hx : ∀ v, v < n → 12 ≤ wid v := fun v hv => (q.w v hv).2.1
  have i2 : ix (2 : Int32) = 2 := ix_n (a := 2) (by decide)
  obtain ⟨w1, w2, w3, w4, w5, w6, w7, w8⟩ := q.w w hw
  obtain ⟨ga, hga⟩ : ∃ u, u = gu g 4 (S 0 13) (nI w) := ⟨_, rfl⟩
  have fa : LZ wid n g ga := by
    rw [hga]
    exact ⟨rfl, rfl, fun j _ => by rw [gu_h, up_o (by decide)], fun o _ h _ => by rw [gu_h, up_o (by omega)], fun v hv j hj => by rw [gu_h, up_o (by have := hx v hv; omega)]⟩
  have qa := q.lz fa
  have a7 : ga.2.2 1 7 = nI (S 0 13) := by rw [hga, gu_h, up_o (by decide)]; exact l.n7
  have y4 : ga.2.2 (wid w) 2 = nI (P 4 w) := (qa.w w hw).2.2.2.2.2.1
  obtain ⟨gb, hgb⟩ : ∃ u, u = gu ga 5 (S 0 13) (nI (P 4 w)) := ⟨_, rfl⟩
  have fb : LZ wid n ga gb := by
    rw [hgb]
    exact ⟨rfl, rfl, fun j _ => by rw [gu_h, up_o (by decide)], fun o _ h _ => by rw [gu_h, up_o (by omega)], fun v hv j hj => by rw [gu_h, up_o (by have := hx v hv; omega)]⟩
  have qb := qa.lz fb
  have b7 : gb.2.2 1 7 = nI (S 0 13) := by rw [hgb, gu_h, up_o (by decide)]; exact a7
  obtain ⟨gc, hgc⟩ : ∃ u, u = gu gb 1 7 (nI (S 0 13 + 1)) := ⟨_, rfl⟩
  have fc : LZ wid n gb gc := by
    rw [hgc]
    exact ⟨rfl, rfl, fun j h => by rw [gu_h, up_sn h], fun o h _ _ => by rw [gu_h, up_o h], fun v hv j hj => by rw [gu_h, up_o (by have := hx v hv; omega)]⟩
  have qc := qb.lz fc
  have fac := (fa.tr fb).tr fc
  obtain ⟨g', e', q', l', f'⟩ := d_j95 (S := nwB S w) (m := 0) qc h40 hw hT (by rw [nw_13]; omega) (by rw [nw_13]; omega) (by rw [nw_13, hgc, gu_h, up_ss]) (fun b hb => by
    rw [nw_13] at hb
    rw [nwB_9, hgc, gu_h, up_o (by decide), hgb, gu_h, up_o (by decide), hga, gu_h]
    by_cases z : b = S 0 13
    · rw [if_pos z, z, up_ss]
    · rw [if_neg z, up_sn z]; exact l.f b (by omega)) (fun b hb => by
    rw [nw_13] at hb
    rw [nwB_10, hgc, gu_h, up_o (by decide), hgb, gu_h]
    by_cases z : b = S 0 13
    · rw [if_pos z, z, up_ss, e4]
    · rw [if_neg z, up_sn z, hga, gu_h, up_o (by decide)]; exact l.b b (by omega)) (fun b => by
    rw [nw_13, Nat.add_sub_cancel, nwB_11, hgc, gu_h, up_o (by decide), hgb, gu_h, up_o (by decide), hga, gu_h, up_o (by decide), l.e]
    by_cases z : b < S 0 13
    · rw [if_pos z, if_pos z, if_neg (by omega)]
    · rw [if_neg z, if_neg z]
      by_cases y : b = S 0 13
      · rw [if_pos y]
      · rw [if_neg y]) (by decide) (by rw [nw_13, Nat.add_sub_cancel, nwB_11, if_pos rfl, nwB_o (by decide) (by decide) (by decide) (by decide), e5]; omega) (fun v hv => by
    rw [nwB_o (by decide) (by decide) (by decide) (by decide), hgc, gu_h, up_o (by have := hx v (by omega); omega), hgb, gu_h, up_o (by have := hx v (by omega); omega), hga, gu_h, up_o (by have := hx v (by omega); omega)]
    exact l.k v hv) r
  refine ⟨g', ?_, q', l', fac.tr f'⟩
  have p4 : g.2.2 1 8 = nI 4 := q.d.f8 8 (by decide) (by decide)
  have p5 : ga.2.2 1 9 = nI 5 := qa.d.f8 9 (by decide) (by decide)
  unfold Jp_X11_layBlocks_54
  rw [if_pos (show (nI 0 : Int32) = 0 from rfl), i2, ckn_of q.d.g1 p4 (by omega), ck_of q.d.g1, l.n7, ck_of (q.d.i41 (p := 4) (by decide) (by decide) (by omega)), ix_n (show S 0 13 < 2147483648 by omega), ← hga, stp_eq, ckn_of qa.d.g1 p5 (by omega), ck_of qa.d.g1, qa.rd h40 hw, ck_of (qa.i5 hw (by decide)), a7, ck_of (qa.d.i41 (p := 5) (by decide) (by decide) (by omega)), ix_n (show S 0 13 < 2147483648 by omega), y4, ← hgb, stp_eq, ck_of qb.d.g1, ck_of qb.d.g1, b7, show nI (S 0 13) + (1 : Int32) = nI (S 0 13 + 1) from nI_add _ 1, ← hgc, stp_eq]
  exact e'
theorem d_j54e (q : WB g P wid bid n nb T) (l : LY g P S wid w) (h40 : n ≤ 40) (hw : w < n) (hT : T < 1000) (hb : 0 < S 0 13) (hb2 : S 0 13 ≤ 40) (e5 : S 5 w = P 5 w) (hm : S 11 (S 0 13 - 1) < 100000) (r : Int32 × PL → Option PL) : ∃ g', Jp_X11_layBlocks_54 1 g r (nI w) (nI 1) = r (nI (w + 1), g') ∧ WB g' P wid bid n nb T ∧ LY g' P (exB S w) wid (w + 1) ∧ LZ wid n g g' := by
  obtain ⟨g', e', q', l', f'⟩ := d_j95 (S := S) (m := S 11 (S 0 13 - 1)) q h40 hw hT hb hb2 l.n7 l.f l.b (fun b => by
    rw [l.e]
    by_cases z : b < S 0 13 - 1
    · rw [if_pos z, if_pos (by omega)]
    · rw [if_neg z]
      by_cases y : b = S 0 13 - 1
      · rw [if_pos y, if_pos (by omega), y]
      · rw [if_neg y, if_neg (by omega)]) hm (by rw [e5]) l.k r
  refine ⟨g', ?_, q', l', f'⟩
  unfold Jp_X11_layBlocks_54
  rw [if_neg (show ¬ (nI 1 : Int32) = 0 by decide)]
  exact e'
theorem d_join {Q : PL → Prop} (q : WB g P wid bid n nb T) (h40 : n ≤ 40) (hw : w < n) (hT : T < 1000) (r : Int32 × PL → Option PL) (fin : ∀ c, c ≤ 1 → (c = 1 ↔ ∃ v, v < w ∧ P 4 w < P 5 v) → Wp (Jp_X11_layBlocks_54 1 g r (nI w) (nI c)) Q) : Wp (Lp (Fp_X11_layBlocks_14 1 g r (nI w)) FU ((0 : Int32), (0 : Int32))) Q := by
  have i2 : ix (2 : Int32) = 2 := ix_n (a := 2) (by decide)
  have i3 : ix (3 : Int32) = 3 := ix_n (a := 3) (by decide)
  refine wp_for (i := 0) w (fun j s => ∃ c, s = (nI c, nI j) ∧ c ≤ 1 ∧ (c = 1 ↔ ∃ v, v < j ∧ P 4 w < P 5 v)) (by omega) (Nat.zero_le _) ⟨0, rfl, by decide, ⟨fun h => by omega, fun ⟨v, h, _⟩ => absurd h (Nat.not_lt_zero _)⟩⟩ ?_
  rintro j s k hj ⟨c, rfl, hc, hi⟩ kk
  unfold Fp_X11_layBlocks_14
  dsimp only
  by_cases z : j < w
  · obtain ⟨x1, x2, x3⟩ := q.wx j (by omega)
    obtain ⟨x1', x2', x3'⟩ := q.wx w hw
    obtain ⟨-, -, -, -, -, y6, -, y8⟩ := q.w w hw
    have one : (∃ v, v < j + 1 ∧ P 4 w < P 5 v) → Wp (Jp_X11_layBlocks_42 1 g r k (nI w) (nI j)) Q := fun h => by
      unfold Jp_X11_layBlocks_42 Jp_X11_layBlocks_47
      rw [show nI j + (1 : Int32) = nI (j + 1) from nI_add j 1, stp_eq]
      exact kk _ z ⟨1, rfl, Nat.le_refl _, ⟨fun _ => h, fun _ => rfl⟩⟩
    rw [if_pos (lty z (by omega))]
    by_cases c0 : c = 0
    · rw [c0, if_pos (show (nI 0 : Int32) = 0 from rfl), i2, i3, q.rd h40 (show j < n by omega), ck_of (q.i5 (by omega) (by decide)), q.rd h40 hw, ck_of (q.i5 hw (by decide)), x1, y6]
      by_cases y : P 4 w < P 5 j
      · rw [if_pos (lty y (by omega))]
        exact one ⟨j, by omega, y⟩
      · rw [if_neg (ltn (by omega) (by omega))]
        unfold Jp_X11_layBlocks_47
        rw [show nI j + (1 : Int32) = nI (j + 1) from nI_add j 1, stp_eq]
        refine kk _ z ⟨0, rfl, by decide, ⟨fun h => by omega, fun ⟨v, h1, h2⟩ => ?_⟩⟩
        by_cases e : v = j
        · rw [e] at h2; exact absurd h2 y
        · have := hi.mpr ⟨v, by omega, h2⟩
          omega
    · have c1 : c = 1 := by omega
      rw [c1, if_neg (show ¬ (nI 1 : Int32) = 0 by decide)]
      obtain ⟨v, h1, h2⟩ := hi.mp c1
      exact one ⟨v, by omega, h2⟩
  · have e : j = w := by omega
    subst e
    rw [if_neg (ltn (by omega) (by omega))]
    exact fin c hc hi
theorem d_bl {Q : PL → Prop} (q : WB g P wid bid n nb T) (hD : WD P) (hh : holds P (P 0 4)) (hT : T < 1000) (hPT : P 0 0 = T) (h7 : g.2.2 1 7 = nI 0) (hz : ∀ o, 4 ≤ o → o < 12 → g.2.2 o = fun _ => 0) (fin : ∀ g', WB g' P wid bid n nb T → LY g' P (bS P n) wid n → LZ wid n g g' → Wp (Jp_X11_layBlocks_148 1 g') Q) : Wp (fp_X11_layBlocks g 1) Q := by
  have h40 := hD.w40
  have hn := q.rn
  unfold fp_X11_layBlocks
  refine wp_for (i := 0) n (fun w s => ∃ g1, s = (nI w, g1) ∧ WB g1 P wid bid n nb T ∧ LY g1 P (bS P w) wid w ∧ LZ wid n g g1) (by omega) (Nat.zero_le _) ⟨g, rfl, q, ?_, LZ.rf _ _ _⟩ ?_
  · have e : bS P 0 = P := rfl
    rw [e]
    refine ⟨by rw [hD.b0]; exact h7, fun b hb => ?_, fun b hb => ?_, fun b => ?_, fun v hv => absurd hv (Nat.not_lt_zero _)⟩
    · rw [hD.b0] at hb; exact absurd hb (Nat.not_lt_zero _)
    · rw [hD.b0] at hb; exact absurd hb (Nat.not_lt_zero _)
    · rw [hD.b0, if_neg (Nat.not_lt_zero _), hz 6 (by decide) (by decide)]; rfl
  · rintro w s r hw ⟨g1, rfl, q1, l1, f1⟩ kk
    have ib := IB.all hD hh w (by omega)
    have hbw := ib.bw
    unfold Fp_X11_layBlocks_2
    dsimp only
    rw [ck_of q1.d.g1, q1.n5]
    by_cases z : w < n
    · have e4 := ib.s 4 w (by decide) (by decide) (by decide) (by decide) (by omega)
      have e5 := ib.s 5 w (by decide) (by decide) (by decide) (by decide) (by omega)
      have ji := joins_iff hD hh (w := w) (by omega)
      rw [if_pos (lty z (by omega))]
      refine d_join q1 (by omega) z hT r (fun c hc hi => ?_)
      by_cases y : newB (bS P w) w
      · have c0 : c = 0 := by
          apply Classical.byContradiction
          intro c1
          exact ji.mp (hi.mp (by omega)) y
        obtain ⟨g2, x1, x2, x3, x4⟩ := d_j54n q1 l1 (by omega) z hT (by omega) e4 e5 r
        rw [c0, x1]
        refine kk _ z ⟨g2, rfl, x2, ?_, f1.tr x4⟩
        rw [bS_s, stB, if_pos y]
        exact x3
      · have c1 : c = 1 := hi.mpr (ji.mpr y)
        have hp : 0 < bS P w 0 13 := by
          apply Classical.byContradiction
          intro c2
          exact y (Or.inl (by omega))
        have hbs := ib.bse (bS P w 0 13 - 1) (by omega)
        obtain ⟨g2, x1, x2, x3, x4⟩ := d_j54e q1 l1 (by omega) z hT hp (by omega) e5 (by omega) r
        rw [c1, x1]
        refine kk _ z ⟨g2, rfl, x2, ?_, f1.tr x4⟩
        rw [bS_s, stB, if_neg y]
        exact x3
    · have e : w = n := by omega
      subst e
      rw [if_neg (ltn (by omega) (by omega))]
      exact fin g1 q1 l1 f1
end
