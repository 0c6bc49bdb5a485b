/-! the loops of the acts, both sides -/
section
variable {h : Hp} {g : PL} {c f : Nat} {R E : Nat → Nat → Nat} {wid : Nat → Nat}
theorem DG.cut0 (q : DG g R E wid f) (hE : WE R E) (hX : WX R E) : DG g R (cutK R E (E 1)) wid f := by
  have e := cutK_id hE hX
  refine q.congr ?_ (fun s hs => cutK_get ?_) (fun _ _ => rfl) (fun _ _ => rfl) (fun _ _ => rfl) rfl
  · show ((ordL E).filter (hasB R (E 1))).length = _
    rw [e, ordL_len]
  · rw [e]; exact ordL_get hs
/-- what an act leaves: the law's check holds -/
def AO (c : Nat) (R : Nat → Nat → Nat) (wid : Nat → Nat) (N : Nat) (x : Int32 × (Hp × PL)) : Prop := x.1 = 1 ∧ ∃ E' f', KH x.2.1 c R E' ∧ DG x.2.2 R E' wid f' ∧ x.2.2.1 ≤ N
theorem l_cuts (p : KH h c R E) (q : DG g R E wid f) {row a b N : Nat} (hp : g.1 ≤ 400000) (hN : g.1 + 4 ≤ N) (hab : a ≤ b) (hb : b < (trA R E).length) (hb3 : b ≤ a + 2) (hr1 : 12 ≤ row) (hr2 : row < g.1) (hr3 : g.2.1 row = (4, (trA R E).length)) (hr4 : Arr (g.2.2 row) (trA R E)) : Wp (Lp (Fp_L_does_115 1 0 h row (nI a) (nI b) (nI (fs R E (E 0 1)))) FU (nI a, g, 2)) (AO c R wid N) := by
  have pq := p.1
  have hl := trA_le pq.W pq.E
  refine wp_for (i := a) (b + 1) (fun i x => ∃ g1 f1, x = (nI i, g1, 2 + (i - a)) ∧ a ≤ i ∧ DG g1 R (cutK R E (KC R E a i)) wid f1 ∧ NF (i - a) g g1) (by omega) (by omega) ⟨g, f, by rw [Nat.sub_self], Nat.le_refl _, by rw [KC_0]; exact q.cut0 pq.E pq.X, by rw [Nat.sub_self]; exact NF.rf g⟩ ?_
  rintro i x r hi ⟨g1, f1, rfl, hai, q1, nf⟩ kk
  have nfb := nf.2.1
  have nfa := nf.1
  have rk : g1.2.1 row = (4, (trA R E).length) := by rw [nf.2.2.2.1 row hr2]; exact hr3
  have rv : Arr (g1.2.2 row) (trA R E) := hr4.o (nf.2.2.2.2 row hr2 (by omega) (by omega))
  have gr : gk g1 row 4 = true := gk_i (by omega) (by rw [rk])
  have lr : gl g1 row = (trA R E).length := by show (g1.2.1 row).2 = _; rw [rk]
  unfold Fp_L_does_115
  dsimp only
  by_cases z : i < b + 1
  · obtain ⟨w, hw⟩ := lget (show i < (trA R E).length by omega)
    have hw2 := (trA_get pq.W pq.E hw).1
    obtain ⟨f2, u, e, q2, nf2⟩ := d_cutOne pq.W pq.E (fun v hv => KC_le pq.E hv) (cutK_WX pq.W pq.E pq.X (fun v _ hv => KC_1 hv)) q1 (by omega) hw2 (KC_n pq.W pq.E hw)
    have ek : K0 (KC R E a i) w = KC R E a (i + 1) := (KC_s hai hw).symm
    rw [ek] at q2
    rw [if_neg (ltn (by omega) (by omega)), ck_of (by rw [gr, lr, inb_t (show i < (trA R E).length by omega) (by omega)]; rfl), ck_of (rkb_i (show 1 < g1.1 by have := q1.d.n; omega)), ck_of (rkb_i (show row < g1.1 by omega)), ck_of (decide_eq_true (show 2 + (i - a) + 1 ≤ 7 by omega)), ck_of q1.d.g1, ix_n (show i < 2147483648 by omega), rv i w hw, e, bnd_some, show nI i + (1 : Int32) = nI (i + 1) from nI_add i 1, stp_eq, ck_of (decide_eq_true (show 2 + (i - a) + 1 ≤ 7 by omega))]
    exact kk _ z ⟨u, f2, by rw [show 2 + (i + 1 - a) = 2 + (i - a) + 1 by omega], by omega, q2, nf.tr nf2 (by omega)⟩
  · have e : i = b + 1 := by omega
    subst e
    obtain ⟨u, ea, pu⟩ := k_cut p hab hb
    rw [if_pos (lty (by omega) (by omega))]
    unfold Jp_L_does_137
    rw [ea, bnd_some]
    (try dsimp only)
    rw [ck_of (by rfl), ck_of q1.d.g1, d_len pu.1.W pu.1.E q1, bnd_some, if_pos rfl]
    exact wp_some.mpr ⟨rfl, _, f1, pu, q1, by show g1.1 ≤ N; omega⟩
theorem l_rests (p : KH h c R E) (q : DG g R E wid f) {w z N : Nat} (hp : g.1 ≤ 400000) (hN : g.1 + 4 ≤ N) (hwz : w ≤ z) (hz : z < R 0 4) (hz3 : z ≤ w + 3) : Wp (Lp (Fp_L_does_245 1 0 h (nI w) (nI z)) FU ((0 : Int32), nI w, g, 2)) (AO c R wid N) := by
  have pq := p.1
  have h40 := pq.W.w40
  refine wp_for (i := 0) (z + 1 - w) (fun i x => ∃ g1 f1, x = (nI (rA R E w i).2, nI (w + i), g1, 2 + i) ∧ DG g1 R (rA R E w i).1 wid f1 ∧ NF i g g1) (by omega) (Nat.zero_le _) ⟨g, f, rfl, q, NF.rf g⟩ ?_
  rintro i x r hi ⟨g1, f1, rfl, q1, nf⟩ kk
  have nfb := nf.2.1
  have nfa := nf.1
  have W1 := (rA_W pq.W pq.E pq.X (a := w) i (by omega)).1
  have hc := rA_c R E w i
  unfold Fp_L_does_245
  dsimp only
  by_cases y : i < z + 1 - w
  · have k1 := W1.k1 (w + i) (by omega)
    rw [if_neg (ltn (by omega) (by omega)), q1.r10, ck_of (q1.d.i10 (show w + i < 40 by omega)), show g1.2.2 10 (ix (nI (w + i))) = nI (1 - (rA R E w i).1 1 (w + i)) from by rw [ix_n (by omega)]; exact q1.out _ (by omega)]
    unfold Jp_L_does_274
    by_cases e : (rA R E w i).1 1 (w + i) = 1
    · rw [e, if_pos (show nI (1 - 1) = (0 : Int32) from rfl), show nI (w + i) + (1 : Int32) = nI (w + i + 1) from nI_add _ 1, stp_eq, ck_of (decide_eq_true (show 2 + i + 1 ≤ 7 by omega))]
      have es : rA R E w (i + 1) = rA R E w i := by rw [rA_s, if_pos e]
      exact kk _ y ⟨g1, f1, by rw [es]; rfl, by rw [es]; exact q1, nf.mono (by omega)⟩
    · have e0 : (rA R E w i).1 1 (w + i) = 0 := by omega
      obtain ⟨f2, u, e2, q2, nf2⟩ := d_restoreOne pq.W W1 q1 (by omega) (w := w + i) (by omega)
      have es : rA R E w (i + 1) = (resE R (rA R E w i).1 (w + i), (rA R E w i).2 + 1) := by rw [rA_s, if_neg e]
      rw [e0, if_neg (show ¬ nI (1 - 0) = (0 : Int32) by decide), ck_of (rkb_i (show 1 < g1.1 by have := q1.d.n; omega)), ck_of (decide_eq_true (show 2 + i + 1 ≤ 7 by omega)), ck_of q1.d.g1, e2, bnd_some, show nI (rA R E w i).2 + (1 : Int32) = nI ((rA R E w i).2 + 1) from nI_add _ 1, stp_eq, show nI (w + i) + (1 : Int32) = nI (w + i + 1) from nI_add _ 1, stp_eq, ck_of (decide_eq_true (show 2 + i + 1 ≤ 7 by omega))]
      exact kk _ y ⟨u, f2, by rw [es]; rfl, by rw [es]; exact q2, nf.tr nf2 (by omega)⟩
  · have e : i = z + 1 - w := by omega
    subst e
    obtain ⟨u, ea, pu⟩ := k_rest p hwz hz
    rw [if_pos (lty (show z < w + (z + 1 - w) by omega) (by omega))]
    unfold Jp_L_does_280
    rw [ea, bnd_some]
    (try dsimp only)
    rw [ck_of (by rfl), if_pos rfl]
    exact wp_some.mpr ⟨rfl, _, f1, pu, q1, by show g1.1 ≤ N; omega⟩
theorem l_moves (p : KH h c R E) (q : DG g R E wid f) {a k t N : Nat} {a3 : Int32} (hp : g.1 ≤ 400000) (hN : g.1 + 7 ≤ N) (hk : 0 < k) (hk5 : k ≤ 5) (ha : a + k ≤ E 0 1) (ht : t + k ≤ E 0 1) (m1 : ¬ a3 < -nI 1) (m2 : a3 < nI (E 0 1)) (m3 : a3 < nI a ∨ (¬ a3 < nI a ∧ nI (a + k - 1) < a3)) (m4 : (a3 < nI a ∧ a3 + nI 1 = nI t) ∨ (¬ a3 < nI a ∧ a3 + nI 1 - nI k = nI t)) : Wp (Jp_L_does_500 1 0 h g (nI a) (nI (a + k - 1)) a3) (AO c R wid N) := by
  have pq := p.1
  obtain ⟨f1, u, e, q1, nf⟩ := d_move pq.W pq.E q hp hk hk5 ha ht rfl m4
  obtain ⟨h1, ea, pu⟩ := k_move p hk ha ht m1 m2 m3 m4
  have nfb := nf.2.1
  unfold Jp_L_does_500
  rw [ck_of q.d.g1, e, bnd_some, ea, bnd_some]
  (try dsimp only)
  rw [ck_of (by rfl), if_pos rfl]
  exact wp_some.mpr ⟨rfl, _, f1, pu, q1, by show u.1 ≤ N; omega⟩
end
