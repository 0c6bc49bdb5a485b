/-! changes of the law's film -/
section
variable {g g' : PL} {R E E' : Nat → Nat → Nat} {wid : Nat → Nat} {f f' : Nat}
theorem DG.congr (q : DG g R E wid f) (e0 : E' 0 1 = E 0 1) (e2 : ∀ s, s < E 0 1 → E' 2 s = E 2 s) (e1 : ∀ w, w < 40 → E' 1 w = E 1 w) (e3 : ∀ b, b < 40 → E' 3 b = E 3 b) (e4 : ∀ b, b < 40 → E' 4 b = E 4 b) (e5 : E' 5 0 = E 5 0) : DG g R E' wid f :=
  ⟨q.d, q.n, q.bn, q.len, q.han, q.w, q.first, q.beg, q.ends, q.cut, fun b hb => by rw [e3 b hb]; exact q.head b hb, fun b hb => by rw [e4 b hb]; exact q.tail b hb, fun b hb => by rw [e1 b hb]; exact q.out b hb, q.film, q.fo, by rw [e0]; exact q.fk, fun s hs => by rw [e0] at hs; rw [e2 s hs]; exact q.fv s hs, e5.trans q.fl⟩
/-- a new film -/
theorem DG.nf (q : DG g R E wid f) (hf : g.1 ≤ f') (hf2 : f' < g'.1) (hp : g'.1 ≤ 600000) (h3 : ∀ o, o < g.1 → g'.2.1 o = g.2.1 o) (h4 : ∀ o, o < g.1 → ¬ o = 0 → ¬ o = 1 → g'.2.2 o = g.2.2 o) (h5 : ∀ j, ¬ j = 15 → g'.2.2 1 j = g.2.2 1 j) (h15 : g'.2.2 1 15 = nI f') (hk : g'.2.1 f' = (4, E' 0 1)) (hv : ∀ s, s < E' 0 1 → g'.2.2 f' s = nI (E' 2 s)) (e1 : ∀ w, w < 40 → E' 1 w = E 1 w) (e3 : ∀ b, b < 40 → E' 3 b = E 3 b) (e4 : ∀ b, b < 40 → E' 4 b = E 4 b) (e5 : E' 5 0 = E 5 0) : DG g' R E' wid f' := by
  have h12 := q.d.n
  have k : ∀ o, 2 ≤ o → o < 12 → g'.2.2 o = g.2.2 o := fun o a b => h4 o (by omega) (by omega) (by omega)
  refine ⟨q.d.cg (by omega) hp h3 (fun j _ _ _ _ a _ => h5 j a), by rw [h5 5 (by decide)]; exact q.n, by rw [h5 7 (by decide)]; exact q.bn, by rw [h5 0 (by decide)]; exact q.len, by rw [h5 1 (by decide)]; exact q.han, fun w hw => ?_, by rw [k 4 (by decide) (by decide)]; exact q.first, by rw [k 5 (by decide) (by decide)]; exact q.beg, by rw [k 6 (by decide) (by decide)]; exact q.ends, by rw [k 7 (by decide) (by decide)]; exact q.cut, fun b hb => by rw [k 8 (by decide) (by decide), e3 b hb]; exact q.head b hb, fun b hb => by rw [k 9 (by decide) (by decide), e4 b hb]; exact q.tail b hb, fun b hb => by rw [k 10 (by decide) (by decide), e1 b hb]; exact q.out b hb, h15, ⟨by omega, hf2⟩, hk, hv, e5.trans q.fl⟩
  obtain ⟨w1, w2, w3, w4, w5⟩ := q.w w hw
  rw [k 2 (by decide) (by decide), h3 _ w3, h4 _ w3 (by omega) (by omega)]
  exact ⟨w1, w2, by omega, w4, w5⟩
theorem DG.g8 (q : DG g R E wid f) {b v : Nat} : DG (gu g 8 b (nI v)) R (setE E 3 b v) wid f := by
  have k : ∀ o, ¬ o = 8 → (gu g 8 b (nI v)).2.2 o = g.2.2 o := fun o h => by rw [gu_h, up_o h]
  have hfo := q.fo
  refine ⟨q.d.cg (Nat.le_refl _) q.d.p (fun _ _ => rfl) (fun j _ _ _ _ _ _ => by rw [k 1 (by decide)]), by rw [k 1 (by decide)]; exact q.n, by rw [k 1 (by decide)]; exact q.bn, by rw [k 1 (by decide)]; exact q.len, by rw [k 1 (by decide)]; exact q.han, fun w hw => ?_, by rw [k 4 (by decide)]; exact q.first, by rw [k 5 (by decide)]; exact q.beg, by rw [k 6 (by decide)]; exact q.ends, by rw [k 7 (by decide)]; exact q.cut, fun c hc => ?_, by rw [k 9 (by decide)]; exact q.tail, by rw [k 10 (by decide)]; exact q.out, by rw [k 1 (by decide)]; exact q.film, q.fo, q.fk, by rw [k f (by omega)]; exact q.fv, q.fl⟩
  · have := (q.w w hw).2.1
    rw [k 2 (by decide), k _ (by omega)]
    exact q.w w hw
  · rw [gu_h]
    by_cases e : c = b
    · rw [e, up_ss, setE_s]
    · rw [up_sn e, setE_n e]; exact q.head c hc
theorem DG.g9 (q : DG g R E wid f) {b v : Nat} : DG (gu g 9 b (nI v)) R (setE E 4 b v) wid f := by
  have k : ∀ o, ¬ o = 9 → (gu g 9 b (nI v)).2.2 o = g.2.2 o := fun o h => by rw [gu_h, up_o h]
  have hfo := q.fo
  refine ⟨q.d.cg (Nat.le_refl _) q.d.p (fun _ _ => rfl) (fun j _ _ _ _ _ _ => by rw [k 1 (by decide)]), by rw [k 1 (by decide)]; exact q.n, by rw [k 1 (by decide)]; exact q.bn, by rw [k 1 (by decide)]; exact q.len, by rw [k 1 (by decide)]; exact q.han, fun w hw => ?_, by rw [k 4 (by decide)]; exact q.first, by rw [k 5 (by decide)]; exact q.beg, by rw [k 6 (by decide)]; exact q.ends, by rw [k 7 (by decide)]; exact q.cut, by rw [k 8 (by decide)]; exact q.head, fun c hc => ?_, by rw [k 10 (by decide)]; exact q.out, by rw [k 1 (by decide)]; exact q.film, q.fo, q.fk, by rw [k f (by omega)]; exact q.fv, q.fl⟩
  · have := (q.w w hw).2.1
    rw [k 2 (by decide), k _ (by omega)]
    exact q.w w hw
  · rw [gu_h]
    by_cases e : c = b
    · rw [e, up_ss, setE_s]
    · rw [up_sn e, setE_n e]; exact q.tail c hc
theorem DG.g10 (q : DG g R E wid f) {b v : Nat} : DG (gu g 10 b (nI (1 - v))) R (setE E 1 b v) wid f := by
  have k : ∀ o, ¬ o = 10 → (gu g 10 b (nI (1 - v))).2.2 o = g.2.2 o := fun o h => by rw [gu_h, up_o h]
  have hfo := q.fo
  refine ⟨q.d.cg (Nat.le_refl _) q.d.p (fun _ _ => rfl) (fun j _ _ _ _ _ _ => by rw [k 1 (by decide)]), by rw [k 1 (by decide)]; exact q.n, by rw [k 1 (by decide)]; exact q.bn, by rw [k 1 (by decide)]; exact q.len, by rw [k 1 (by decide)]; exact q.han, fun w hw => ?_, by rw [k 4 (by decide)]; exact q.first, by rw [k 5 (by decide)]; exact q.beg, by rw [k 6 (by decide)]; exact q.ends, by rw [k 7 (by decide)]; exact q.cut, by rw [k 8 (by decide)]; exact q.head, by rw [k 9 (by decide)]; exact q.tail, fun c hc => ?_, by rw [k 1 (by decide)]; exact q.film, q.fo, q.fk, by rw [k f (by omega)]; exact q.fv, q.fl⟩
  · have := (q.w w hw).2.1
    rw [k 2 (by decide), k _ (by omega)]
    exact q.w w hw
  · rw [gu_h]
    by_cases e : c = b
    · rw [e, up_ss, setE_s]
    · rw [up_sn e, setE_n e]; exact q.out c hc
/-- the frame of a step that makes a new film: at most k new objects -/
def NF (k : Nat) (g g' : PL) : Prop := g.1 ≤ g'.1 ∧ g'.1 ≤ g.1 + k ∧ g'.2.2 0 = g.2.2 0 ∧ (∀ o, o < g.1 → g'.2.1 o = g.2.1 o) ∧ ∀ o, o < g.1 → ¬ o = 1 → ¬ (8 ≤ o ∧ o ≤ 10) → g'.2.2 o = g.2.2 o
theorem NF.rf (g : PL) : NF 0 g g := ⟨Nat.le_refl _, Nat.le_refl _, rfl, fun _ _ => rfl, fun _ _ _ _ => rfl⟩
theorem NF.tr {a b k : Nat} {g1 g2 g3 : PL} (p : NF a g1 g2) (q : NF b g2 g3) (h : a + b ≤ k) : NF k g1 g3 := by
  obtain ⟨p1, p2, p3, p4, p5⟩ := p
  obtain ⟨q1, q2, q3, q4, q5⟩ := q
  exact ⟨by omega, by omega, q3.trans p3, fun o h => (q4 o (by omega)).trans (p4 o h), fun o h a c => (q5 o (by omega) a c).trans (p5 o h a c)⟩
theorem NF.gu {g : PL} {o j : Nat} {v : Int32} (h : o = 1 ∨ (8 ≤ o ∧ o ≤ 10)) : NF 0 g (gu g o j v) := ⟨Nat.le_refl _, Nat.le_refl _, by rw [gu_h, up_o (by omega)], fun _ _ => rfl, fun k _ a b => by rw [gu_h, up_o (by omega)]⟩
theorem NF.mono {a b : Nat} {g1 g2 : PL} (p : NF a g1 g2) (h : a ≤ b) : NF b g1 g2 := ⟨p.1, by have := p.2.1; omega, p.2.2.1, p.2.2.2.1, p.2.2.2.2⟩
/-- a row of m places is made, filled place by place, and becomes the film -/
theorem row_new (q : DG g R E wid f) (hp : g.1 ≤ 500000) {m : Nat} (hm : m ≤ 60) {u : PL} (hu : u = gnew g 4 m (fun _ => 0)) : u.1 = g.1 + 1 ∧ (∀ o, o < g.1 → u.2.1 o = g.2.1 o) ∧ (∀ o, o < g.1 → u.2.2 o = g.2.2 o) ∧ u.2.1 g.1 = (4, m) ∧ DG u R E wid f := by
  have k1 : ∀ o, o < g.1 → u.2.1 o = g.2.1 o := fun o ho => by rw [hu, nw_ko ho]
  have v1 : ∀ o, o < g.1 → u.2.2 o = g.2.2 o := fun o ho => by rw [hu, nw_ho ho]
  have n1 : u.1 = g.1 + 1 := by rw [hu]; rfl
  exact ⟨n1, k1, v1, by rw [hu, nw_k], q.cg (by omega) (by omega) k1 (fun o ho _ => v1 o ho)⟩
theorem row_up (q : DG g R E wid f) {u g1 : PL} (n1 : u.1 = g.1 + 1) (hp : g.1 ≤ 500000) (k1 : ∀ o, o < g.1 → u.2.1 o = g.2.1 o) (v1 : ∀ o, o < g.1 → u.2.2 o = g.2.2 o) (o1 : O1 g.1 u g1) : DG g1 R E wid f := q.cg (by rw [o1.1]; omega) (by rw [o1.1]; omega) (fun o ho => by rw [o1.2.1, k1 o ho]) (fun o ho _ => by rw [o1.2.2 o (by omega), v1 o ho])
/-- the row becomes the film -/
theorem row_set (q : DG g R E wid f) {u g1 : PL} (n1 : u.1 = g.1 + 1) (hp : g.1 ≤ 500000) (k1 : ∀ o, o < g.1 → u.2.1 o = g.2.1 o) (v1 : ∀ o, o < g.1 → u.2.2 o = g.2.2 o) (kr : u.2.1 g.1 = (4, E' 0 1)) (o1 : O1 g.1 u g1) (hv : ∀ s, s < E' 0 1 → g1.2.2 g.1 s = nI (E' 2 s)) (e1 : ∀ w, w < 40 → E' 1 w = E 1 w) (e3 : ∀ b, b < 40 → E' 3 b = E 3 b) (e4 : ∀ b, b < 40 → E' 4 b = E 4 b) (e5 : E' 5 0 = E 5 0) : DG (gu g1 1 15 (nI g.1)) R E' wid g.1 ∧ NF 1 g (gu g1 1 15 (nI g.1)) := by
  have hd := q.d.n
  have N : (gu g1 1 15 (nI g.1)).1 = g.1 + 1 := by show g1.1 = _; rw [o1.1, n1]
  have K : ∀ o, o < g.1 → (gu g1 1 15 (nI g.1)).2.1 o = g.2.1 o := fun o ho => by show g1.2.1 o = _; rw [o1.2.1, k1 o ho]
  have V : ∀ o, o < g.1 → ¬ o = 1 → (gu g1 1 15 (nI g.1)).2.2 o = g.2.2 o := fun o ho h => by rw [gu_h, up_o h, o1.2.2 o (by omega), v1 o ho]
  refine ⟨q.nf (Nat.le_refl _) (by omega) (by omega) K (fun o ho _ h => V o ho h) (fun j hj => by rw [gu_h, up_sn hj, o1.2.2 1 (by omega), v1 1 (by omega)]) (by rw [gu_h, up_ss]) (by show g1.2.1 g.1 = _; rw [o1.2.1, kr]) (fun s hs => by rw [gu_h, up_o (by omega)]; exact hv s hs) e1 e3 e4 e5, by omega, by omega, V 0 (by omega) (by decide), K, fun o ho h _ => V o ho h⟩
theorem DG.ckf (q : DG g R E wid f) : (gk g 1 0) = true := q.d.g1
/-- a shot is put into the film -/
theorem d_putShot (q : DG g R E wid f) (hn : E 0 1 < 40) (hp : g.1 ≤ 500000) {s b : Nat} (hs : s ≤ E 0 1) : ∃ u, fp_X11_putShot g 1 (nI s) (nI b) = some u ∧ DG u R (putE E s b) wid g.1 ∧ NF 1 g u ∧ u.1 = g.1 + 1 := by
  have hd := q.d.n
  have hfo := q.fo
  obtain ⟨u1, hu1⟩ : ∃ u, u = gnew g 4 (E 0 1 + 1) (fun _ => 0) := ⟨_, rfl⟩
  obtain ⟨n1, k1, v1, kr, q1⟩ := row_new q hp (by omega) hu1
  have key : Wp (fp_X11_putShot g 1 (nI s) (nI b)) (fun u => DG u R (putE E s b) wid g.1 ∧ NF 1 g u ∧ u.1 = g.1 + 1) := by
    unfold fp_X11_putShot
    rw [q.rf, ck_of q.gf, q.lf, ck_of (rkb_i (show 1 < g.1 by omega)), show nI (E 0 1) + (1 : Int32) = nI (E 0 1 + 1) from nI_add _ 1, ix_n (show E 0 1 + 1 < 2147483648 by omega), ck_of (by rw [ngw_i (by omega) (by omega), decide_eq_true (nI_pos' (show E 0 1 + 1 < 2147483648 by omega))]; rfl), ← hu1, stp_eq]
    refine wp_for (i := 0) (E 0 1 + 1) (fun i x => ∃ g1, x = (nI i, g1) ∧ O1 g.1 u1 g1 ∧ ∀ j, j < i → g1.2.2 g.1 j = nI (putE E s b 2 j)) (by omega) (Nat.zero_le _) ⟨u1, rfl, O1.rf _ _, fun j h => absurd h (Nat.not_lt_zero _)⟩ ?_
    rintro i x r hi ⟨g1, rfl, o1, hv⟩ kk
    have q2 := row_up q n1 hp k1 v1 o1
    have N1 : g1.1 = g.1 + 1 := by rw [o1.1, n1]
    have kr1 : g1.2.1 g.1 = (4, E 0 1 + 1) := by rw [o1.2.1, kr]
    have gr : gk g1 g.1 4 = true := gk_i (by omega) (by rw [kr1])
    have lr : gl g1 g.1 = E 0 1 + 1 := by show (g1.2.1 g.1).2 = _; rw [kr1]
    unfold Fp_X11_putShot_13
    dsimp only
    rw [ck_of gr, lr]
    by_cases z : i < E 0 1 + 1
    · have cr : (gk g1 g.1 4 && inb (nI i) (gl g1 g.1)) = true := by rw [gr, lr, inb_t z (by omega)]; rfl
      have step : ∀ v : Nat, v = putE E s b 2 i → Wp (Jp_X11_putShot_58 1 (nI s) (nI b) g1 r g.1 (nI i) g.1 (nI i) (nI v)) (fun u => DG u R (putE E s b) wid g.1 ∧ NF 1 g u ∧ u.1 = g.1 + 1) := fun v hvv => by
        unfold Jp_X11_putShot_58
        rw [ck_of cr, ix_n (show i < 2147483648 by omega), stp_eq, show nI i + (1 : Int32) = nI (i + 1) from nI_add i 1, stp_eq]
        refine kk _ z ⟨gu g1 g.1 i (nI v), rfl, o1.tr (O1.up _ _ _ _), fun j hj => ?_⟩
        rw [gu_h]
        by_cases e : j = i
        · rw [e, up_ss, hvv]
        · rw [up_sn e]; exact hv j (by omega)
      rw [if_pos (lty z (by omega))]
      by_cases y : i < s
      · rw [if_pos (lty y (by omega)), q2.rf, ck_of (q2.if (show i < E 0 1 by omega) (by omega)), ix_n (show i < 2147483648 by omega), q2.fv i (by omega)]
        exact step _ (by show _ = (if i < s then E 2 i else _); rw [if_pos y])
      · rw [if_neg (ltn (by omega) (by omega))]
        by_cases e : i = s
        · rw [if_pos (by rw [e])]
          exact step _ (by show _ = (if i < s then _ else if i = s then b else _); rw [if_neg y, if_pos e])
        · rw [if_neg (eqo e (by omega) (by omega)), q2.rf, show nI i - (1 : Int32) = nI (i - 1) from sub_n (b := 1) (by omega), ck_of (q2.if (show i - 1 < E 0 1 by omega) (by omega)), ix_n (show i - 1 < 2147483648 by omega), q2.fv (i - 1) (by omega)]
          exact step _ (by show _ = (if i < s then _ else if i = s then b else E 2 (i - 1)); rw [if_neg y, if_neg e])
    · have e : i = E 0 1 + 1 := by omega
      subst e
      rw [if_neg (ltn (by omega) (by omega))]
      unfold Jp_X11_putShot_65
      rw [ck_of (by rw [q2.d.g1, rkb_i (show g.1 < g1.1 by omega), lt31 (by omega)]; rfl), stp_eq]
      obtain ⟨a1, a2⟩ := row_set (E' := putE E s b) q n1 hp k1 v1 kr o1 hv (fun _ _ => rfl) (fun _ _ => rfl) (fun _ _ => rfl) rfl
      exact wp_some.mpr ⟨a1, a2, by show g1.1 = _; omega⟩
  obtain ⟨u, e, a, b, c⟩ := key
  exact ⟨u, e, a, b, c⟩
/-- a shot is taken out of the film -/
theorem d_takeOut (q : DG g R E wid f) (hn : E 0 1 ≤ 40) (hp : g.1 ≤ 500000) {s : Nat} (hs : s < E 0 1) (p1 x2 : Int32) (hsh : fp_X11_shotOf g 1 x2 = some (nI s)) : ∃ u, Jp_X11_cutOne_51 1 p1 g x2 = some u ∧ DG u R (outE E s) wid g.1 ∧ NF 1 g u := by
  have hd := q.d.n
  have hfo := q.fo
  obtain ⟨u1, hu1⟩ : ∃ u, u = gnew g 4 (E 0 1 - 1) (fun _ => 0) := ⟨_, rfl⟩
  obtain ⟨n1, k1, v1, kr, q1⟩ := row_new q hp (by omega) hu1
  have key : Wp (Jp_X11_cutOne_51 1 p1 g x2) (fun u => DG u R (outE E s) wid g.1 ∧ NF 1 g u) := by
    unfold Jp_X11_cutOne_51
    rw [ck_of q.d.g1, hsh, bnd_some, if_pos (nI_pos' (show s < 2147483648 by omega)), q.rf, ck_of q.gf, q.lf, ck_of (rkb_i (show 1 < g.1 by omega)), show nI (E 0 1) - (1 : Int32) = nI (E 0 1 - 1) from sub_n (b := 1) (by omega), ix_n (show E 0 1 - 1 < 2147483648 by omega), ck_of (by rw [ngw_i (by omega) (by omega), decide_eq_true (nI_pos' (show E 0 1 - 1 < 2147483648 by omega))]; rfl), ← hu1, stp_eq]
    refine wp_for (i := 0) (E 0 1 - 1) (fun i x => ∃ g1, x = (nI i, g1) ∧ O1 g.1 u1 g1 ∧ ∀ j, j < i → g1.2.2 g.1 j = nI (outE E s 2 j)) (by omega) (Nat.zero_le _) ⟨u1, rfl, O1.rf _ _, fun j h => absurd h (Nat.not_lt_zero _)⟩ ?_
    rintro i x r hi ⟨g1, rfl, o1, hv⟩ kk
    have q2 := row_up q n1 hp k1 v1 o1
    have N1 : g1.1 = g.1 + 1 := by rw [o1.1, n1]
    have kr1 : g1.2.1 g.1 = (4, E 0 1 - 1) := by rw [o1.2.1, kr]
    have gr : gk g1 g.1 4 = true := gk_i (by omega) (by rw [kr1])
    have lr : gl g1 g.1 = E 0 1 - 1 := by show (g1.2.1 g.1).2 = _; rw [kr1]
    unfold Fp_X11_cutOne_76
    dsimp only
    rw [ck_of gr, lr]
    by_cases z : i < E 0 1 - 1
    · have cr : (gk g1 g.1 4 && inb (nI i) (gl g1 g.1)) = true := by rw [gr, lr, inb_t z (by omega)]; rfl
      have step : ∀ k : Nat, k < E 0 1 → E 2 k = outE E s 2 i → Wp (Jp_X11_cutOne_107 1 p1 g1 r (nI s) g.1 (nI i) g.1 (nI i) f (nI k)) (fun u => DG u R (outE E s) wid g.1 ∧ NF 1 g u) := fun k hk hvv => by
        unfold Jp_X11_cutOne_107
        rw [ck_of (q2.if hk (by omega)), ck_of cr, ix_n (show i < 2147483648 by omega), ix_n (show k < 2147483648 by omega), q2.fv k hk, stp_eq, show nI i + (1 : Int32) = nI (i + 1) from nI_add i 1, stp_eq]
        refine kk _ z ⟨gu g1 g.1 i (nI (E 2 k)), rfl, o1.tr (O1.up _ _ _ _), fun j hj => ?_⟩
        rw [gu_h]
        by_cases e : j = i
        · rw [e, up_ss, hvv]
        · rw [up_sn e]; exact hv j (by omega)
      rw [if_pos (lty z (by omega)), q2.rf]
      by_cases y : i < s
      · rw [if_pos (lty y (by omega))]
        exact step i (by omega) (by show _ = (if i < s then E 2 i else _); rw [if_pos y])
      · rw [if_neg (ltn (by omega) (by omega)), show nI i + (1 : Int32) = nI (i + 1) from nI_add i 1]
        exact step (i + 1) (by omega) (by show _ = (if i < s then _ else E 2 (i + 1)); rw [if_neg y])
    · have e : i = E 0 1 - 1 := by omega
      subst e
      rw [if_neg (ltn (by omega) (by omega))]
      unfold Jp_X11_cutOne_115
      rw [ck_of (by rw [q2.d.g1, rkb_i (show g.1 < g1.1 by omega), lt31 (by omega)]; rfl), stp_eq]
      exact wp_some.mpr (row_set (E' := outE E s) q n1 hp k1 v1 kr o1 hv (fun _ _ => rfl) (fun _ _ => rfl) (fun _ _ => rfl) rfl)
  obtain ⟨u, e, a, b⟩ := key
  exact ⟨u, e, a, b⟩
end
