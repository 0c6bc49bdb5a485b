/-! the recording that the law draws: its fixed objects; a word takes its place -/
def DK (g : PL) : Prop :=
  (12 ≤ g.1) ∧
  (g.1 ≤ 600000) ∧
  (g.2.1 0 = (1, 0)) ∧
  (g.2.1 1 = (0, 0)) ∧
  (g.2.1 2 = (7, 40)) ∧
  (g.2.1 3 = (7, 12)) ∧
  (∀ j, 4 ≤ j → j ≤ 9 → g.2.1 j = (4, 41)) ∧
  (g.2.1 10 = (5, 40)) ∧
  (g.2.2 1 3 = nI 2) ∧
  (g.2.2 1 4 = nI 3) ∧
  (∀ j, 8 ≤ j → j ≤ 14 → g.2.2 1 j = nI (j - 4))
theorem DK.n {g : PL} (q : DK g) : 12 ≤ g.1 := q.1
theorem DK.p {g : PL} (q : DK g) : g.1 ≤ 600000 := q.2.1
theorem DK.k0 {g : PL} (q : DK g) : g.2.1 0 = (1, 0) := q.2.2.1
theorem DK.k1 {g : PL} (q : DK g) : g.2.1 1 = (0, 0) := q.2.2.2.1
theorem DK.k2 {g : PL} (q : DK g) : g.2.1 2 = (7, 40) := q.2.2.2.2.1
theorem DK.k3 {g : PL} (q : DK g) : g.2.1 3 = (7, 12) := q.2.2.2.2.2.1
theorem DK.kn {g : PL} (q : DK g) : ∀ j, 4 ≤ j → j ≤ 9 → g.2.1 j = (4, 41) := q.2.2.2.2.2.2.1
theorem DK.kz {g : PL} (q : DK g) : g.2.1 10 = (5, 40) := q.2.2.2.2.2.2.2.1
theorem DK.f3 {g : PL} (q : DK g) : g.2.2 1 3 = nI 2 := q.2.2.2.2.2.2.2.2.1
theorem DK.f4 {g : PL} (q : DK g) : g.2.2 1 4 = nI 3 := q.2.2.2.2.2.2.2.2.2.1
theorem DK.f8 {g : PL} (q : DK g) : ∀ j, 8 ≤ j → j ≤ 14 → g.2.2 1 j = nI (j - 4) := q.2.2.2.2.2.2.2.2.2.2
section
variable {g : PL}
theorem DK.g0 (k : DK g) : gk g 0 1 = true := gk_i (by have := k.n; omega) (by rw [k.k0])
theorem DK.g1 (k : DK g) : gk g 1 0 = true := gk_i (by have := k.n; omega) (by rw [k.k1])
theorem DK.g2 (k : DK g) : gk g 2 7 = true := gk_i (by have := k.n; omega) (by rw [k.k2])
theorem DK.g3 (k : DK g) : gk g 3 7 = true := gk_i (by have := k.n; omega) (by rw [k.k3])
theorem DK.l2 (k : DK g) : gl g 2 = 40 := by show (g.2.1 2).2 = 40; rw [k.k2]
theorem DK.l3 (k : DK g) : gl g 3 = 12 := by show (g.2.1 3).2 = 12; rw [k.k3]
/-- the words of the pool told by a draft -/
def WO (g : PL) (R : Nat → Nat → Nat) (wid : Nat → Nat) (n : Nat) : Prop := ∀ w, w < n → g.2.2 2 w = nI (wid w) ∧ 12 ≤ wid w ∧ wid w < g.1 ∧ g.2.1 (wid w) = (4, 5) ∧ g.2.2 (wid w) 0 = nI (R 3 w) ∧ g.2.2 (wid w) 2 = nI (R 4 w) ∧ R 3 w < 1000 ∧ R 4 w < 1000
/-- only the row of words has changed -/
def OW (g g' : PL) : Prop := g'.1 = g.1 ∧ g'.2.1 = g.2.1 ∧ ∀ o, ¬ o = 2 → g'.2.2 o = g.2.2 o
theorem OW.dk {g' : PL} (w : OW g g') (k : DK g) : DK g' := ⟨by rw [w.1]; exact k.n, by rw [w.1]; exact k.p, by rw [w.2.1]; exact k.k0, by rw [w.2.1]; exact k.k1, by rw [w.2.1]; exact k.k2, by rw [w.2.1]; exact k.k3, by rw [w.2.1]; exact k.kn, by rw [w.2.1]; exact k.kz, by rw [w.2.2 1 (by decide)]; exact k.f3, by rw [w.2.2 1 (by decide)]; exact k.f4, by rw [w.2.2 1 (by decide)]; exact k.f8⟩
def insW (wid : Nat → Nat) (t p j : Nat) : Nat := if j < t then wid j else if j = t then p else wid (j - 1)
theorem d_putWord {R : Nat → Nat → Nat} {wid : Nat → Nat} {n p sp st : Nat} (k : DK g) (hw : WO g R wid n) (hn : g.2.2 1 5 = nI n) (hR : R 0 4 = n) (h40 : n < 40) (hp : 12 ≤ p) (hp2 : p < g.1) (hpk : g.2.1 p = (4, 5)) (hp0 : g.2.2 p 0 = nI sp) (hp4 : g.2.2 p 2 = nI st) (hsp : sp < 1000) (hst : st < 1000) : Wp (fp_X11_putWord g 1 p) (fun u => ∃ t, insAt R st sp t ∧ u.1 = g.1 ∧ u.2.1 = g.2.1 ∧ (∀ o, ¬ o = 1 → ¬ o = 2 → u.2.2 o = g.2.2 o) ∧ (∀ j, ¬ j = 5 → u.2.2 1 j = g.2.2 1 j) ∧ u.2.2 1 5 = nI (n + 1) ∧ ∀ j, j ≤ n → u.2.2 2 j = nI (insW wid t p j)) := by
  have hgp := k.p
  unfold fp_X11_putWord
  rw [ck_of k.g1, hn, stp_eq]
  refine wp_loop (fun μ s => μ ≤ n ∧ s.1 = nI μ ∧ OW g s.2 ∧ (∀ j, j < μ → s.2.2.2 2 j = nI (wid j)) ∧ (∀ j, μ < j → j ≤ n → s.2.2.2 2 j = nI (wid (j - 1))) ∧ ∀ w, μ ≤ w → w < n → bef R st sp w) ?_ FU n _ (by unfold FU; omega) ⟨Nat.le_refl _, rfl, ⟨rfl, rfl, fun _ _ => rfl⟩, fun j hj => (hw j hj).1, fun j h1 h2 => by omega, fun w h1 h2 => by omega⟩
  rintro μ ⟨x2, g1⟩ r ⟨hμ, hx, ow, lo, up1, hb⟩ kk
  have hx : x2 = nI μ := hx
  subst hx
  have ow : OW g g1 := ow
  have lo : ∀ j, j < μ → g1.2.2 2 j = nI (wid j) := lo
  have up1 : ∀ j, μ < j → j ≤ n → g1.2.2 2 j = nI (wid (j - 1)) := up1
  have k1 := ow.dk k
  have e1 := ow.1
  have e2 := ow.2.1
  have e3 := ow.2.2
  have gp : gk g1 p 4 = true := gk_i (by omega) (by rw [e2, hpk])
  have lp : gl g1 p = 5 := by show (g1.2.1 p).2 = 5; rw [e2, hpk]
  have p0 : g1.2.2 p 0 = nI sp := by rw [e3 p (by omega)]; exact hp0
  have p4 : g1.2.2 p 2 = nI st := by rw [e3 p (by omega)]; exact hp4
  -- it stands here
  have stand : (μ = 0 ∨ ¬ bef R st sp (μ - 1)) → Wp (Jp_X11_putWord_77 1 p g1 (nI μ)) (fun u => ∃ t, insAt R st sp t ∧ u.1 = g.1 ∧ u.2.1 = g.2.1 ∧ (∀ o, ¬ o = 1 → ¬ o = 2 → u.2.2 o = g.2.2 o) ∧ (∀ j, ¬ j = 5 → u.2.2 1 j = g.2.2 1 j) ∧ u.2.2 1 5 = nI (n + 1) ∧ ∀ j, j ≤ n → u.2.2 2 j = nI (insW wid t p j)) := by
    intro ht
    unfold Jp_X11_putWord_77
    rw [ckn_of k1.g1 k1.f3 (by omega), ck_of (by rw [k1.g2, k1.l2, gp, inb_t (by omega) (by omega)]; rfl), stp_eq, ix_n (by omega)]
    have kz : gk (gu g1 2 μ (nI p)) 1 0 = true := k1.g1
    have e5 : (gu g1 2 μ (nI p)).2.2 1 5 = nI n := by rw [gu_h, up_o (by decide), e3 1 (by decide)]; exact hn
    rw [ck_of kz, ck_of kz, e5, show nI n + (1 : Int32) = nI (n + 1) from nI_add n 1, stp_eq]
    refine wp_some.mpr ⟨μ, ⟨by rw [hR]; exact hμ, fun w h1 h2 => hb w h1 (by omega), ht⟩, e1, e2, fun o h1 h2 => ?_, fun j hj => ?_, ?_, fun j hj => ?_⟩
    · rw [gu_h, up_o h1, gu_h, up_o h2, e3 o h2]
    · rw [gu_h, up_sn hj, gu_h, up_o (by decide), e3 1 (by decide)]
    · rw [gu_h, up_ss]
    · rw [gu_h, up_o (by decide), gu_h]
      unfold insW
      by_cases a : j < μ
      · rw [if_pos a, up_sn (by omega)]
        exact lo j a
      · rw [if_neg a]
        by_cases b : j = μ
        · rw [if_pos b, b, up_ss]
        · rw [if_neg b, up_sn b]
          exact up1 j (by omega) hj
  unfold Fp_X11_putWord_5
  dsimp only
  by_cases z : μ = 0
  · rw [if_pos (show nI μ ≤ 0 from by rw [z]; decide)]
    exact stand (Or.inl z)
  · obtain ⟨w1, w2, w3, w4, w5, w6, w7, w8⟩ := hw (μ - 1) (by omega)
    have gw : gk g1 (wid (μ - 1)) 4 = true := gk_i (by omega) (by rw [e2, w4])
    have lw : gl g1 (wid (μ - 1)) = 5 := by show (g1.2.1 (wid (μ - 1))).2 = 5; rw [e2, w4]
    have c0 : g1.2.2 (wid (μ - 1)) 0 = nI (R 3 (μ - 1)) := by rw [e3 _ (by omega)]; exact w5
    have c2 : g1.2.2 (wid (μ - 1)) 2 = nI (R 4 (μ - 1)) := by rw [e3 _ (by omega)]; exact w6
    have m1 : nI μ - (1 : Int32) = nI (μ - 1) := sub_n (b := 1) (by omega)
    have rd : ∀ {α : Type} (K : Nat → Option α), ckn (gk g1 1 0) (g1.2.2 1 3) (fun q => ckn (gk g1 q 7 && inb (nI μ - (1 : Int32)) (gl g1 q)) (g1.2.2 q (ix (nI μ - (1 : Int32)))) K) = K (wid (μ - 1)) := fun K => by
      rw [ckn_of k1.g1 k1.f3 (by omega), m1, ix_n (by omega), ckn_of (by rw [k1.g2, k1.l2, inb_t (by omega) (by omega)]; rfl) (lo (μ - 1) (by omega)) (by omega)]
    have pass : bef R st sp (μ - 1) → Wp (Jp_X11_putWord_57 1 p g1 r (nI μ)) (fun u => ∃ t, insAt R st sp t ∧ u.1 = g.1 ∧ u.2.1 = g.2.1 ∧ (∀ o, ¬ o = 1 → ¬ o = 2 → u.2.2 o = g.2.2 o) ∧ (∀ j, ¬ j = 5 → u.2.2 1 j = g.2.2 1 j) ∧ u.2.2 1 5 = nI (n + 1) ∧ ∀ j, j ≤ n → u.2.2 2 j = nI (insW wid t p j)) := by
      intro hbf
      unfold Jp_X11_putWord_57
      rw [ckn_of k1.g1 k1.f3 (by omega), rd, ck_of (by rw [k1.g2, k1.l2, gw, inb_t (by omega) (by omega)]; rfl), stp_eq, ix_n (by omega), m1_n (by omega), stp_eq]
      refine kk (μ - 1) _ (by omega) ⟨by omega, rfl, ⟨e1, e2, fun o ho => by show (gu g1 2 μ (nI (wid (μ - 1)))).2.2 o = _; rw [gu_h, up_o ho, e3 o ho]⟩, fun j hj => ?_, fun j h1 h2 => ?_, fun w h1 h2 => ?_⟩
      · show (gu g1 2 μ (nI (wid (μ - 1)))).2.2 2 j = _
        rw [gu_h, up_sn (by omega)]
        exact lo j (by omega)
      · show (gu g1 2 μ (nI (wid (μ - 1)))).2.2 2 j = _
        rw [gu_h]
        by_cases a : j = μ
        · rw [a, up_ss]
        · rw [up_sn a]
          exact up1 j (by omega) h2
      · by_cases a : w = μ - 1
        · rw [a]; exact hbf
        · exact hb w (by omega) h2
    rw [if_neg (show ¬ nI μ ≤ 0 from fun y => z (by have := (nI_leI (a := μ) (b := 0) (by omega) (by omega)).mp y; omega)), rd, ck_of (by rw [gw, lw]; rfl), ck_of (by rw [gp, lp]; rfl)]
    show Wp (if g1.2.2 p 2 < g1.2.2 (wid (μ - 1)) 2 then _ else _) _
    rw [p4, c2]
    by_cases a : st < R 4 (μ - 1)
    · rw [if_pos (lty a (by omega))]
      exact pass (Or.inl a)
    · rw [if_neg (ltn (by omega) (by omega)), rd, ck_of (by rw [gw, lw]; rfl), ck_of (by rw [gp, lp]; rfl)]
      show Wp (if g1.2.2 (wid (μ - 1)) 2 = g1.2.2 p 2 then _ else _) _
      rw [p4, c2]
      by_cases b : R 4 (μ - 1) = st
      · rw [if_pos (by rw [b]), rd, ck_of (by rw [gw, lw]; rfl), ck_of (by rw [gp, lp]; rfl)]
        show Wp (if g1.2.2 p 0 < g1.2.2 (wid (μ - 1)) 0 then _ else _) _
        rw [p0, c0]
        by_cases d : sp < R 3 (μ - 1)
        · rw [if_pos (lty d (by omega))]
          exact pass (Or.inr ⟨b.symm, d⟩)
        · rw [if_neg (ltn (by omega) (by omega))]
          exact stand (Or.inr (fun y => by rcases y with y | ⟨_, y⟩ <;> omega))
      · rw [if_neg (eqo b (by omega) (by omega))]
        exact stand (Or.inr (fun y => by rcases y with y | ⟨y, _⟩ <;> omega))
end
