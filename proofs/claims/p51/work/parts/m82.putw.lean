/-! a word comes into its place, the model's side -/
section
variable {h g : Hp} {c : Nat} {R : Nat → Nat → Nat} {t tx sp st en : Nat}
theorem m_beh {i : Nat} (h4 : G4 g R (R 0 4) i) (hD : WD R) (hi : 0 < i) (hin : i ≤ R 0 4) (hst : st < 1000000) (hsp : sp < 1000000) : f_X11_isBehind g (nI (i - 1)) (nI st) (nI sp) = some (nI (bo (bef R st sp (i - 1)))) := by
  have h40 := hD.w40
  have hs4 := hD.s4
  have wd := hD.wd (i - 1) (by omega)
  have e2 : g 127 (9 + 4 * (i - 1) + 2) = nI (R 4 (i - 1)) := by
    have := h4 (i - 1) 2 (by omega) (by omega) (by omega)
    rw [if_neg (by omega)] at this
    exact this
  have e0 : g 127 (9 + 4 * (i - 1)) = nI (R 3 (i - 1)) := by
    have := h4 (i - 1) 0 (by omega) (by omega) (by omega)
    rw [if_neg (by omega)] at this
    exact this
  refine wp_eq.mp ?_
  unfold f_X11_isBehind
  simp (disch := omega) only [li, nI_add, pk_mul, ix_n, lt_n, le_n, eq_n, sub_n, dec_n, inb_t, neg_n, neg_n', ck_true, stp_eq, bnd_some, wp_some, wp_stp, Nat.add_zero, Nat.lt_irrefl, Nat.reduceEqDiff, Nat.reduceAdd, Nat.reduceSub, Nat.reduceMul, Nat.reduceLT, Nat.reduceLeDiff, up_o, up_ss, up_sn, zb_n1, true_and, and_true, ↓reduceIte, e2, e0]
  refine wp_if (fun y => ?_) (fun y => ?_)
  · rw [wp_some, bo_y (show bef R st sp (i - 1) from Or.inl y)]
  · refine wp_if (fun z => ?_) (fun z => ?_)
    · refine wp_if (fun v => ?_) (fun v => ?_)
      · rw [wp_some, bo_y (show bef R st sp (i - 1) from Or.inr ⟨z.symm, v⟩)]
      · rw [wp_some, bo_n (fun x => by rcases x with x | x <;> omega)]
    · rw [wp_some, bo_n (fun x => by rcases x with x | x <;> omega)]
theorem mv_ins {w k : Nat} (hk : k < 4) : mv (insR R t tx sp st en) k w = if w = t then (if k = 0 then sp else if k = 1 then n27 tx else if k = 2 then st else en) else mv R k (if t < w ∧ w ≤ R 0 4 then w - 1 else w) := by
  unfold mv
  rw [ins_3, ins_2, ins_4, ins_5]
  by_cases e : w = t
  · rw [if_pos e, if_pos e, if_pos e, if_pos e, if_pos e]
  · rw [if_neg e, if_neg e, if_neg e, if_neg e, if_neg e]
    by_cases y : t < w ∧ w ≤ R 0 4
    · rw [if_pos y, shR_i (by omega), shR_i (by omega), shR_i (by omega), shR_i (by omega)]
    · rw [if_neg y, shR_o (by omega), shR_o (by omega), shR_o (by omega), shR_o (by omega)]
theorem gd_mv {w k : Nat} (hG : GD g R) (hw : w < R 0 4) (hk : k < 4) : g 127 (9 + 4 * w + k) = nI (mv R k w) := by
  have : k = 0 ∨ k = 1 ∨ k = 2 ∨ k = 3 := by omega
  rcases this with rfl | rfl | rfl | rfl
  · exact hG.who w hw
  · exact hG.txt w hw
  · exact hG.st w hw
  · exact hG.en w hw
theorem m_putsWord (hG : GD g R) (hD : WD R) (h40 : R 0 4 < 40) (hst : st < 1000000) (hsp : sp < 1000000) : Wp (f_X11_putsWord g (nI sp) (nI (n27 tx)) (nI st) (nI en)) (fun u => ∃ t, insAt R st sp t ∧ GD u (insR R t tx sp st en) ∧ ∀ k, ¬ k = 127 → u k = g k) := by
  have hs4 := hD.s4
  have hbr := hD.br
  unfold f_X11_putsWord
  simp (disch := omega) only [li, nI_add, pk_mul, ix_n, lt_n, le_n, eq_n, sub_n, dec_n, inb_t, neg_n, neg_n', ck_true, stp_eq, bnd_some, wp_some, wp_stp, Nat.add_zero, Nat.lt_irrefl, Nat.reduceEqDiff, Nat.reduceAdd, Nat.reduceSub, Nat.reduceMul, Nat.reduceLT, Nat.reduceLeDiff, up_o, up_ss, up_sn, zb_n1, true_and, and_true, ↓reduceIte, hG.wc]
  refine wp_for (i := 0) (R 0 4) (fun y s => ∃ g1, s = (nI (R 0 4 - y), g1) ∧ G4 g1 R (R 0 4) (R 0 4 - y) ∧ (∀ w, R 0 4 - y ≤ w → w < R 0 4 → bef R st sp w) ∧ (∀ j, ¬ (9 ≤ j ∧ j < 169) → g1 127 j = g 127 j) ∧ ∀ k, ¬ k = 127 → g1 k = g k) (by omega) (by omega) ⟨g, rfl, fun j k hj hji hk => ?_, fun w a b => by omega, fun _ _ => rfl, fun _ _ => rfl⟩ ?_
  · rw [if_neg (by omega)]
    exact gd_mv hG (by omega) hk
  · rintro y s r hy ⟨g1, rfl, q4, hb, fo, fr⟩ k
    have fin : (R 0 4 - y = 0 ∨ ¬ bef R st sp (R 0 4 - y - 1)) → Wp (J_X11_putsWord_79 (nI sp) (nI (n27 tx)) (nI st) (nI en) g1 (nI (R 0 4 - y))) (fun u => ∃ t, insAt R st sp t ∧ GD u (insR R t tx sp st en) ∧ ∀ k, ¬ k = 127 → u k = g k) := by
      intro hf
      have htn : R 0 4 - y ≤ R 0 4 := by omega
      generalize R 0 4 - y = t at *
      have e3 : g1 127 3 = nI (R 0 4) := by rw [fo 3 (by omega)]; exact hG.wc
      unfold J_X11_putsWord_79
      simp (disch := omega) only [li, nI_add, pk_mul, ix_n, lt_n, le_n, eq_n, sub_n, dec_n, inb_t, neg_n, neg_n', ck_true, stp_eq, bnd_some, wp_some, wp_stp, Nat.add_zero, Nat.lt_irrefl, Nat.reduceEqDiff, Nat.reduceAdd, Nat.reduceSub, Nat.reduceMul, Nat.reduceLT, Nat.reduceLeDiff, up_o, up_ss, up_sn, zb_n1, true_and, and_true, ↓reduceIte, e3]
      refine ⟨t, ⟨htn, hb, hf⟩, ?_, fun k hk => ?_⟩
      · have key : ∀ j, ¬ (9 ≤ j ∧ j < 169) → ¬ j = 3 → up (up (up (up (up g1 127 (9 + 4 * t) (nI sp)) 127 (9 + 4 * t + 1) (nI (n27 tx))) 127 (9 + 4 * t + 2) (nI st)) 127 (9 + 4 * t + 3) (nI en)) 127 3 (nI (R 0 4 + 1)) 127 j = g 127 j := fun j a b => by
          rw [up_sn b, up_sn (by omega), up_sn (by omega), up_sn (by omega), up_sn (by omega)]
          exact fo j a
        have wk : ∀ w m, w < R 0 4 + 1 → m < 4 → up (up (up (up (up g1 127 (9 + 4 * t) (nI sp)) 127 (9 + 4 * t + 1) (nI (n27 tx))) 127 (9 + 4 * t + 2) (nI st)) 127 (9 + 4 * t + 3) (nI en)) 127 3 (nI (R 0 4 + 1)) 127 (9 + 4 * w + m) = nI (mv (insR R t tx sp st en) m w) := by
          intro w m hw hm
          rw [mv_ins hm]
          by_cases e : w = t
          · subst e
            rw [if_pos rfl]
            have : m = 0 ∨ m = 1 ∨ m = 2 ∨ m = 3 := by omega
            rcases this with rfl | rfl | rfl | rfl
            · rw [up_sn (by omega), up_sn (by omega), up_sn (by omega), up_sn (by omega), Nat.add_zero, up_ss]; rfl
            · rw [up_sn (by omega), up_sn (by omega), up_sn (by omega), up_ss]; rfl
            · rw [up_sn (by omega), up_sn (by omega), up_ss]; rfl
            · rw [up_sn (by omega), up_ss]; rfl
          · rw [if_neg e, up_sn (by omega), up_sn (by omega), up_sn (by omega), up_sn (by omega), up_sn (by omega), q4 w m (by omega) e hm]
            by_cases z : t < w
            · rw [if_pos z, if_pos ⟨z, by omega⟩]
            · rw [if_neg z, if_neg (fun v => z v.1)]
        refine ⟨?_, ?_, ?_, ?_, ?_, fun s hs => ?_, fun w hw => ?_, fun w hw => ?_, fun w hw => ?_, fun w hw => ?_, fun w hw => ?_, fun w hw => ?_⟩
        · rw [ins_0 (by decide) (by decide), key _ (by omega) (by omega)]; exact hG.len
        · rw [ins_0 (by decide) (by decide), key _ (by omega) (by omega)]; exact hG.han
        · rw [ins_0 (by decide) (by decide), key _ (by omega) (by omega)]; exact hG.sc
        · rw [ins_n, up_ss]
        · rw [ins_0 (by decide) (by decide), key _ (by omega) (by omega)]; exact hG.brc
        · rw [ins_0 (by decide) (by decide)] at hs
          rw [ins_0 (by decide) (by omega), key _ (by omega) (by omega)]; exact hG.nm s hs
        · rw [ins_n] at hw
          exact wk w 0 hw (by decide)
        · rw [ins_n] at hw
          exact wk w 1 hw (by decide)
        · rw [ins_n] at hw
          exact wk w 2 hw (by decide)
        · rw [ins_n] at hw
          exact wk w 3 hw (by decide)
        · rw [ins_0 (by decide) (by decide)] at hw
          rw [ins_0 (by decide) (by omega), key _ (by omega) (by omega)]; exact hG.b1 w hw
        · rw [ins_0 (by decide) (by decide)] at hw
          rw [ins_0 (by decide) (by omega), key _ (by omega) (by omega)]; exact hG.b2 w hw
      · rw [up_o hk, up_o hk, up_o hk, up_o hk, up_o hk]
        exact fr k hk
    unfold F_X11_putsWord_8
    by_cases z : y < R 0 4
    · have i0 : ¬ R 0 4 - y ≤ 0 := by omega
      show Wp (if nI (R 0 4 - y) ≤ nI 0 then _ else bnd (f_X11_isBehind g1 (nI (R 0 4 - y) - nI 1) (nI st) (nI sp)) _) _
      rw [if_neg (show ¬ nI (R 0 4 - y) ≤ nI 0 from fun v => i0 ((nI_leI (by omega) (by omega)).mp v)), sub_n (by omega), m_beh q4 hD (by omega) (by omega) hst hsp, bnd_some]
      by_cases b : bef R st sp (R 0 4 - y - 1)
      · rw [bo_y b, if_neg (show ¬ (nI 1 : Int32) = 0 by decide)]
        refine wp_for (i := 0) 4 (fun x s => ∃ g2, s = (nI x, g2) ∧ (∀ k, k < x → g2 127 (9 + 4 * (R 0 4 - y) + k) = nI (mv R k (R 0 4 - y - 1))) ∧ (∀ j, ¬ (9 + 4 * (R 0 4 - y) ≤ j ∧ j < 9 + 4 * (R 0 4 - y) + 4) → g2 127 j = g1 127 j) ∧ ∀ k, ¬ k = 127 → g2 k = g1 k) (by omega) (by omega) ⟨g1, rfl, fun k hk => absurd hk (Nat.not_lt_zero _), fun _ _ => rfl, fun _ _ => rfl⟩ ?_
        rintro x s r2 hx ⟨g2, rfl, p1, p2, p3⟩ k2
        unfold F_X11_putsWord_29
        by_cases v : x < 4
        · have e1 : g2 127 (9 + 4 * (R 0 4 - y - 1) + x) = nI (mv R x (R 0 4 - y - 1)) := by
            rw [p2 _ (by omega)]
            have := q4 (R 0 4 - y - 1) x (by omega) (by omega) v
            rw [if_neg (by omega)] at this
            exact this
          simp (disch := omega) only [li, nI_add, pk_mul, ix_n, lt_n, le_n, eq_n, sub_n, dec_n, inb_t, neg_n, neg_n', ck_true, stp_eq, bnd_some, wp_some, wp_stp, Nat.add_zero, Nat.lt_irrefl, Nat.reduceEqDiff, Nat.reduceAdd, Nat.reduceSub, Nat.reduceMul, Nat.reduceLT, Nat.reduceLeDiff, up_o, up_ss, up_sn, zb_n1, true_and, and_true, ↓reduceIte, v, e1]
          refine k2 _ v ⟨_, rfl, fun k hk => ?_, fun j hj => ?_, fun k hk => by rw [up_o hk]; exact p3 k hk⟩
          · by_cases e : k = x
            · subst e; rw [up_ss]
            · rw [up_sn (by omega)]; exact p1 k (by omega)
          · rw [up_sn (by omega)]; exact p2 j hj
        · have e : x = 4 := by omega
          subst e
          unfold J_X11_putsWord_73
          simp (disch := omega) only [li, nI_add, pk_mul, ix_n, lt_n, le_n, eq_n, sub_n, dec_n, inb_t, neg_n, neg_n', ck_true, stp_eq, bnd_some, wp_some, wp_stp, Nat.add_zero, Nat.lt_irrefl, Nat.reduceEqDiff, Nat.reduceAdd, Nat.reduceSub, Nat.reduceMul, Nat.reduceLT, Nat.reduceLeDiff, up_o, up_ss, up_sn, zb_n1, true_and, and_true, ↓reduceIte]
          rw [show R 0 4 - y - 1 = R 0 4 - (y + 1) by omega] at p1 b ⊢
          refine k _ z ⟨g2, rfl, fun j m hj hji hm => ?_, fun w a d => ?_, fun j hj => ?_, fun m hm => by rw [p3 m hm]; exact fr m hm⟩
          · by_cases ej : j = R 0 4 - y
            · subst ej
              rw [p1 m hm, if_pos (by omega), show R 0 4 - y - 1 = R 0 4 - (y + 1) by omega]
            · rw [p2 _ (by omega), q4 j m hj ej hm]
              by_cases jj : R 0 4 - y < j
              · rw [if_pos jj, if_pos (by omega)]
              · rw [if_neg jj, if_neg (by omega)]
          · by_cases e : w = R 0 4 - (y + 1)
            · rw [e]; exact b
            · exact hb w (by omega) d
          · rw [p2 j (by omega)]; exact fo j hj
      · rw [bo_n b, if_pos (show (nI 0 : Int32) = 0 from rfl)]
        exact fin (Or.inr b)
    · have i0 : R 0 4 - y ≤ 0 := by omega
      show Wp (if nI (R 0 4 - y) ≤ nI 0 then _ else _) _
      rw [if_pos (show nI (R 0 4 - y) ≤ nI 0 from (nI_leI (by omega) (by omega)).mpr i0)]
      exact fin (Or.inl (by omega))
end
