/-! shots are moved, on both sides: first, how many, where to -/
def sig (f k t i : Nat) : Nat := if i < t then (if i < f then i else i + k) else if i < t + k then f + (i - t) else (if i - k < f then i - k else i)
def moveE (R E : Nat → Nat → Nat) (f k t : Nat) : Nat → Nat → Nat := fun a j => if a = 2 then E 2 (sig f k t j) else if a = 3 then (if j = E 2 f then R 0 1 else E 3 j) else if a = 4 then (if j = E 2 (f + k - 1) then R 0 1 else E 4 j) else E a j
/-- the place that a shot goes to -/
def gis (f k t s : Nat) : Nat := if f ≤ s ∧ s < f + k then t + (s - f) else if (if s < f then s else s - k) < t then (if s < f then s else s - k) else (if s < f then s else s - k) + k
theorem sig_lt {f k t n i : Nat} (hf : f + k ≤ n) (ht : t + k ≤ n) (hi : i < n) : sig f k t i < n := by
  unfold sig
  split
  · split <;> omega
  · split
    · omega
    · split <;> omega
theorem sig_gis {f k t n s : Nat} (hk : 0 < k) (hf : f + k ≤ n) (ht : t + k ≤ n) (hs : s < n) : gis f k t s < n ∧ sig f k t (gis f k t s) = s := by
  unfold gis sig
  by_cases h1 : f ≤ s ∧ s < f + k
  · rw [if_pos h1, if_neg (by omega), if_pos (by omega)]; omega
  · rw [if_neg h1]
    by_cases h2 : s < f
    · rw [if_pos h2]
      by_cases h3 : s < t
      · rw [if_pos h3, if_pos h3, if_pos h2]; omega
      · rw [if_neg h3, if_neg (by omega), if_neg (by omega), if_pos (by omega)]; omega
    · rw [if_neg h2]
      by_cases h3 : s - k < t
      · rw [if_pos h3, if_pos h3, if_neg (by omega)]; omega
      · rw [if_neg h3, if_neg (by omega), if_neg (by omega), if_neg (by omega)]; omega
theorem gis_sig {f k t n i : Nat} (hf : f + k ≤ n) (ht : t + k ≤ n) (hi : i < n) : gis f k t (sig f k t i) = i := by
  have key : ∀ s, s = sig f k t i → gis f k t s = i := by
    intro s hs
    unfold sig at hs
    unfold gis
    by_cases h1 : i < t
    · rw [if_pos h1] at hs
      by_cases h2 : i < f
      · rw [if_pos h2] at hs
        subst hs
        rw [if_neg (by omega), if_pos h2, if_pos h1]
      · rw [if_neg h2] at hs
        have a1 : ¬ (f ≤ s ∧ s < f + k) := by omega
        have a2 : ¬ s < f := by omega
        have a3 : s - k < t := by omega
        rw [if_neg a1, if_neg a2, if_pos a3]
        omega
    · rw [if_neg h1] at hs
      by_cases h2 : i < t + k
      · rw [if_pos h2] at hs
        have a1 : f ≤ s ∧ s < f + k := by omega
        rw [if_pos a1]
        omega
      · rw [if_neg h2] at hs
        by_cases h3 : i - k < f
        · rw [if_pos h3] at hs
          have a1 : ¬ (f ≤ s ∧ s < f + k) := by omega
          have a2 : s < f := by omega
          have a3 : ¬ s < t := by omega
          rw [if_neg a1, if_pos a2, if_neg a3]
          omega
        · rw [if_neg h3] at hs
          have a1 : ¬ (f ≤ s ∧ s < f + k) := by omega
          have a2 : ¬ s < f := by omega
          have a3 : ¬ s - k < t := by omega
          rw [if_neg a1, if_neg a2, if_neg a3]
          omega
  exact key _ rfl
section
variable {h g : Hp} {c : Nat} {R E : Nat → Nat → Nat}
theorem moveE_WE (hW : WR R) (hE : WE R E) {f k t : Nat} (hf : f + k ≤ E 0 1) (ht : t + k ≤ E 0 1) : WE R (moveE R E f k t) := by
  have hh := hW.han
  refine ⟨hE.n, fun s hs => hE.lt _ (sig_lt hf ht hs), fun s u hs hu e => ?_, hE.k1, fun b hb => ?_, fun b hb => ?_, hE.fl⟩
  · have e1 := hE.inj _ _ (sig_lt hf ht hs) (sig_lt hf ht hu) e
    have e2 := gis_sig hf ht (show s < E 0 1 from hs)
    have e3 := gis_sig hf ht (show u < E 0 1 from hu)
    rw [← e2, ← e3, e1]
  · show (if b = E 2 f then R 0 1 else E 3 b) ≤ 999
    split
    · exact hh
    · exact hE.hd b hb
  · show (if b = E 2 (f + k - 1) then R 0 1 else E 4 b) ≤ 999
    split
    · exact hh
    · exact hE.tl b hb
theorem moveE_WX (hX : WX R E) {f k t : Nat} (hk : 0 < k) (hf : f + k ≤ E 0 1) (ht : t + k ≤ E 0 1) : WX R (moveE R E f k t) := by
  refine ⟨fun s hs => hX.film _ (sig_lt hf ht hs), fun w hw hkw => ?_⟩
  obtain ⟨s, h1, h2⟩ := hX.kept w hw hkw
  have := sig_gis hk hf ht h1
  exact ⟨gis f k t s, this.1, by show E 2 (sig f k t (gis f k t s)) = _; rw [this.2]; exact h2⟩
def rmE (E : Nat → Nat → Nat) (f j : Nat) : Nat → Nat → Nat := fun a i => if a = 0 then E 0 1 - j else if a = 2 then (if i < f then E 2 i else E 2 (i + j)) else E a i
def inE (E : Nat → Nat → Nat) (f k t j : Nat) : Nat → Nat → Nat := fun a i => if a = 0 then E 0 1 - k + j else if a = 2 then (if i < t then (if i < f then E 2 i else E 2 (i + k)) else if i < t + j then E 2 (f + (i - t)) else if i - j < f then E 2 (i - j) else E 2 (i - j + k)) else E a i
theorem m_movesAll (hW : WR R) (hE : WE R E) (hG : GR g R) (hM : GE g E) {f k t : Nat} {p2 p3 : Int32} (hk : 0 < k) (hf : f + k ≤ E 0 1) (ht : t + k ≤ E 0 1) (h2 : p2 = nI (f + k - 1)) (h3 : (p3 < nI f ∧ p3 + nI 1 = nI t) ∨ (¬ p3 < nI f ∧ p3 + nI 1 - nI k = nI t)) : Wp (f_X11_movesAll g (nI f) p2 p3) (fun u => u.1 = nI t ∧ GE u.2 (moveE R E f k t) ∧ AW g u.2) := by
  have hn := hE.n
  have hbw := hW.bw
  have h40 := hW.w40
  subst h2
  unfold f_X11_movesAll
  have ek : nI (f + k - 1) - nI f + nI 1 = nI k := by
    rw [sub_n (by omega), nI_add]
    exact congrArg nI (by omega)
  rw [stp_eq, show (nI (f + k - 1) - nI f + (1 : Int32)) = nI k from ek]
  refine wp_for (i := 0) k (fun i x => ∃ g1, x = (nI i, g1) ∧ (∀ j, j < i → g1 143 j = nI (E 2 (f + j))) ∧ (∀ q, ¬ q = 143 → g1 q = g q)) (by omega) (by omega) ⟨g, rfl, fun j hj => absurd hj (Nat.not_lt_zero _), fun _ _ => rfl⟩ ?_
  rintro i x r hi ⟨g1, rfl, a1, a2⟩ kk
  have w1 : AW g g1 := AW.ofO (m := 143) (by decide) (by decide) (by decide) (fun q _ h => a2 q h)
  have hM1 : GE g1 E := by
    unfold GE
    rw [a2 134 (by decide)]
    exact hM
  unfold F_X11_movesAll_10
  by_cases hl : i < k
  · simp (disch := omega) only [li, nI_add, pk_mul, ix_n, lt_n, le_n, eq_n, sub_n, dec_n, inb_t, neg_n, neg_n', ck_true, stp_eq, bnd_some, wp_some, wp_stp, Nat.add_zero, Nat.lt_irrefl, Nat.reduceEqDiff, Nat.reduceAdd, Nat.reduceSub, Nat.reduceMul, Nat.reduceLT, Nat.reduceLeDiff, up_o, up_ss, up_sn, zb_n1, true_and, and_true, ↓reduceIte, hl, m_shotBlock hW hE hM1 (s := f + i) (by omega)]
    refine kk _ hl ⟨_, rfl, fun j hj => ?_, fun q hq => by rw [up_o hq]; exact a2 q hq⟩
    by_cases e : j = i
    · rw [e, up_ss]
    · rw [up_sn e]; exact a1 j (by omega)
  · have e : i = k := by omega
    subst e
    unfold J_X11_movesAll_38
    simp (disch := omega) only [li, nI_add, pk_mul, ix_n, lt_n, le_n, eq_n, sub_n, dec_n, inb_t, neg_n, neg_n', ck_true, stp_eq, bnd_some, wp_some, wp_stp, Nat.add_zero, Nat.lt_irrefl, Nat.reduceEqDiff, Nat.reduceAdd, Nat.reduceSub, Nat.reduceMul, Nat.reduceLT, Nat.reduceLeDiff, up_o, up_ss, up_sn, zb_n1, true_and, and_true, ↓reduceIte, hl]
    clear kk r
    refine wp_for (i := 0) i (fun j x => ∃ g2, x = (nI j, g2) ∧ GE g2 (rmE E f j) ∧ (∀ q, ¬ q = 134 → g2 q = g1 q)) (by omega) (by omega) ⟨g1, rfl, ?_, fun _ _ => rfl⟩ ?_
    · refine hM1.congr (by show E 0 1 - 0 = _; omega) (fun s hs => ?_) (fun _ _ => rfl) (fun _ _ => rfl) (fun _ _ => rfl)
      show (if s < f then E 2 s else E 2 (s + 0)) = _
      rw [Nat.add_zero]
      split <;> rfl
    · rintro j x r hj ⟨g2, rfl, b1, b2⟩ kk
      unfold F_X11_movesAll_41
      by_cases hjl : j < i
      · simp (disch := omega) only [li, nI_add, pk_mul, ix_n, lt_n, le_n, eq_n, sub_n, dec_n, inb_t, neg_n, neg_n', ck_true, stp_eq, bnd_some, wp_some, wp_stp, Nat.add_zero, Nat.lt_irrefl, Nat.reduceEqDiff, Nat.reduceAdd, Nat.reduceSub, Nat.reduceMul, Nat.reduceLT, Nat.reduceLeDiff, up_o, up_ss, up_sn, zb_n1, true_and, and_true, ↓reduceIte, hjl]
        have hto := m_takesOut b1 (show E 0 1 - j ≤ 40 by omega) (fun s hs => ?_) (s := f) (show f < E 0 1 - j by omega)
        · refine wp_bnd_of hto (fun g3 k3 => ?_)
          refine kk _ hjl ⟨g3, rfl, ?_, fun q hq => (k3.2 q hq).trans (b2 q hq)⟩
          refine k3.1.congr (by show E 0 1 - (j + 1) = E 0 1 - j - 1; omega) (fun s hs => ?_) (fun _ _ => rfl) (fun _ _ => rfl) (fun _ _ => rfl)
          show (if s < f then E 2 s else E 2 (s + (j + 1))) = (if s < f then (if s < f then E 2 s else E 2 (s + j)) else (if s + 1 < f then E 2 (s + 1) else E 2 (s + 1 + j)))
          by_cases y : s < f
          · rw [if_pos y, if_pos y, if_pos y]
          · rw [if_neg y, if_neg y, if_neg (by omega), show s + (j + 1) = s + 1 + j by omega]
        · have hs : s < E 0 1 - j := hs
          show (if s < f then E 2 s else E 2 (s + j)) < 40
          split
          · have := hE.lt s (by omega); omega
          · have := hE.lt (s + j) (by omega); omega
      · have e : j = i := by omega
        subst e
        unfold J_X11_movesAll_59
        simp (disch := omega) only [li, nI_add, pk_mul, ix_n, lt_n, le_n, eq_n, sub_n, dec_n, inb_t, neg_n, neg_n', ck_true, stp_eq, bnd_some, wp_some, wp_stp, Nat.add_zero, Nat.lt_irrefl, Nat.reduceEqDiff, Nat.reduceAdd, Nat.reduceSub, Nat.reduceMul, Nat.reduceLT, Nat.reduceLeDiff, up_o, up_ss, up_sn, zb_n1, true_and, and_true, ↓reduceIte, hjl]
        clear kk r
        have w2 : AW g g2 := w1.tr (AW.of b2)
        have main : Wp (J_X11_movesAll_76 (nI f) (nI (f + j - 1)) p3 g2 (nI j) (nI t)) (fun u => u.1 = nI t ∧ GE u.2 (moveE R E f j t) ∧ AW g u.2) := by
          unfold J_X11_movesAll_76
          simp (disch := omega) only [li, nI_add, pk_mul, ix_n, lt_n, le_n, eq_n, sub_n, dec_n, inb_t, neg_n, neg_n', ck_true, stp_eq, bnd_some, wp_some, wp_stp, Nat.add_zero, Nat.lt_irrefl, Nat.reduceEqDiff, Nat.reduceAdd, Nat.reduceSub, Nat.reduceMul, Nat.reduceLT, Nat.reduceLeDiff, up_o, up_ss, up_sn, zb_n1, true_and, and_true, ↓reduceIte]
          refine wp_for (i := 0) j (fun m x => ∃ g3, x = (nI m, g3) ∧ GE g3 (inE E f j t m) ∧ (∀ q, ¬ q = 134 → g3 q = g2 q)) (by omega) (by omega) ⟨g2, rfl, ?_, fun _ _ => rfl⟩ ?_
          · refine b1.congr (by show E 0 1 - j + 0 = _; exact Nat.add_zero _) (fun s hs => ?_) (fun _ _ => rfl) (fun _ _ => rfl) (fun _ _ => rfl)
            have hs : s < E 0 1 - j := hs
            show (if s < t then (if s < f then E 2 s else E 2 (s + j)) else if s < t + 0 then E 2 (f + (s - t)) else if s - 0 < f then E 2 (s - 0) else E 2 (s - 0 + j)) = (if s < f then E 2 s else E 2 (s + j))
            rw [Nat.add_zero, Nat.sub_zero]
            by_cases y : s < t
            · rw [if_pos y]
            · rw [if_neg y, if_neg y]
          · rintro m x r hm ⟨g3, rfl, d1, d2⟩ kk
            have m143 : ∀ q, q < j → g3 143 q = nI (E 2 (f + q)) := fun q hq => by rw [d2 143 (by decide), b2 143 (by decide)]; exact a1 q hq
            unfold F_X11_movesAll_81
            by_cases hml : m < j
            · simp (disch := omega) only [li, nI_add, pk_mul, ix_n, lt_n, le_n, eq_n, sub_n, dec_n, inb_t, neg_n, neg_n', ck_true, stp_eq, bnd_some, wp_some, wp_stp, Nat.add_zero, Nat.lt_irrefl, Nat.reduceEqDiff, Nat.reduceAdd, Nat.reduceSub, Nat.reduceMul, Nat.reduceLT, Nat.reduceLeDiff, up_o, up_ss, up_sn, zb_n1, true_and, and_true, ↓reduceIte, hml, m143]
              refine wp_bnd_of (m_putsIn d1 (show E 0 1 - j + m < 40 by omega) (s := t + m) (b := E 2 (f + m)) (show t + m ≤ E 0 1 - j + m by omega)) (fun g4 k4 => ?_)
              refine kk _ hml ⟨g4, rfl, ?_, fun q hq => (k4.2 q hq).trans (d2 q hq)⟩
              refine k4.1.congr (by show E 0 1 - j + (m + 1) = E 0 1 - j + m + 1; omega) (fun s hs => ?_) (fun _ _ => rfl) (fun _ _ => rfl) (fun _ _ => rfl)
              have hs : s < E 0 1 - j + m + 1 := hs
              show (if s < t then (if s < f then E 2 s else E 2 (s + j)) else if s < t + (m + 1) then E 2 (f + (s - t)) else if s - (m + 1) < f then E 2 (s - (m + 1)) else E 2 (s - (m + 1) + j)) = (if s < t + m then inE E f j t m 2 s else if s = t + m then E 2 (f + m) else inE E f j t m 2 (s - 1))
              by_cases y1 : s < t + m
              · rw [if_pos y1]
                show _ = (if s < t then (if s < f then E 2 s else E 2 (s + j)) else if s < t + m then E 2 (f + (s - t)) else if s - m < f then E 2 (s - m) else E 2 (s - m + j))
                by_cases y2 : s < t
                · rw [if_pos y2, if_pos y2]
                · rw [if_neg y2, if_neg y2, if_pos (by omega), if_pos y1]
              · rw [if_neg y1, if_neg (by omega)]
                by_cases y2 : s = t + m
                · rw [if_pos y2, if_pos (by omega), show f + (s - t) = f + m by omega]
                · rw [if_neg y2, if_neg (by omega)]
                  show _ = (if s - 1 < t then (if s - 1 < f then E 2 (s - 1) else E 2 (s - 1 + j)) else if s - 1 < t + m then E 2 (f + (s - 1 - t)) else if s - 1 - m < f then E 2 (s - 1 - m) else E 2 (s - 1 - m + j))
                  have z1 : ¬ s - 1 < t := by omega
                  have z2 : ¬ s - 1 < t + m := by omega
                  rw [if_neg z1, if_neg z2, show s - (m + 1) = s - 1 - m by omega]
            · have e : m = j := by omega
              subst e
              have hb0 := hE.lt f (by omega)
              have hb1 := hE.lt (f + m - 1) (by omega)
              have m0 := m143 0 (by omega)
              have m1 := m143 (m - 1) (by omega)
              rw [Nat.add_zero] at m0
              rw [show f + (m - 1) = f + m - 1 by omega] at m1
              have hhan : g3 126 1 = nI (R 0 1) := by rw [d2 126 (by decide), b2 126 (by decide), a2 126 (by decide)]; exact hG.han
              unfold J_X11_movesAll_110
              simp (disch := omega) only [li, nI_add, pk_mul, ix_n, lt_n, le_n, eq_n, sub_n, dec_n, inb_t, neg_n, neg_n', ck_true, stp_eq, bnd_some, wp_some, wp_stp, Nat.add_zero, Nat.lt_irrefl, Nat.reduceEqDiff, Nat.reduceAdd, Nat.reduceSub, Nat.reduceMul, Nat.reduceLT, Nat.reduceLeDiff, up_o, up_ss, up_sn, zb_n1, true_and, and_true, ↓reduceIte, hml, m0, m1, hhan]
              refine ⟨⟨fun u hu => ?_, ?_, fun s hs => ?_, fun b hb => ?_, fun b hb => ?_⟩, w2.tr ((AW.of d2).tr (AW.up.tr AW.up))⟩
              · rw [up_sn (by omega), up_sn (by omega)]; exact d1.k u hu
              · rw [up_sn (by omega), up_sn (by omega), d1.n]
                show nI (E 0 1 - m + m) = nI (E 0 1)
                exact congrArg nI (by omega)
              · have hs : s < E 0 1 := hs
                rw [up_sn (by omega), up_sn (by omega), d1.o s (show s < E 0 1 - m + m by omega)]
                show nI (if s < t then (if s < f then E 2 s else E 2 (s + m)) else if s < t + m then E 2 (f + (s - t)) else if s - m < f then E 2 (s - m) else E 2 (s - m + m)) = nI (E 2 (sig f m t s))
                unfold sig
                by_cases y1 : s < t
                · rw [if_pos y1, if_pos y1]
                  by_cases y2 : s < f
                  · rw [if_pos y2, if_pos y2]
                  · rw [if_neg y2, if_neg y2]
                · rw [if_neg y1, if_neg y1]
                  by_cases y2 : s < t + m
                  · rw [if_pos y2, if_pos y2]
                  · rw [if_neg y2, if_neg y2]
                    by_cases y3 : s - m < f
                    · rw [if_pos y3, if_pos y3]
                    · rw [if_neg y3, if_neg y3, show s - m + m = s by omega]
              · show _ = nI (if b = E 2 f then R 0 1 else E 3 b)
                rw [up_sn (by omega)]
                by_cases e2 : b = E 2 f
                · rw [e2, up_ss, if_pos rfl]
                · rw [up_sn (by omega), if_neg e2]; exact d1.hd b hb
              · show _ = nI (if b = E 2 (f + m - 1) then R 0 1 else E 4 b)
                by_cases e2 : b = E 2 (f + m - 1)
                · rw [e2, up_ss, if_pos rfl]
                · rw [up_sn (by omega), up_sn (by omega), if_neg e2]; exact d1.tl b hb
        rcases h3 with ⟨h3, h4⟩ | ⟨h3, h4⟩
        · rw [if_pos h3, h4]
          exact main
        · rw [if_neg h3, h4]
          exact main
theorem c_carryShots (hW : WR R) (hE : WE R E) (hC : CR h c R) (hD : CE h E) (hp : h 3 0 = nI c) (hkc : knd c = 4 ∧ (c = 83 ∨ c = 97)) {f k t : Nat} {p2 p3 : Int32} (hk : 0 < k) (hf : f + k ≤ E 0 1) (ht : t + k ≤ E 0 1) (h2 : p2 = nI (f + k - 1)) (h3 : (p3 < nI f ∧ p3 + nI 1 = nI t) ∨ (¬ p3 < nI f ∧ p3 + nI 1 - nI k = nI t)) : Wp (f_X1_carryShots h (nI f) p2 p3) (fun u => u.1 = nI t ∧ CE u.2 (moveE R E f k t) ∧ CF u.2 R (moveE R E f k t) ∧ HF h u.2) := by
  have hn := hE.n
  have hbw := hW.bw
  have h40 := hW.w40
  have hb0 := hE.lt f (by omega)
  have hb1 := hE.lt (f + k - 1) (by omega)
  subst h2
  have ek : nI (f + k - 1) - nI f + nI 1 = nI k := by
    rw [sub_n (by omega), nI_add]
    exact congrArg nI (by omega)
  unfold f_X1_carryShots
  have ho0 := hD.o f (by omega)
  have ho1 := hD.o (f + k - 1) (by omega)
  have hpk : ∀ a b v, a = 21 ∨ a = 22 → up h a b v 3 0 = nI c := fun a b v ha => by rw [up_o (by omega)]; exact hp
  have e1 : f + k - 1 - f + 1 = k := by omega
  simp (disch := omega) only [li, nI_add, pk_mul, ix_n, lt_n, le_n, eq_n, sub_n, dec_n, inb_t, neg_n, neg_n', ck_true, stp_eq, bnd_some, wp_some, wp_stp, Nat.add_zero, Nat.lt_irrefl, Nat.reduceEqDiff, Nat.reduceAdd, Nat.reduceSub, Nat.reduceMul, Nat.reduceLT, Nat.reduceLeDiff, up_o, up_ss, up_sn, zb_n1, true_and, and_true, ↓reduceIte, ckp_of hp hkc.1, ho0, ho1, hC.z, e1]
  have main : Wp (J_X1_carryShots_72 (nI f) (nI (f + k - 1)) p3 (up (up h 21 (E 2 f) (nI (R 0 1))) 22 (E 2 (f + k - 1)) (nI (R 0 1))) (nI k) (nI t)) (fun u => u.1 = nI t ∧ CE u.2 (moveE R E f k t) ∧ CF u.2 R (moveE R E f k t) ∧ HF h u.2) := by
    generalize hh1 : up (up h 21 (E 2 f) (nI (R 0 1))) 22 (E 2 (f + k - 1)) (nI (R 0 1)) = h1
    have hk1 : ∀ q, ¬ q = 21 → ¬ q = 22 → h1 q = h q := fun q a b => by rw [← hh1, up_o b, up_o a]
    have h21 : ∀ b, b < 40 → h1 21 b = nI (if b = E 2 f then R 0 1 else E 3 b) := by
      intro b hb
      rw [← hh1, up_o (by decide)]
      by_cases e2 : b = E 2 f
      · rw [e2, up_ss, if_pos rfl]
      · rw [up_sn e2, if_neg e2]; exact hD.hd b hb
    have h22 : ∀ b, b < 40 → h1 22 b = nI (if b = E 2 (f + k - 1) then R 0 1 else E 4 b) := by
      intro b hb
      rw [← hh1]
      by_cases e2 : b = E 2 (f + k - 1)
      · rw [e2, up_ss, if_pos rfl]
      · rw [up_sn e2, up_o (by decide), if_neg e2]; exact hD.tl b hb
    unfold J_X1_carryShots_72
    refine wp_for (i := 0) (E 0 1) (fun s x => ∃ h2, x = (nI (if s < f then s else if s < f + k then f else s - k), nI s, h2) ∧ (∀ q, q < s → h2 12 (gis f k t q) = nI (E 2 q)) ∧ (∀ q, ¬ q = 12 → h2 q = h1 q)) (by omega) (by omega) ⟨h1, ?_, fun q hq => absurd hq (Nat.not_lt_zero _), fun _ _ => rfl⟩ ?_
    · rw [show (if 0 < f then 0 else if 0 < f + k then f else 0 - k) = 0 by split <;> (try split) <;> omega]
      rfl
    · rintro s x r hs ⟨h2, rfl, b1, b2⟩ kk
      have e18 : h2 18 1 = nI (E 0 1) := by rw [b2 18 (by decide), hk1 18 (by decide) (by decide)]; exact hD.z
      have e20 : ∀ j, j < E 0 1 → h2 20 j = nI (E 2 j) := fun j hj => by rw [b2 20 (by decide), hk1 20 (by decide) (by decide)]; exact hD.o j hj
      unfold F_X1_carryShots_80 J_X1_carryShots_129 J_X1_carryShots_150 J_X1_carryShots_164
      by_cases hl : s < E 0 1
      · have wr : ∀ q, q < s + 1 → up h2 12 (gis f k t s) (nI (E 2 s)) 12 (gis f k t q) = nI (E 2 q) := by
          intro q hq
          by_cases e : q = s
          · rw [e, up_ss]
          · have g1 := sig_gis hk hf ht (show q < E 0 1 by omega)
            have g2 := sig_gis hk hf ht hl
            rw [up_sn (fun z => e (by rw [← g1.2, ← g2.2, z]))]
            exact b1 q (by omega)
        have wo : ∀ q, ¬ q = 12 → up h2 12 (gis f k t s) (nI (E 2 s)) q = h1 q := fun q hq => by rw [up_o hq]; exact b2 q hq
        by_cases y1 : s < f
        · by_cases y2 : s < t
          · have eg : gis f k t s = s := by unfold gis; rw [if_neg (by omega), if_pos y1, if_pos y2]
            rw [eg] at wr wo
            simp (disch := omega) only [li, nI_add, pk_mul, ix_n, lt_n, le_n, eq_n, sub_n, dec_n, inb_t, neg_n, neg_n', ck_true, stp_eq, bnd_some, wp_some, wp_stp, Nat.add_zero, Nat.lt_irrefl, Nat.reduceEqDiff, Nat.reduceAdd, Nat.reduceSub, Nat.reduceMul, Nat.reduceLT, Nat.reduceLeDiff, up_o, up_ss, up_sn, zb_n1, true_and, and_true, ↓reduceIte, e18, hl, y1, y2, e20]
            refine kk _ hl ⟨_, ?_, wr, wo⟩
            by_cases y3 : s + 1 < f
            · rw [if_pos y3]
            · rw [if_neg y3, if_pos (by omega), show f = s + 1 by omega]
          · have eg : gis f k t s = s + k := by unfold gis; rw [if_neg (by omega), if_pos y1, if_neg y2]
            rw [eg] at wr wo
            simp (disch := omega) only [li, nI_add, pk_mul, ix_n, lt_n, le_n, eq_n, sub_n, dec_n, inb_t, neg_n, neg_n', ck_true, stp_eq, bnd_some, wp_some, wp_stp, Nat.add_zero, Nat.lt_irrefl, Nat.reduceEqDiff, Nat.reduceAdd, Nat.reduceSub, Nat.reduceMul, Nat.reduceLT, Nat.reduceLeDiff, up_o, up_ss, up_sn, zb_n1, true_and, and_true, ↓reduceIte, e18, hl, y1, y2, e20]
            refine kk _ hl ⟨_, ?_, wr, wo⟩
            by_cases y3 : s + 1 < f
            · rw [if_pos y3]
            · rw [if_neg y3, if_pos (by omega), show f = s + 1 by omega]
        · by_cases y2 : s < f + k
          · have eg : gis f k t s = t + (s - f) := by unfold gis; rw [if_pos (by omega)]
            have y3 : ¬ f + k - 1 < s := by omega
            have e2 : t + s - f = t + (s - f) := by omega
            rw [eg] at wr wo
            simp (disch := omega) only [li, nI_add, pk_mul, ix_n, lt_n, le_n, eq_n, sub_n, dec_n, inb_t, neg_n, neg_n', ck_true, stp_eq, bnd_some, wp_some, wp_stp, Nat.add_zero, Nat.lt_irrefl, Nat.reduceEqDiff, Nat.reduceAdd, Nat.reduceSub, Nat.reduceMul, Nat.reduceLT, Nat.reduceLeDiff, up_o, up_ss, up_sn, zb_n1, true_and, and_true, ↓reduceIte, e18, hl, y1, y2, y3, e2, e20]
            refine kk _ hl ⟨_, ?_, wr, wo⟩
            rw [if_neg (by omega)]
            by_cases y4 : s + 1 < f + k
            · rw [if_pos y4]
            · rw [if_neg y4, show s + 1 - k = f by omega]
          · have y3 : f + k - 1 < s := by omega
            by_cases y4 : s - k < t
            · have eg : gis f k t s = s - k := by unfold gis; rw [if_neg (by omega), if_neg y1, if_pos y4]
              rw [eg] at wr wo
              simp (disch := omega) only [li, nI_add, pk_mul, ix_n, lt_n, le_n, eq_n, sub_n, dec_n, inb_t, neg_n, neg_n', ck_true, stp_eq, bnd_some, wp_some, wp_stp, Nat.add_zero, Nat.lt_irrefl, Nat.reduceEqDiff, Nat.reduceAdd, Nat.reduceSub, Nat.reduceMul, Nat.reduceLT, Nat.reduceLeDiff, up_o, up_ss, up_sn, zb_n1, true_and, and_true, ↓reduceIte, e18, hl, y1, y2, y3, y4, e20]
              refine kk _ hl ⟨_, ?_, wr, wo⟩
              rw [if_neg (by omega), if_neg (by omega), show s + 1 - k = s - k + 1 by omega]
            · have eg : gis f k t s = s - k + k := by unfold gis; rw [if_neg (by omega), if_neg y1, if_neg y4]
              rw [eg] at wr wo
              simp (disch := omega) only [li, nI_add, pk_mul, ix_n, lt_n, le_n, eq_n, sub_n, dec_n, inb_t, neg_n, neg_n', ck_true, stp_eq, bnd_some, wp_some, wp_stp, Nat.add_zero, Nat.lt_irrefl, Nat.reduceEqDiff, Nat.reduceAdd, Nat.reduceSub, Nat.reduceMul, Nat.reduceLT, Nat.reduceLeDiff, up_o, up_ss, up_sn, zb_n1, true_and, and_true, ↓reduceIte, e18, hl, y1, y2, y3, y4, e20]
              refine kk _ hl ⟨_, ?_, wr, wo⟩
              rw [if_neg (by omega), if_neg (by omega), show s + 1 - k = s - k + 1 by omega]
      · have e : s = E 0 1 := by omega
        subst e
        unfold J_X1_carryShots_170
        have ecp : cpok (nI 0) (nI 0) (nI (E 0 1)) 40 40 = true := by
          unfold cpok
          rw [ix_n (by omega), ix_n (by omega)]
          have z1 : (0 : Int32) ≤ nI (E 0 1) := nI_pos' (by omega)
          have z2 : (0 : Int32) ≤ nI 0 := by decide
          rw [decide_eq_true z2, decide_eq_true z1, decide_eq_true (show 0 + E 0 1 ≤ 40 by omega)]
          rfl
        simp (disch := omega) only [li, nI_add, pk_mul, ix_n, lt_n, le_n, eq_n, sub_n, dec_n, inb_t, neg_n, neg_n', ck_true, stp_eq, bnd_some, wp_some, wp_stp, Nat.add_zero, Nat.lt_irrefl, Nat.reduceEqDiff, Nat.reduceAdd, Nat.reduceSub, Nat.reduceMul, Nat.reduceLT, Nat.reduceLeDiff, up_o, up_ss, up_sn, zb_n1, true_and, and_true, ↓reduceIte, e18, hl, ecp]
        have hE2 := moveE_WE hW hE hf ht
        have hD2 : CE (hcp h2 12 20 (nI 0) (nI 0) (nI (E 0 1))) (moveE R E f k t) := by
          have ho : ∀ q, ¬ q = 20 → hcp h2 12 20 (nI 0) (nI 0) (nI (E 0 1)) q = h2 q := fun q hq => if_neg hq
          refine ⟨?_, fun w hw => ?_, fun j hj => ?_, fun d hd => ?_, fun d hd => ?_⟩
          · rw [ho 18 (by decide)]; exact e18
          · rw [ho 19 (by decide), b2 19 (by decide), hk1 19 (by decide) (by decide)]; exact hD.k w hw
          · have hj : j < E 0 1 := hj
            have e1 : hcp h2 12 20 (nI 0) (nI 0) (nI (E 0 1)) 20 = va_cpy (h2 12) (h2 20) (ix (nI 0)) (ix (nI 0)) (ix (nI (E 0 1))) := if_pos rfl
            rw [e1, ix_n (by omega), ix_n (by omega)]
            unfold va_cpy
            rw [if_pos (by omega), show 0 + (j - 0) = j by omega]
            have e3 := b1 (sig f k t j) (sig_lt hf ht hj)
            rw [gis_sig hf ht hj] at e3
            exact e3
          · rw [ho 21 (by decide), b2 21 (by decide)]; exact h21 d hd
          · rw [ho 22 (by decide), b2 22 (by decide)]; exact h22 d hd
        have hf2 : HF h (hcp h2 12 20 (nI 0) (nI 0) (nI (E 0 1))) := by
          refine ⟨fun q ha hb => ?_, ?_⟩
          · show (if q = 20 then _ else h2 q) = h q
            rw [if_neg (by omega), b2 q (by omega), hk1 q (by omega) (by omega)]
          · show (if 3 = 20 then _ else h2 3) 0 = h 3 0
            rw [if_neg (by decide), b2 3 (by decide), hk1 3 (by decide) (by decide)]
        refine wp_bnd_of (c_layOut hW hE2 (hf2.cr hkc hC) hD2 (hf2.2.trans hp) hkc) (fun u ku => wp_some.mpr ⟨rfl, ku.2.ce hD2, ku.1, hf2.tr ku.2.hf⟩)
  rcases h3 with ⟨h3, h4⟩ | ⟨h3, h4⟩
  · rw [if_pos h3, h4]
    exact main
  · rw [if_neg h3, h4]
    exact main
end
