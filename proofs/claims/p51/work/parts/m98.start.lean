/-! the start of a reading -/
def M0 (g : Hp) (B : Nat → Int32) (L : Nat) (i : Nat) : Prop :=
  (g 125 19 = nI L) ∧
  (L ≤ 900) ∧
  (∀ j, j < L → g 137 j = B j) ∧
  (i ≤ L) ∧
  (g 125 17 = nI i) ∧
  (g 125 20 = -nI 1) ∧
  (g 125 21 = nI 0)
theorem M0.n {g : Hp} {B : Nat → Int32} {L : Nat} {i : Nat} (q : M0 g B L i) : g 125 19 = nI L := q.1
theorem M0.l {g : Hp} {B : Nat → Int32} {L : Nat} {i : Nat} (q : M0 g B L i) : L ≤ 900 := q.2.1
theorem M0.t {g : Hp} {B : Nat → Int32} {L : Nat} {i : Nat} (q : M0 g B L i) : ∀ j, j < L → g 137 j = B j := q.2.2.1
theorem M0.i {g : Hp} {B : Nat → Int32} {L : Nat} {i : Nat} (q : M0 g B L i) : i ≤ L := q.2.2.2.1
theorem M0.p {g : Hp} {B : Nat → Int32} {L : Nat} {i : Nat} (q : M0 g B L i) : g 125 17 = nI i := q.2.2.2.2.1
theorem M0.f {g : Hp} {B : Nat → Int32} {L : Nat} {i : Nat} (q : M0 g B L i) : g 125 20 = -nI 1 := q.2.2.2.2.2.1
theorem M0.k {g : Hp} {B : Nat → Int32} {L : Nat} {i : Nat} (q : M0 g B L i) : g 125 21 = nI 0 := q.2.2.2.2.2.2
def clR (R : Nat → Nat → Nat) : Nat → Nat → Nat := setE (setE (setE (setE (setE (setE R 0 0 1000) 0 1 12) 0 2 0) 0 4 0) 0 10 0) 0 13 0
section
variable {h g : Hp} {B : Nat → Int32} {L q p c : Nat} {R : Nat → Nat → Nat}
theorem bl00 (w : M0 g B L p) : Wp (f_X11_blanks g) (fun u => MT u B L (rn wsB B L p) (rn wsB B L p) ∧ MFr g u) := by
  have hl := w.l
  have h0 : f_X11_hasFailed g = some (nI 0) := by
    unfold f_X11_hasFailed
    rw [w.f, if_pos (show (-nI 1 : Int32) = -1 from rfl)]
    rfl
  unfold f_X11_blanks
  rw [h0, bnd_some, if_pos (show (nI 0 : Int32) = 0 from rfl)]
  refine wp_for (i := p) L (fun i st => M0 st B L i ∧ MFr g st ∧ p ≤ i ∧ ∀ j, p ≤ j → j < i → wsB (B j)) (by omega) w.i ⟨w, MFr.rf g, Nat.le_refl _, fun j h1 h2 => by omega⟩ ?_
  rintro i g1 r hi ⟨w1, f1, hpi, hall⟩ k
  have next : i < L → wsB (B i) → Wp (J_X11_blanks_30 g1 r) (fun u => MT u B L (rn wsB B L p) (rn wsB B L p) ∧ MFr g u) := by
    intro x hx
    unfold J_X11_blanks_30
    rw [w1.p, stp_eq, show nI i + 1 = nI (i + 1) from nI_add i 1]
    exact k _ x ⟨⟨by rw [up_sn (by decide)]; exact w1.n, w1.l, fun j hj => by rw [up_o (by decide)]; exact w1.t j hj, x, up_ss, by rw [up_sn (by decide)]; exact w1.f, by rw [up_sn (by decide)]; exact w1.k⟩, f1.tr (MFr.up _ (by omega)), by omega, fun j h1 h2 => by
      by_cases e : j = i
      · subst e; exact hx
      · exact hall j h1 (by omega)⟩
  unfold F_X11_blanks_8
  rw [show f_X11_isAt g1 9 10 = _ from m_at w1.n w1.l w1.t w1.i w1.p (nI 9) (nI 10), bnd_some]
  by_cases y1 : i < L ∧ ¬ B i < nI 9 ∧ ¬ nI 10 < B i
  · rw [bo_y y1, if_neg (show ¬ (nI 1 : Int32) = 0 by decide)]
    exact next y1.1 (ws_at.mpr (Or.inl y1.2))
  · rw [bo_n y1, if_pos (show (nI 0 : Int32) = 0 from rfl), show f_X11_isAt g1 32 32 = _ from m_at w1.n w1.l w1.t w1.i w1.p (nI 32) (nI 32), bnd_some]
    by_cases y2 : i < L ∧ ¬ B i < nI 32 ∧ ¬ nI 32 < B i
    · rw [bo_y y2, if_neg (show ¬ (nI 1 : Int32) = 0 by decide)]
      exact next y2.1 (ws_at.mpr (Or.inr y2.2))
    · rw [bo_n y2, if_pos (show (nI 0 : Int32) = 0 from rfl)]
      have e : rn wsB B L p = i := rn_u hpi hi hall (fun x hx => by
        rcases ws_at.mp hx with z | z
        · exact y1 ⟨x, z⟩
        · exact y2 ⟨x, z⟩)
      unfold J_X11_blanks_43
      rw [w1.p, stp_eq, e]
      exact wp_some.mpr ⟨⟨by rw [up_sn (by decide)]; exact w1.n, w1.l, fun j hj => by rw [up_o (by decide)]; exact w1.t j hj, hi, by rw [up_sn (by decide)]; exact w1.p, up_ss, hi, by rw [up_sn (by decide)]; exact w1.f, by rw [up_sn (by decide)]; exact w1.k⟩, f1.tr (MFr.up _ (by omega))⟩
/-- what beginsText leaves of the model's other fields -/
def BT (g g' : Hp) : Prop := (∀ k, ¬ k = 125 → g' k = g k) ∧ g' 125 16 = nI 0 ∧ ∀ j, ¬ (16 ≤ j ∧ j ≤ 21) → g' 125 j = g 125 j
theorem m_begT (hn : g 125 16 = nI L) (hl : L ≤ 900) (ht : ∀ j, j < L → g 137 j = B j) : Wp (f_X11_beginsText g) (fun u => MT u B L (rn wsB B L 0) (rn wsB B L 0) ∧ BT g u) := by
  unfold f_X11_beginsText
  rw [stp_eq, stp_eq, stp_eq, stp_eq, stp_eq]
  have f : (∀ k, ¬ k = 125 → up (up (up (up (up g 125 19 (g 125 16)) 125 16 0) 125 17 0) 125 20 (-1)) 125 21 0 k = g k) ∧ ∀ j, ¬ (16 ≤ j ∧ j ≤ 21) → up (up (up (up (up g 125 19 (g 125 16)) 125 16 0) 125 17 0) 125 20 (-1)) 125 21 0 125 j = g 125 j := ⟨fun k a => by rw [up_o a, up_o a, up_o a, up_o a, up_o a], fun j a => by rw [up_sn (by omega), up_sn (by omega), up_sn (by omega), up_sn (by omega), up_sn (by omega)]⟩
  have w : M0 (up (up (up (up (up g 125 19 (g 125 16)) 125 16 0) 125 17 0) 125 20 (-1)) 125 21 0) B L 0 := ⟨by rw [up_sn (by decide), up_sn (by decide), up_sn (by decide), up_sn (by decide), up_ss]; exact hn, hl, fun j hj => by rw [f.1 137 (by decide)]; exact ht j hj, Nat.zero_le _, by rw [up_sn (by decide), up_sn (by decide), up_ss]; rfl, by rw [up_sn (by decide), up_ss]; rfl, up_ss⟩
  have e16 : up (up (up (up (up g 125 19 (g 125 16)) 125 16 0) 125 17 0) 125 20 (-1)) 125 21 0 125 16 = nI 0 := by rw [up_sn (by decide), up_sn (by decide), up_sn (by decide), up_ss]; rfl
  refine wp_bnd_of (bl00 w) (fun u k1 => wp_some.mpr ⟨k1.1, fun k a => by rw [k1.2.1 k a]; exact f.1 k a, by rw [k1.2.2 16 (by omega)]; exact e16, fun j a => by rw [k1.2.2 j (by omega)]; exact f.2 j a⟩)
theorem c_clear (hC : CR h c R) : Wp (f_X4_clear h c) (fun u => CR u c (clR R) ∧ ∀ k, ¬ (c ≤ k ∧ k ≤ c + 13) → u k = h k) := by
  unfold f_X4_clear
  rw [stp_eq, stp_eq, stp_eq, stp_eq, stp_eq, stp_eq]
  exact wp_some.mpr ⟨(((((hC.put (o := 0) (j := 0) (v := 1000) (by omega)).put (o := 0) (j := 1) (v := 12) (by omega)).put (o := 0) (j := 2) (v := 0) (by omega)).put (o := 0) (j := 4) (v := 0) (by omega)).put (o := 0) (j := 10) (v := 0) (by omega)).put (o := 0) (j := 13) (v := 0) (by omega), fun k hk => by rw [up_o (by omega), up_o (by omega), up_o (by omega), up_o (by omega), up_o (by omega), up_o (by omega)]⟩
theorem cl_v : clR R 0 0 = 1000 ∧ clR R 0 1 = 12 ∧ clR R 0 2 = 0 ∧ clR R 0 4 = 0 ∧ clR R 0 10 = 0 ∧ clR R 0 13 = 0 := by
  unfold clR
  refine ⟨?_, ?_, ?_, ?_, ?_, ?_⟩
  · rw [setE_n (by decide), setE_n (by decide), setE_n (by decide), setE_n (by decide), setE_n (by decide), setE_s]
  · rw [setE_n (by decide), setE_n (by decide), setE_n (by decide), setE_n (by decide), setE_s]
  · rw [setE_n (by decide), setE_n (by decide), setE_n (by decide), setE_s]
  · rw [setE_n (by decide), setE_n (by decide), setE_s]
  · rw [setE_n (by decide), setE_s]
  · rw [setE_s]
theorem cl_WD : WD (clR R) := by
  obtain ⟨a1, a2, a3, a4, a5, a6⟩ := cl_v (R := R)
  exact ⟨by omega, by omega, by omega, by omega, by omega, by omega, fun s hs => by omega, fun w hw => by omega, fun w hw => by omega, fun w hw => by omega, fun i hi => by omega, a6⟩
theorem m_begins : Wp (f_X11_begins g) (fun u => GD u (clR R) ∧ ∀ k, ¬ k = 127 → u k = g k) := by
  obtain ⟨v1, v2, v3, v4, v5, v6⟩ := cl_v (R := R)
  unfold f_X11_begins
  refine wp_for (i := 0) 193 (fun i st => ∃ g1, st = (nI i, g1) ∧ (∀ j, j < i → g1 127 j = nI 0) ∧ ∀ k, ¬ k = 127 → g1 k = g k) (by omega) (by omega) ⟨g, rfl, fun j hj => absurd hj (Nat.not_lt_zero _), fun _ _ => rfl⟩ ?_
  rintro i st r hi ⟨g1, rfl, a1, a2⟩ k
  unfold F_X11_begins_2
  by_cases x : i < 193
  · simp (disch := omega) only [li, nI_add, pk_mul, ix_n, lt_n, le_n, eq_n, sub_n, dec_n, inb_t, neg_n, neg_n', ck_true, stp_eq, bnd_some, wp_some, wp_stp, Nat.add_zero, Nat.lt_irrefl, Nat.reduceEqDiff, Nat.reduceAdd, Nat.reduceSub, Nat.reduceMul, Nat.reduceLT, Nat.reduceLeDiff, up_o, up_ss, up_sn, zb_n1, true_and, and_true, ↓reduceIte, x]
    refine k _ x ⟨_, rfl, fun j hj => ?_, fun k hk => by rw [up_o hk]; exact a2 k hk⟩
    by_cases e : j = i
    · subst e; rw [up_ss]
    · rw [up_sn e]; exact a1 j (by omega)
  · have e : i = 193 := by omega
    subst e
    show Wp (if nI 193 < nI 193 then _ else J_X11_begins_22 g1) _
    rw [if_neg (by decide)]
    unfold J_X11_begins_22
    simp (disch := omega) only [li, nI_add, pk_mul, ix_n, lt_n, le_n, eq_n, sub_n, dec_n, inb_t, neg_n, neg_n', ck_true, stp_eq, bnd_some, wp_some, wp_stp, Nat.add_zero, Nat.lt_irrefl, Nat.reduceEqDiff, Nat.reduceAdd, Nat.reduceSub, Nat.reduceMul, Nat.reduceLT, Nat.reduceLeDiff, up_o, up_ss, up_sn, zb_n1, true_and, and_true, ↓reduceIte]
    refine ⟨⟨?_, ?_, ?_, ?_, ?_, fun s hs => by omega, fun s hs => by omega, fun s hs => by omega, fun s hs => by omega, fun s hs => by omega, fun s hs => by omega, fun s hs => by omega⟩, fun k hk => by rw [up_o hk, up_o hk]; exact a2 k hk⟩
    · rw [v1, up_sn (by decide), up_ss]
    · rw [v2, up_ss]
    · rw [v3, up_sn (by decide), up_sn (by decide)]; exact a1 2 (by omega)
    · rw [v4, up_sn (by decide), up_sn (by decide)]; exact a1 3 (by omega)
    · rw [v5, up_sn (by decide), up_sn (by decide)]; exact a1 4 (by omega)
end
