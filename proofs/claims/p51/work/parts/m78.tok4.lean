/-! numbers and names, the model's side -/
def mnV (B : Nat → Int32) (q z : Nat) : Nat := Nat.rec (motive := fun _ => Nat) 0 (fun i r => 27 * r + (bn B (q + i) - 96)) z
theorem mnV_s (B : Nat → Int32) (q z : Nat) : mnV B q (z + 1) = 27 * mnV B q z + (bn B (q + z) - 96) := rfl
theorem nm_key {B : Nat → Int32} {q : Nat} : ∀ z k, z ≤ k → (∀ j, j < z → ltB (B (q + j))) → isNm k (nmV B q z) ∧ n27k k (nmV B q z) = mnV B q z := by
  intro z
  induction z with
  | zero => intro k _ _; exact ⟨isNm_0 k, n27k_0 k⟩
  | succ z ih =>
    intro k hk hb
    obtain ⟨k, rfl⟩ : ∃ k', k = k' + 1 := ⟨k - 1, by omega⟩
    obtain ⟨a1, a2⟩ := ih k (by omega) (fun j hj => hb j (by omega))
    obtain ⟨b1, b2, b3⟩ := bn_lt (hb z (by omega))
    rw [nmV_s, mnV_s, isNm_s, n27k_s]
    have e1 : (nmV B q z * 32 + (bn B (q + z) - 96)) % 32 = bn B (q + z) - 96 := by omega
    have e2 : (nmV B q z * 32 + (bn B (q + z) - 96)) / 32 = nmV B q z := by omega
    rw [e1, e2, a2]
    exact ⟨Or.inr ⟨by omega, by omega, a1⟩, by omega⟩
theorem nm_isName {B : Nat → Int32} {L q : Nat} (hq : q ≤ L) (hz : naE B L q = 0) : isName (nmV B q (lz B L q)) ∧ n27 (nmV B q (lz B L q)) = mnV B q (lz B L q) ∧ 1 ≤ lz B L q ∧ lz B L q ≤ 6 := by
  unfold naE at hz
  split at hz
  · rename_i h1
    obtain ⟨b1, b2⟩ := lz_f (B := B) hq
    obtain ⟨a1, a2⟩ := nm_key (B := B) (q := q) _ 6 h1.2 b2
    refine ⟨⟨?_, a1⟩, a2, h1⟩
    obtain ⟨z, hz⟩ : ∃ z, lz B L q = z + 1 := ⟨lz B L q - 1, by omega⟩
    obtain ⟨c1, c2, c3⟩ := bn_lt (b2 z (by omega))
    rw [hz, nmV_s]
    omega
  · cases hz
theorem mnV_lt {B : Nat → Int32} {q : Nat} (z : Nat) (hb : ∀ j, j < z → ltB (B (q + j))) : mnV B q z < 27 ^ z := by
  induction z with
  | zero => exact Nat.zero_lt_one
  | succ z ih =>
    have := ih (fun j hj => hb j (by omega))
    obtain ⟨a, b, c⟩ := bn_lt (hb z (by omega))
    rw [mnV_s, Nat.pow_succ]
    omega
section
variable {h g : Hp} {B : Nat → Int32} {L q p b o k lo hi : Nat}
theorem rr (hq : p ≤ L) : rn wsB B L (rn wsB B L p) = rn wsB B L p := by
  obtain ⟨a1, a2, a3, a4⟩ := rn_s wsB B hq
  exact rn_0 a2 a4
theorem nu1 (w : MF g B L o k) (x y : Int32) : f_X11_number g x y = some (x, g) := by
  obtain ⟨v, hv, e⟩ := w.at (nI 48) (nI 57)
  unfold f_X11_number
  rw [bl1 w, bnd_some, show f_X11_isAt g 48 57 = _ from e, bnd_some, mu1 w v hv, bnd_some, hf1 w, bnd_some, if_neg (show ¬ (nI 1 : Int32) = 0 by decide)]
theorem nu0 (w : MT g B L p b) (hq : rn wsB B L p = q) (hlo : lo < 2147483648) (hhi : hi < 2147483648) : Wp (f_X11_number g (nI lo) (nI hi)) (fun u => MFr g u.2 ∧ ((nuE B L q lo hi = 0 ∧ u.1 = nI (nuV B q (dz B L q)) ∧ MT u.2 B L (q + dz B L q) q) ∨ (1 ≤ nuE B L q lo hi ∧ u.1 = nI lo ∧ MF u.2 B L q (nuE B L q lo hi)))) := by
  have hl := w.l
  unfold f_X11_number
  refine wp_bnd_of (bl0 w) (fun g1 k1 => ?_)
  obtain ⟨w1, f1⟩ := k1
  rw [hq] at w1
  rw [show f_X11_isAt g1 48 57 = _ from w1.at (nI 48) (nI 57), bnd_some]
  obtain ⟨b1, b2⟩ := dz_f (B := B) w1.i
  by_cases z : q < L ∧ ¬ B q < nI 48 ∧ ¬ nI 57 < B q
  · have hdz : 0 < dz B L q := by
      unfold dz
      have := rn_pos (X := dgB) z.1 z.2
      omega
    rw [bo_y z, mu_ok, bnd_some, hf0 w1, bnd_some, if_pos (show (nI 0 : Int32) = 0 from rfl)]
    refine wp_for (i := 0) (dz B L q) (fun i st => ∃ g2, st = (nI (nuV B q (min i 5)), g2) ∧ MT g2 B L (q + i) q ∧ MFr g g2) (by omega) (by omega) ⟨g1, rfl, w1, f1⟩ ?_
    rintro i st r hi2 ⟨g2, rfl, w2, f2⟩ kk
    unfold F_X11_number_28
    show Wp (bnd (f_X11_isAt g2 (nI 48) (nI 57)) (fun u5 => if u5 = 0 then J_X11_number_83 (nI lo) (nI hi) g2 (nI (nuV B q (min i 5))) else if g2 125 17 - g2 125 18 < nI 5 then ck (inb (g2 125 17) 900) (stp (nI 10 * nI (nuV B q (min i 5)) + g2 137 (ix (g2 125 17)) - nI 48) (fun v6 => J_X11_number_70 (nI lo) (nI hi) g2 r v6)) else J_X11_number_70 (nI lo) (nI hi) g2 r (nI (nuV B q (min i 5))))) _
    rw [w2.at, bnd_some]
    by_cases x : i < dz B L q
    · have hd := b2 i x
      obtain ⟨c1, c2, c3⟩ := bn_dg hd
      have eb : g2 137 (q + i) = nI (bn B (q + i)) := by rw [w2.t _ (by omega)]; exact c1
      rw [bo_y ⟨by omega, hd.1, hd.2⟩, if_neg (show ¬ (nI 1 : Int32) = 0 by decide), w2.p, w2.s, sub_n (by omega), show q + i - q = i by omega]
      have step : ∀ v, v = nuV B q (min (i + 1) 5) → Wp (J_X11_number_70 (nI lo) (nI hi) g2 r (nI v)) (fun u => MFr g u.2 ∧ ((nuE B L q lo hi = 0 ∧ u.1 = nI (nuV B q (dz B L q)) ∧ MT u.2 B L (q + dz B L q) q) ∨ (1 ≤ nuE B L q lo hi ∧ u.1 = nI lo ∧ MF u.2 B L q (nuE B L q lo hi)))) := by
        intro v hv
        unfold J_X11_number_70
        rw [w2.p, stp_eq, show nI (q + i) + 1 = nI (q + i + 1) from nI_add (q + i) 1]
        exact kk _ x ⟨_, by rw [hv, Nat.add_assoc], w2.pt (by omega), f2.tr (MFr.up _ (by omega))⟩
      by_cases y : i < 5
      · have hv := nuV_lt i (fun j hj => b2 j (by omega))
        have hv2 : 10 ^ i ≤ 10 ^ 5 := Nat.pow_le_pow_right (by decide) (by omega)
        have e5 : (10 : Nat) ^ 5 = 100000 := by decide
        rw [if_pos ((nI_ltI (by omega) (by omega)).mpr y), inb_t (by omega) (by omega), ck_true, ix_n (by omega), eb, show min i 5 = i by omega, pk_mul, nI_add, sub_n (by omega), stp_eq]
        refine step _ ?_
        rw [show min (i + 1) 5 = i + 1 by omega, nuV_s]
        omega
      · rw [if_neg (fun y2 => y ((nI_ltI (by omega) (by omega)).mp y2))]
        exact step _ (by rw [show min (i + 1) 5 = min i 5 by omega])
    · have e : i = dz B L q := by omega
      subst e
      have hnd : ¬ (q + dz B L q < L ∧ ¬ B (q + dz B L q) < nI 48 ∧ ¬ nI 57 < B (q + dz B L q)) := by
        rintro ⟨x1, x2⟩
        obtain ⟨a1, a2, a3, a4⟩ := rn_s dgB B w1.i
        have e2 : q + dz B L q = rn dgB B L q := by unfold dz; omega
        rw [e2] at x1 x2
        exact a4 x1 x2
      rw [bo_n hnd, if_pos (show (nI 0 : Int32) = 0 from rfl)]
      have hne : ¬ dz B L q = 0 := by omega
      have no : nuE B L q lo hi = 2 → ∀ v, Wp (J_X11_number_110 (nI lo) (nI hi) g2 v) (fun u => MFr g u.2 ∧ ((nuE B L q lo hi = 0 ∧ u.1 = nI (nuV B q (dz B L q)) ∧ MT u.2 B L (q + dz B L q) q) ∨ (1 ≤ nuE B L q lo hi ∧ u.1 = nI lo ∧ MF u.2 B L q (nuE B L q lo hi)))) := by
        intro he v
        obtain ⟨g3, e3, w3, f3⟩ := mu_no w2 2
        unfold J_X11_number_110 J_X11_number_111
        rw [show f_X11_must g2 0 2 = _ from e3, bnd_some, hf1 w3, bnd_some, if_neg (show ¬ (nI 1 : Int32) = 0 by decide)]
        exact wp_some.mpr ⟨f2.tr f3, Or.inr ⟨by omega, rfl, by rw [he]; exact w3⟩⟩
      unfold J_X11_number_83
      rw [w2.p, w2.s, sub_n (by omega), show q + dz B L q - q = dz B L q by omega]
      by_cases y : dz B L q ≤ 5
      · have hv := nuV_lt (dz B L q) b2
        have hv2 : 10 ^ dz B L q ≤ 10 ^ 5 := Nat.pow_le_pow_right (by decide) (by omega)
        have e5 : (10 : Nat) ^ 5 = 100000 := by decide
        rw [if_neg (show ¬ (5 : Int32) < nI (dz B L q) from fun y2 => by have := (nI_ltI (a := 5) (by omega) (by omega)).mp y2; omega), show min (dz B L q) 5 = dz B L q by omega, m_inR, bnd_some]
        by_cases y1 : nuV B q (dz B L q) < lo
        · rw [if_pos ((nI_ltI (by omega) (by omega)).mpr y1), if_pos (show (nI 0 : Int32) = 0 from rfl)]
          refine no ?_ _
          unfold nuE
          rw [if_neg hne, if_neg (by omega), if_pos (Or.inl y1)]
        · rw [if_neg (fun y2 => y1 ((nI_ltI (by omega) (by omega)).mp y2))]
          by_cases y3 : hi < nuV B q (dz B L q)
          · rw [if_pos ((nI_ltI (by omega) (by omega)).mpr y3), if_pos (show (nI 0 : Int32) = 0 from rfl)]
            refine no ?_ _
            unfold nuE
            rw [if_neg hne, if_neg (by omega), if_pos (Or.inr y3)]
          · rw [if_neg (fun y2 => y3 ((nI_ltI (by omega) (by omega)).mp y2)), if_neg (show ¬ (nI 1 : Int32) = 0 by decide)]
            unfold J_X11_number_111
            rw [show f_X11_must g2 1 2 = _ from mu_ok 2, bnd_some, hf0 w2, bnd_some, if_pos (show (nI 0 : Int32) = 0 from rfl)]
            refine wp_some.mpr ⟨f2, Or.inl ⟨?_, rfl, w2⟩⟩
            unfold nuE
            rw [if_neg hne, if_neg (by omega), if_neg (by omega)]
      · rw [if_pos (show (5 : Int32) < nI (dz B L q) from (nI_ltI (a := 5) (by omega) (by omega)).mpr (by omega))]
        refine no ?_ _
        unfold nuE
        rw [if_neg hne, if_pos (by omega)]
  · have hdz : dz B L q = 0 := by
      unfold dz
      rw [rn_0 w1.i (fun x y => z ⟨x, y⟩)]
      omega
    have he : nuE B L q lo hi = 1 := by unfold nuE; rw [if_pos hdz]
    obtain ⟨g3, e3, w3, f3⟩ := mu_no w1 1
    rw [bo_n z, show f_X11_must g1 (nI 0) 1 = _ from e3, bnd_some, hf1 w3, bnd_some, if_neg (show ¬ (nI 1 : Int32) = 0 by decide)]
    exact wp_some.mpr ⟨f1.tr f3, Or.inr ⟨by omega, rfl, by rw [he]; exact w3⟩⟩
theorem sn1 (w : MF g B L o k) : f_X11_seesName g = some (nI 0, g) := by
  obtain ⟨v, hv, e⟩ := le1 w
  unfold f_X11_seesName
  rw [e, bnd_some, m_inR, bnd_some]
  have hm : ∀ x : Int32, f_X11_must g (if nI v < 1 then nI 0 else if 6 < nI v then nI 0 else nI 1) x = some g := by
    intro x
    split
    · exact mu1 w 0 (by omega) x
    · split
      · exact mu1 w 0 (by omega) x
      · exact mu1 w 1 (by omega) x
  rw [hm, bnd_some]
  show F_X11_seesName_21 g (nI v) _ (nI 0, nI 0) = _
  unfold F_X11_seesName_21
  show (if nI 0 < nI v then bnd (f_X11_hasFailed g) _ else some (nI 0, g)) = _
  rw [hf1 w, bnd_some, if_neg (show ¬ (nI 1 : Int32) = 0 by decide), ite_self]
theorem sn0 (w : MT g B L p b) (hq : rn wsB B L p = q) : Wp (f_X11_seesName g) (fun u => MFr g u.2 ∧ ((naE B L q = 0 ∧ u.1 = nI (n27 (nmV B q (lz B L q))) ∧ MT u.2 B L q q) ∨ (naE B L q = 1 ∧ u.1 = nI 0 ∧ MF u.2 B L q 1))) := by
  have hl := w.l
  unfold f_X11_seesName
  refine wp_bnd_of (le0 w hq) (fun u k1 => ?_)
  obtain ⟨e1, w1, f1⟩ := k1
  obtain ⟨b1, b2⟩ := lz_f (B := B) w1.i
  rw [e1, m_inR, bnd_some]
  by_cases z : 1 ≤ lz B L q ∧ lz B L q ≤ 6
  · have hz : naE B L q = 0 := by unfold naE; rw [if_pos z]
    obtain ⟨n1, n2, -⟩ := nm_isName w1.i hz
    rw [if_neg (show ¬ nI (lz B L q) < 1 from fun y => by have := (nI_ltI (b := 1) (by omega) (by omega)).mp y; omega), if_neg (show ¬ 6 < nI (lz B L q) from fun y => by have := (nI_ltI (a := 6) (by omega) (by omega)).mp y; omega), mu_ok, bnd_some, n2]
    refine wp_for (i := 0) (lz B L q) (fun i st => st = (nI (mnV B q i), nI i)) (by omega) (by omega) rfl ?_
    rintro i st r hi2 rfl kk
    unfold F_X11_seesName_21
    by_cases x : i < lz B L q
    · obtain ⟨c1, c2, c3⟩ := bn_lt (b2 i x)
      have eb : u.2 137 (q + i) = nI (bn B (q + i)) := by rw [w1.t _ (by omega)]; exact c1
      have hv := mnV_lt i (fun j hj => b2 j (by omega))
      have hv2 : 27 ^ i ≤ 27 ^ 5 := Nat.pow_le_pow_right (by decide) (by omega)
      have e5 : (27 : Nat) ^ 5 = 14348907 := by decide
      simp (disch := omega) only [li, nI_add, pk_mul, ix_n, lt_n, le_n, eq_n, sub_n, dec_n, inb_t, neg_n, neg_n', ck_true, stp_eq, bnd_some, wp_some, wp_stp, Nat.add_zero, Nat.lt_irrefl, Nat.reduceEqDiff, Nat.reduceAdd, Nat.reduceSub, Nat.reduceMul, Nat.reduceLT, Nat.reduceLeDiff, up_o, up_ss, up_sn, zb_n1, true_and, and_true, ↓reduceIte, x, hf0 w1, w1.p, eb]
      refine kk _ x ?_
      rw [mnV_s]
      exact Prod.ext (congrArg nI (by omega)) rfl
    · have e : i = lz B L q := by omega
      subst e
      simp (disch := omega) only [li, nI_add, pk_mul, ix_n, lt_n, le_n, eq_n, sub_n, dec_n, inb_t, neg_n, neg_n', ck_true, stp_eq, bnd_some, wp_some, wp_stp, Nat.add_zero, Nat.lt_irrefl, Nat.reduceEqDiff, Nat.reduceAdd, Nat.reduceSub, Nat.reduceMul, Nat.reduceLT, Nat.reduceLeDiff, up_o, up_ss, up_sn, zb_n1, true_and, and_true, ↓reduceIte]
      exact ⟨f1, Or.inl ⟨hz, w1⟩⟩
  · have hz : naE B L q = 1 := by unfold naE; rw [if_neg z]
    have hin : (if nI (lz B L q) < 1 then nI 0 else if 6 < nI (lz B L q) then nI 0 else nI 1) = nI 0 := by
      by_cases y : nI (lz B L q) < 1
      · rw [if_pos y]
      · rw [if_neg y]
        have y1 : ¬ lz B L q < 1 := fun y2 => y ((nI_ltI (b := 1) (by omega) (by omega)).mpr y2)
        rw [if_pos (show 6 < nI (lz B L q) from (nI_ltI (a := 6) (by omega) (by omega)).mpr (by omega))]
    obtain ⟨g3, e3, w3, f3⟩ := mu_no w1 1
    rw [hin, show f_X11_must u.2 (nI 0) 1 = _ from e3, bnd_some]
    show Wp (F_X11_seesName_21 g3 (nI (lz B L q)) _ (nI 0, nI 0)) _
    unfold F_X11_seesName_21
    show Wp (if nI 0 < nI (lz B L q) then bnd (f_X11_hasFailed g3) _ else some (nI 0, g3)) _
    rw [hf1 w3, bnd_some, if_neg (show ¬ (nI 1 : Int32) = 0 by decide), ite_self]
    exact wp_some.mpr ⟨f1.tr f3, Or.inr ⟨hz, rfl, w3⟩⟩
theorem tn1 (w : MF g B L o k) : f_X11_takesName g = some (nI 0, g) := by
  unfold f_X11_takesName
  rw [sn1 w, bnd_some]
  show bnd (f_X11_hasFailed g) _ = _
  rw [hf1 w, bnd_some, if_neg (show ¬ (nI 1 : Int32) = 0 by decide)]
/-- behind a name that is seen, over its letters -/
theorem skn (w : MT g B L q q) (hq : rn wsB B L q = q) : ∃ g', (∃ g1, f_X11_letters g = some (nI (lz B L q), g1) ∧ g' = up g1 125 17 (nI (q + lz B L q))) ∧ MT g' B L (q + lz B L q) q ∧ MFr g g' := by
  obtain ⟨⟨v, g1⟩, e1, e2, w1, f1⟩ := le0 w hq
  have e2 : v = _ := e2
  subst e2
  obtain ⟨b1, b2⟩ := lz_f (B := B) w1.i
  exact ⟨_, ⟨g1, e1, rfl⟩, w1.pt b1, f1.tr (MFr.up _ (by omega))⟩
theorem tn0 (w : MT g B L p b) (hq : rn wsB B L p = q) : Wp (f_X11_takesName g) (fun u => MFr g u.2 ∧ ((naE B L q = 0 ∧ u.1 = nI (n27 (nmV B q (lz B L q))) ∧ MT u.2 B L (q + lz B L q) q) ∨ (naE B L q = 1 ∧ u.1 = nI 0 ∧ MF u.2 B L q 1))) := by
  unfold f_X11_takesName
  refine wp_bnd_of (sn0 w hq) (fun u k1 => ?_)
  obtain ⟨f1, ⟨hz, e1, w1⟩ | ⟨hz, e1, w1⟩⟩ := k1
  · have hq2 : rn wsB B L q = q := by rw [← hq]; exact rr w.i
    obtain ⟨g', ⟨g1, e2, e3⟩, w2, f2⟩ := skn w1 hq2
    rw [hf0 w1, bnd_some, if_pos (show (nI 0 : Int32) = 0 from rfl), e2, bnd_some, w1.p, nI_add, stp_eq]
    show Wp (some (u.1, up g1 125 17 (nI (q + lz B L q)))) _
    rw [← e3]
    exact wp_some.mpr ⟨f1.tr f2, Or.inl ⟨hz, e1, w2⟩⟩
  · rw [hf1 w1, bnd_some, if_neg (show ¬ (nI 1 : Int32) = 0 by decide)]
    exact wp_some.mpr ⟨f1, Or.inr ⟨hz, e1, w1⟩⟩
end
