/-! actions as the law calls them -/
def ED (h : Hp) (g : Hp) (c : Nat) (R : Nat → Nat → Nat) (E : Nat → Nat → Nat) (d : Nat) (x : Nat) (hi : Nat → Nat → Nat → Nat) : Prop :=
  (QQ h g c R E) ∧
  (HC h d x hi) ∧
  (HG g d hi) ∧
  (HW R d hi)
theorem ED.Q {h : Hp} {g : Hp} {c : Nat} {R : Nat → Nat → Nat} {E : Nat → Nat → Nat} {d : Nat} {x : Nat} {hi : Nat → Nat → Nat → Nat} (q : ED h g c R E d x hi) : QQ h g c R E := q.1
theorem ED.Hc {h : Hp} {g : Hp} {c : Nat} {R : Nat → Nat → Nat} {E : Nat → Nat → Nat} {d : Nat} {x : Nat} {hi : Nat → Nat → Nat → Nat} (q : ED h g c R E d x hi) : HC h d x hi := q.2.1
theorem ED.Hg {h : Hp} {g : Hp} {c : Nat} {R : Nat → Nat → Nat} {E : Nat → Nat → Nat} {d : Nat} {x : Nat} {hi : Nat → Nat → Nat → Nat} (q : ED h g c R E d x hi) : HG g d hi := q.2.2.1
theorem ED.Hw {h : Hp} {g : Hp} {c : Nat} {R : Nat → Nat → Nat} {E : Nat → Nat → Nat} {d : Nat} {x : Nat} {hi : Nat → Nat → Nat → Nat} (q : ED h g c R E d x hi) : HW R d hi := q.2.2.2
def CFr (h h' : Hp) : Prop := ∀ k, ¬ (3 ≤ k ∧ k ≤ 14) → ¬ (18 ≤ k ∧ k ≤ 82) → h' k = h k
def GFr (g g' : Hp) : Prop := (∀ k, relO k = true → ¬ k = 134 → ¬ k = 135 → g' k = g k) ∧ ∀ j, relF j = true → ¬ j = 13 → g' 125 j = g 125 j
theorem CFr.rf (h : Hp) : CFr h h := fun _ _ _ => rfl
theorem CFr.tr {a b c : Hp} (h1 : CFr a b) (h2 : CFr b c) : CFr a c := fun k p q => (h2 k p q).trans (h1 k p q)
theorem GFr.tr {a b c : Hp} (h1 : GFr a b) (h2 : GFr b c) : GFr a c := ⟨fun k p q r => (h2.1 k p q r).trans (h1.1 k p q r), fun j p q => (h2.2 j p q).trans (h1.2 j p q)⟩
theorem GW.gf {g g' : Hp} (q : GW g g') : GFr g g' := ⟨fun k p _ _ => q.1 k p, fun j p _ => q.2 j p⟩
theorem AW.gf {g g' : Hp} (q : AW g g') : GFr g g' := ⟨fun k p a _ => q.1 k p a, fun j p _ => q.2.1 j p⟩
theorem HF.cf {h h' : Hp} (q : HF h h') : CFr h h' := fun k a b => q.1 k (by omega) (by omega)
theorem HG.fr {g g' : Hp} {d : Nat} {hi : Nat → Nat → Nat → Nat} (q : HG g d hi) (e1 : g' 125 13 = g 125 13) (e2 : g' 135 = g 135) : HG g' d hi := by
  refine ⟨e1.trans q.d, fun i hi2 => ?_⟩
  have := q.e i hi2
  unfold GEat at *
  rw [e2]
  exact this
theorem HC.fr {h h' : Hp} {d x : Nat} {hi : Nat → Nat → Nat → Nat} (q : HC h d x hi) (e : ∀ k, (k = 13 ∨ (23 ≤ k ∧ k ≤ 82)) → h' k = h k) : HC h' d x hi := by
  refine ⟨by rw [e 13 (Or.inl rfl)]; exact q.n, by rw [e 13 (Or.inl rfl)]; exact q.d, q.x12, q.d12, fun i hi2 => (q.e i hi2).fr (fun k a b => e k (Or.inr (by omega)))⟩
theorem ED.gw {h g g' : Hp} {c d x : Nat} {R E : Nat → Nat → Nat} {hi : Nat → Nat → Nat → Nat} (q : ED h g c R E d x hi) (w : GW g g') : ED h g' c R E d x hi := ⟨q.Q.fr w, q.Hc, q.Hg.fr (w.2 13 (by decide)) (w.1 135 (by decide)), q.Hw⟩
/-- what an action does -/
def AA (X : Option (Hp × Hp)) (h g : Hp) (c : Nat) (R : Nat → Nat → Nat) : Prop := ∃ h' g', X = some (h', g') ∧ CFr h h' ∧ GFr g g' ∧ ∃ E d x hi, ED h' g' c R E d x hi
theorem QA.aa {X : Option (Hp × Hp)} {h g : Hp} {c d x : Nat} {R E : Nat → Nat → Nat} {hi : Nat → Nat → Nat → Nat} (q : QA X h g) (w : ED h g c R E d x hi) : AA X h g c R := by
  obtain ⟨g', e, k⟩ := q
  exact ⟨h, g', e, CFr.rf h, k.gf, E, d, x, hi, w.gw k⟩
theorem AA.ok {h g h' : Hp} {c : Nat} {R : Nat → Nat → Nat} {X : Option (Nat × (Int32 × Hp))} {K : Nat × (Int32 × Hp) → Option (Int32 × (Hp × Hp))} {Y : Hp → Option (Int32 × Hp)} {v : Int32} (h1 : X = some (0, (v, h'))) (hK : K (0, (v, h')) = some (0, (h', up g 145 0 v))) (hf : CFr h h') (hY : Wp (Y (up g 145 0 v)) (fun u => u.1 = v ∧ GFr (up g 145 0 v) u.2 ∧ u.2 145 = (up g 145 0 v) 145 ∧ u.2 125 0 = 0 ∧ ∃ E d x hi, ED h' u.2 c R E d x hi)) : AA (bnd (bnd X K) (fun u0 => bnd (Y u0.2.2) (fun u1 => bnd (f_X11_thrown u1.2) (fun u2 => if u2 = u0.1 then (if u0.1 = 0 then (if u1.2 145 0 = u1.1 then (some (u0.2.1, u1.2)) else none) else some (u0.2.1, u1.2)) else none)))) h g c R := by
  obtain ⟨u, e, e1, e2, e3, e4, e5⟩ := hY
  refine ⟨h', u.2, ?_, hf, (GW.out g v).gf.tr e2, e5⟩
  rw [h1, bnd_some, hK, bnd_some]
  simp only [e, bnd_some, f_X11_thrown, e4, ↓reduceIte]
  rw [if_pos (by rw [e3, up_ss, e1])]
theorem AA.no {h g : Hp} {c d x : Nat} {R E : Nat → Nat → Nat} {hi : Nat → Nat → Nat → Nat} (w : ED h g c R E d x hi) {X : Option (Nat × (Int32 × Hp))} {K : Nat × (Int32 × Hp) → Option (Int32 × (Hp × Hp))} {Y : Hp → Option (Int32 × Hp)} {t : Nat} {v0 v co : Int32} (h1 : X = some (t, (v0, h))) (hK : K (t, (v0, h)) = some (co, (h, g))) (hco : co ≠ 0) (hY : MA (Y g) g co v) : AA (bnd (bnd X K) (fun u0 => bnd (Y u0.2.2) (fun u1 => bnd (f_X11_thrown u1.2) (fun u2 => if u2 = u0.1 then (if u0.1 = 0 then (if u1.2 145 0 = u1.1 then (some (u0.2.1, u1.2)) else none) else some (u0.2.1, u1.2)) else none)))) h g c R := by
  obtain ⟨u, e, e1, e2, e3, -⟩ := hY
  refine ⟨h, u.2, ?_, CFr.rf h, e1.gf, E, d, x, hi, w.gw e1⟩
  rw [h1, bnd_some, hK, bnd_some]
  simp only [e, bnd_some, f_X11_thrown, e3, ↓reduceIte]
  rw [if_neg hco]
/-- a trial: the class answers a number and stays as it was -/
theorem AA.tr {h g : Hp} {c : Nat} {R : Nat → Nat → Nat} {X : Option (Nat × Int32)} {K : Nat × Int32 → Option (Int32 × (Hp × Hp))} {Y : Hp → Option (Int32 × Hp)} {v : Int32} (h1 : X = some (0, v)) (hK : K (0, v) = some (0, (h, up g 145 0 v))) (hY : Wp (Y (up g 145 0 v)) (fun u => u.1 = v ∧ GFr (up g 145 0 v) u.2 ∧ u.2 145 = (up g 145 0 v) 145 ∧ u.2 125 0 = 0 ∧ ∃ E d x hi, ED h u.2 c R E d x hi)) : AA (bnd (bnd X K) (fun u0 => bnd (Y u0.2.2) (fun u1 => bnd (f_X11_thrown u1.2) (fun u2 => if u2 = u0.1 then (if u0.1 = 0 then (if u1.2 145 0 = u1.1 then (some (u0.2.1, u1.2)) else none) else some (u0.2.1, u1.2)) else none)))) h g c R := by
  obtain ⟨u, e, e1, e2, e3, e4, e5⟩ := hY
  refine ⟨h, u.2, ?_, CFr.rf h, (GW.out g v).gf.tr e2, e5⟩
  rw [h1, bnd_some, hK, bnd_some]
  simp only [e, bnd_some, f_X11_thrown, e4, ↓reduceIte]
  rw [if_pos (by rw [e3, up_ss, e1])]
theorem AA.tn {h g : Hp} {c d x : Nat} {R E : Nat → Nat → Nat} {hi : Nat → Nat → Nat → Nat} (w : ED h g c R E d x hi) {X : Option (Nat × Int32)} {K : Nat × Int32 → Option (Int32 × (Hp × Hp))} {Y : Hp → Option (Int32 × Hp)} {t : Nat} {v0 v co : Int32} (h1 : X = some (t, v0)) (hK : K (t, v0) = some (co, (h, g))) (hco : co ≠ 0) (hY : MA (Y g) g co v) : AA (bnd (bnd X K) (fun u0 => bnd (Y u0.2.2) (fun u1 => bnd (f_X11_thrown u1.2) (fun u2 => if u2 = u0.1 then (if u0.1 = 0 then (if u1.2 145 0 = u1.1 then (some (u0.2.1, u1.2)) else none) else some (u0.2.1, u1.2)) else none)))) h g c R := by
  obtain ⟨u, e, e1, e2, e3, -⟩ := hY
  refine ⟨h, u.2, ?_, CFr.rf h, e1.gf, E, d, x, hi, w.gw e1⟩
  rw [h1, bnd_some, hK, bnd_some]
  simp only [e, bnd_some, f_X11_thrown, e3, ↓reduceIte]
  rw [if_neg hco]
section
variable {h g : Hp} {c : Nat} {R E : Nat → Nat → Nat} {d x : Nat} {hi : Nat → Nat → Nat → Nat}
theorem ED.z0 (w : ED h g c R E d x hi) : ED h (up g 125 0 (nI 0)) c R E d x hi := w.gw (GW.upF g (by decide))
theorem ED.zo (w : ED h g c R E d x hi) (v : Int32) : ED h (up g 145 0 v) c R E d x hi := w.gw (GW.out g v)
/-- the end of an action: both sides have come to the edit E' -/
theorem ED.mk2 (w : ED h g c R E d x hi) {h' g' : Hp} {E' : Nat → Nat → Nat} {d' x' : Nat} {hi' : Nat → Nat → Nat → Nat} (hC : CR h' c R) (hp : h' 3 0 = nI c) (hD : CE h' E') (hF : CF h' R E') (hG : GR g' R) (hM : GE g' E') (hE : WE R E') (hX : WX R E') (h1 : HC h' d' x' hi') (h2 : HG g' d' hi') (h3 : HW R d' hi') : ∃ E d x hi, ED h' g' c R E d x hi :=
  ⟨E', d', x', hi', ⟨w.Q.W, hE, hX, hG, hM, hC, hD, hF, hp, w.Q.k⟩, h1, h2, h3⟩
/-! places -/
def badP (x y : Int32) (n : Nat) : Prop := bad x n ∨ ∃ a, a < n ∧ x = nI a ∧ (bad y n ∨ ∃ b, b < a ∧ y = nI b)
theorem idP (x y : Int32) {n : Nat} (hn : n < 2147483648) : badP x y n ∨ ∃ a b, a ≤ b ∧ b < n ∧ x = nI a ∧ y = nI b := by
  rcases idb x hn with q | ⟨a, ha, rfl⟩
  · exact Or.inl (Or.inl q)
  · rcases idb y hn with q | ⟨b, hb, rfl⟩
    · exact Or.inl (Or.inr ⟨a, ha, rfl, Or.inl q⟩)
    · by_cases z : b < a
      · exact Or.inl (Or.inr ⟨a, ha, rfl, Or.inr ⟨b, z, rfl⟩⟩)
      · exact Or.inr ⟨a, b, by omega, hb, rfl, rfl⟩
theorem c_rPl (q : QQ h g c R E) {a b : Nat} (hab : a ≤ b) (hb : b < (trA R E).length) : f_X10_requirePlaces h (nI a) (nI b) = some (0, nI 0) := by
  have h1 := trA_le q.W q.E
  have h2 : ¬ b < a := by omega
  unfold f_X10_requirePlaces
  simp (disch := omega) only [li, nI_add, pk_mul, ix_n, lt_n, le_n, eq_n, sub_n, dec_n, inb_t, neg_n, neg_n', ck_true, stp_eq, bnd_some, wp_some, wp_stp, Nat.add_zero, Nat.lt_irrefl, Nat.reduceEqDiff, Nat.reduceAdd, Nat.reduceSub, Nat.reduceMul, Nat.reduceLT, Nat.reduceLeDiff, up_o, up_ss, up_sn, zb_n1, true_and, and_true, ↓reduceIte, Nat.not_lt_zero, h2, q.F.pls, hb]
theorem c_rPl' (q : QQ h g c R E) {x y : Int32} (hb : badP x y (trA R E).length) : f_X10_requirePlaces h x y = some (2, nI 0) := by
  have h1 := trA_le q.W q.E
  unfold f_X10_requirePlaces J_X10_requirePlaces_20
  rcases hb with (hx | ⟨hx, hy⟩) | ⟨a, ha, rfl, (hy | ⟨hx, hy⟩) | ⟨b, hb, rfl⟩⟩
  · simp (disch := omega) only [li, nI_add, pk_mul, ix_n, lt_n, le_n, eq_n, sub_n, dec_n, inb_t, neg_n, neg_n', ck_true, stp_eq, bnd_some, wp_some, wp_stp, Nat.add_zero, Nat.lt_irrefl, Nat.reduceEqDiff, Nat.reduceAdd, Nat.reduceSub, Nat.reduceMul, Nat.reduceLT, Nat.reduceLeDiff, up_o, up_ss, up_sn, zb_n1, true_and, and_true, ↓reduceIte, hx]
  · have h3 : ¬ x < 0 := hx
    rw [if_neg h3]
    by_cases z : y < x
    · rw [if_pos z]; rfl
    · rw [if_neg z, q.F.pls]
      have h4 : ¬ y < nI (trA R E).length := by
        intro y2
        have e1 := Int32.lt_iff_toInt_lt.mp y2
        have e2 : ¬ x.toInt < (nI (trA R E).length).toInt := fun z3 => hy (Int32.lt_iff_toInt_lt.mpr z3)
        have e3 : ¬ y.toInt < x.toInt := fun z3 => z (Int32.lt_iff_toInt_lt.mpr z3)
        omega
      rw [if_neg h4]; rfl
  · have z : y < nI a := by
      rw [Int32.lt_iff_toInt_lt, nI_toInt (by omega)]
      have e1 := Int32.lt_iff_toInt_lt.mp hy
      rw [nI_toInt (by omega)] at e1
      omega
    simp (disch := omega) only [li, nI_add, pk_mul, ix_n, lt_n, le_n, eq_n, sub_n, dec_n, inb_t, neg_n, neg_n', ck_true, stp_eq, bnd_some, wp_some, wp_stp, Nat.add_zero, Nat.lt_irrefl, Nat.reduceEqDiff, Nat.reduceAdd, Nat.reduceSub, Nat.reduceMul, Nat.reduceLT, Nat.reduceLeDiff, up_o, up_ss, up_sn, zb_n1, true_and, and_true, ↓reduceIte, Nat.not_lt_zero, z]
  · by_cases z : y < nI a
    · simp (disch := omega) only [li, nI_add, pk_mul, ix_n, lt_n, le_n, eq_n, sub_n, dec_n, inb_t, neg_n, neg_n', ck_true, stp_eq, bnd_some, wp_some, wp_stp, Nat.add_zero, Nat.lt_irrefl, Nat.reduceEqDiff, Nat.reduceAdd, Nat.reduceSub, Nat.reduceMul, Nat.reduceLT, Nat.reduceLeDiff, up_o, up_ss, up_sn, zb_n1, true_and, and_true, ↓reduceIte, Nat.not_lt_zero, z]
    · simp (disch := omega) only [li, nI_add, pk_mul, ix_n, lt_n, le_n, eq_n, sub_n, dec_n, inb_t, neg_n, neg_n', ck_true, stp_eq, bnd_some, wp_some, wp_stp, Nat.add_zero, Nat.lt_irrefl, Nat.reduceEqDiff, Nat.reduceAdd, Nat.reduceSub, Nat.reduceMul, Nat.reduceLT, Nat.reduceLeDiff, up_o, up_ss, up_sn, zb_n1, true_and, and_true, ↓reduceIte, Nat.not_lt_zero, z, q.F.pls, hy]
  · simp (disch := omega) only [li, nI_add, pk_mul, ix_n, lt_n, le_n, eq_n, sub_n, dec_n, inb_t, neg_n, neg_n', ck_true, stp_eq, bnd_some, wp_some, wp_stp, Nat.add_zero, Nat.lt_irrefl, Nat.reduceEqDiff, Nat.reduceAdd, Nat.reduceSub, Nat.reduceMul, Nat.reduceLT, Nat.reduceLeDiff, up_o, up_ss, up_sn, zb_n1, true_and, and_true, ↓reduceIte, Nat.not_lt_zero, hb]
theorem m_noPlaces (hW : WR R) (hE : WE R E) (hG : GR g R) (hM : GE g E) {a b : Nat} (hab : a ≤ b) (hb : b < (trA R E).length) : Wp (f_X11_noPlaces g (nI a) (nI b)) (fun u => u.1 = nI 0 ∧ RowOK g u.2 R E) := by
  have h1 := trA_le hW hE
  have h2 : ¬ b < a := by omega
  have h3 : a < (trA R E).length := by omega
  unfold f_X11_noPlaces J_X11_noPlaces_38
  refine wp_bnd_of (m_laysRow hW hE hG hM) (fun g0 k0 => ?_)
  simp (disch := omega) only [li, nI_add, pk_mul, ix_n, lt_n, le_n, eq_n, sub_n, dec_n, inb_t, neg_n, neg_n', ck_true, stp_eq, bnd_some, wp_some, wp_stp, Nat.add_zero, Nat.lt_irrefl, Nat.reduceEqDiff, Nat.reduceAdd, Nat.reduceSub, Nat.reduceMul, Nat.reduceLT, Nat.reduceLeDiff, up_o, up_ss, up_sn, zb_n1, true_and, and_true, ↓reduceIte, k0.n, m_in, m_in', Nat.not_lt_zero, h3, h2, hb, m_throws0]
  exact k0
theorem m_noPlaces' (hW : WR R) (hE : WE R E) (hG : GR g R) (hM : GE g E) {x y : Int32} (hb : badP x y (trA R E).length) : Wp (f_X11_noPlaces g x y) (fun u => u.1 = nI 1 ∧ ∃ g0, RowOK g g0 R E ∧ u.2 = up g0 125 0 (nI 1)) := by
  have h1 := trA_le hW hE
  unfold f_X11_noPlaces
  refine wp_bnd_of (m_laysRow hW hE hG hM) (fun g0 k0 => ?_)
  have fin : Wp (J_X11_noPlaces_33 x y g0) (fun u => u.1 = nI 1 ∧ ∃ g0, RowOK g g0 R E ∧ u.2 = up g0 125 0 (nI 1)) := by
    unfold J_X11_noPlaces_33 J_X11_noPlaces_38
    simp (disch := omega) only [li, nI_add, pk_mul, ix_n, lt_n, le_n, eq_n, sub_n, dec_n, inb_t, neg_n, neg_n', ck_true, stp_eq, bnd_some, wp_some, wp_stp, Nat.add_zero, Nat.lt_irrefl, Nat.reduceEqDiff, Nat.reduceAdd, Nat.reduceSub, Nat.reduceMul, Nat.reduceLT, Nat.reduceLeDiff, up_o, up_ss, up_sn, zb_n1, true_and, and_true, ↓reduceIte, m_throws1]
    exact ⟨g0, k0, rfl⟩
  rw [show f_X11_in g0 x 0 (g0 125 36 - 1) = _ from k0.in hW hE, bnd_some]
  rcases hb with hx | ⟨a, ha, rfl, hy⟩
  · have e : (if x < nI 0 then nI 0 else if x < nI (trA R E).length then nI 1 else nI 0) = nI 0 := by
      rcases hx with hx | ⟨hx, hy⟩
      · rw [if_pos hx]
      · rw [if_neg hx, if_neg hy]
    rw [e, if_pos (show nI 0 = (0 : Int32) from rfl)]
    exact fin
  · have e : (if nI a < nI 0 then nI 0 else if nI a < nI (trA R E).length then nI 1 else nI 0) = nI 1 := by
      rw [if_neg (by rw [lt_n (by omega) (by omega)]; omega), if_pos (by rw [lt_n (by omega) (by omega)]; exact ha)]
    rw [e, if_neg (show ¬ nI 1 = (0 : Int32) by decide)]
    have e2 : f_X11_in g0 y (nI a) (g0 125 36 - nI 1) = some (nI 0) := by
      rw [k0.n, m_in (by omega)]
      rcases hy with (hy | ⟨hx, hy⟩) | ⟨b, hb, rfl⟩
      · have z : y < nI a := by
          rw [Int32.lt_iff_toInt_lt, nI_toInt (by omega)]
          have e1 := Int32.lt_iff_toInt_lt.mp hy
          rw [nI_toInt (by omega)] at e1
          omega
        rw [if_pos z]
      · by_cases z : y < nI a
        · rw [if_pos z]
        · rw [if_neg z, if_neg hy]
      · rw [if_pos (by rw [lt_n (by omega) (by omega)]; exact hb)]
    rw [show f_X11_in g0 y (nI a) (g0 125 36 - 1) = _ from e2, bnd_some, if_pos (show nI 0 = (0 : Int32) from rfl)]
    exact fin
theorem MA.np {Y : Option (Int32 × Hp)} {g : Hp} {v : Int32} (hY : Wp Y (fun u => ∃ g0, RowOK (up g 125 0 (nI 0)) g0 R E ∧ u.2 = up g0 125 0 (nI 1))) : MA Y g 1 v := by
  refine hY.mono (fun u hu => ?_)
  obtain ⟨g0, k0, e⟩ := hu
  rw [e]
  refine ⟨((GW.upF g (by decide)).tr k0.gw).tr (GW.upF _ (by decide)), ?_, up_ss, fun z => absurd z (by decide)⟩
  rw [up_o (by decide), k0.o 145 (by decide) (by decide) (by decide), up_o (by decide)]
def KP (g g' : Hp) : Prop := GFr g g' ∧ g' 145 = g 145 ∧ g' 125 0 = g 125 0
theorem KP.tr {a b c : Hp} (h1 : KP a b) (h2 : KP b c) : KP a c := ⟨h1.1.tr h2.1, h2.2.1.trans h1.2.1, h2.2.2.trans h1.2.2⟩
theorem AW.kp {g g' : Hp} (q : AW g g') : KP g g' := ⟨q.gf, q.2.2.1, q.2.2.2.1⟩
theorem RowOK.kp {g g' : Hp} {R E : Nat → Nat → Nat} (q : RowOK g g' R E) : KP g g' := q.aw.kp
theorem AW.hg {g g' : Hp} {d : Nat} {hi : Nat → Nat → Nat → Nat} (w : AW g g') (q : HG g d hi) : HG g' d hi := q.fr (w.2.1 13 (by decide)) (w.1 135 (by decide) (by decide))
theorem GR.gf {g g' : Hp} {R : Nat → Nat → Nat} (hG : GR g R) (w : GFr g g') : GR g' R := by
  obtain ⟨h1, h2⟩ := w
  unfold GR
  rw [h1 126 (by decide) (by decide) (by decide), h1 128 (by decide) (by decide) (by decide), h1 129 (by decide) (by decide) (by decide), h1 130 (by decide) (by decide) (by decide), h1 131 (by decide) (by decide) (by decide), h1 132 (by decide) (by decide) (by decide), h1 133 (by decide) (by decide) (by decide), h2 3 (by decide) (by decide)]
  exact hG
theorem m_rec (hW : WR R) (hE : WE R E) (hG : GR g R) (hM : GE g E) (hH : HG g d hi) (hh : HW R d hi) (hd : d ≤ 12) : Wp (f_X11_keeps g) (fun u => GR u R ∧ GE u E ∧ HG u (dN d) (hiN E d hi) ∧ KP g u) := by
  refine (m_keeps hW hE hM hH hh hd).mono (fun u ku => ?_)
  obtain ⟨k1, k2, k3⟩ := ku
  have hg : GFr g u := ⟨fun k a b c => k2 k (fun e => by subst e; revert a; decide) c, fun j a b => k3 j b⟩
  refine ⟨hG.gf hg, ?_, k1, hg, k2 145 (by decide) (by decide), k3 0 (by decide)⟩
  unfold GE
  rw [k2 134 (by decide) (by decide)]
  exact hM
theorem c_rec (w : ED h g c R E d x hi) : Wp (f_X3_record h 18) (fun u => HC u (dN d) ((x + 1) % 12) (hiN E d hi) ∧ CR u c R ∧ CE u E ∧ CF u R E ∧ u 3 0 = nI c ∧ CFr h u) := by
  have q := w.Q
  have hk := q.k
  refine (c_record q.W q.E q.D w.Hc).mono (fun h1 kk => ?_)
  obtain ⟨k1, k2⟩ := kk
  refine ⟨k1, q.C.fr (fun o ho => k2 _ (by omega) (by omega)), q.D.fr (fun k a b => k2 k (by omega) (by omega)), ?_, by rw [k2 3 (by decide) (by omega)]; exact q.p, fun k a b => k2 k (by omega) (by omega)⟩
  have : ∀ k, k ≤ 12 → h1 k = h k := fun k hk => k2 k (by omega) (by omega)
  unfold CF
  rw [this 3 (by decide), this 4 (by decide), this 5 (by decide), this 6 (by decide), this 7 (by decide), this 8 (by decide), this 9 (by decide), this 10 (by decide), this 11 (by decide)]
  exact q.F
theorem HF.hc {h h' : Hp} {d x : Nat} {hi : Nat → Nat → Nat → Nat} (q : HF h h') (hH : HC h d x hi) : HC h' d x hi := hH.fr (fun k hk => q.1 k (by omega) (by omega))
/-- what the model's half owes when both sides went through -/
theorem MK {h' g : Hp} {v : Int32} {Y : Option (Int32 × Hp)} (hY : Wp Y (fun u => u.1 = v ∧ KP (up g 125 0 (nI 0)) u.2 ∧ ∃ E d x hi, ED h' u.2 c R E d x hi)) : Wp Y (fun u => u.1 = v ∧ GFr g u.2 ∧ u.2 145 = g 145 ∧ u.2 125 0 = 0 ∧ ∃ E d x hi, ED h' u.2 c R E d x hi) := by
  refine hY.mono (fun u hu => ?_)
  obtain ⟨e1, ⟨e2, e3, e4⟩, e5⟩ := hu
  refine ⟨e1, (GW.upF g (by decide)).gf.tr e2, by rw [e3, up_o (by decide)], by rw [e4, up_ss]; rfl, e5⟩
theorem qa35 (w : ED h g c R E d x hi) (a1 a2 : Int32) : AA (A_35 h g a1 a2) h g c R := by
  have q := w.Q
  have hl := trA_le q.W q.E
  unfold A_35 f_L_cut
  rcases idP a1 a2 (n := (trA R E).length) (by omega) with hb | ⟨a, b, hab, hb, rfl, rfl⟩
  · refine AA.no (Y := fun g => f_X11_cut g a1 a2) w (t := 2) (v0 := 0) (v := 0) (co := 1) ?_ rfl (by decide) (MA.np (R := R) (E := E) ?_)
    · unfold f_X10_cut
      rw [c_rPl' q hb, bnd_some, if_neg (by decide)]
    · have z := q.z0
      unfold f_X11_cut
      rw [stp_eq]
      refine wp_bnd_of (m_noPlaces' z.W z.E z.G z.M hb) (fun u k => ?_)
      obtain ⟨k1, g0, k2, k3⟩ := k
      rw [if_neg (by rw [k1]; decide)]
      exact wp_some.mpr ⟨g0, k2, k3⟩
  · obtain ⟨h1, e1, f1, C1, D1, F1, p1, cf1⟩ := c_rec w
    obtain ⟨h2, e2, D2, F2, H2⟩ := c_cutPlaces q.W q.E q.X C1 D1 F1 p1 q.k (a := a) (b := b) (by omega) hb
    have E2 := cutK_WE q.W q.E (K := KC R E a (b + 1)) (fun v hv => KC_le q.E hv)
    have X2 := cutK_WX q.W q.E q.X (K := KC R E a (b + 1)) (fun v _ hv => KC_1 hv)
    refine AA.ok (Y := fun g => f_X11_cut g (nI a) (nI b)) (h' := h2) (v := nI (fs R E (E 0 1)) - nI (fs R (cutK R E (KC R E a (b + 1))) (cutK R E (KC R E a (b + 1)) 0 1))) ?_ rfl (cf1.tr H2.cf) (MK ?_)
    · unfold f_X10_cut
      rw [c_rPl q hab hb, bnd_some, if_pos rfl, e1, bnd_some, stp_eq, e2, bnd_some, F1.fr, F2.fr]
    · have z := (w.zo (nI (fs R E (E 0 1)) - nI (fs R (cutK R E (KC R E a (b + 1))) (cutK R E (KC R E a (b + 1)) 0 1)))).z0
      unfold f_X11_cut
      rw [stp_eq]
      refine wp_bnd_of (m_noPlaces z.Q.W z.Q.E z.Q.G z.Q.M hab hb) (fun u k => ?_)
      obtain ⟨k1, k2⟩ := k
      rw [if_pos (by rw [k1]; rfl)]
      refine wp_bnd_of (m_rec z.Q.W z.Q.E (z.Q.G.fr k2.gw) (z.Q.M.fr k2.gw) (k2.aw.hg z.Hg) z.Hw z.Hc.d12) (fun g3 k3 => ?_)
      obtain ⟨G3, M3, H3, P3⟩ := k3
      rw [m_film z.Q.W z.Q.E G3 M3, bnd_some]
      refine wp_bnd_of (m_cutsPlaces z.Q.W z.Q.E z.Q.X G3 M3 (a := a) (b := b) (by omega) hb) (fun g5 k5 => ?_)
      rw [m_film z.Q.W E2 (G3.fa k5.2) k5.1, bnd_some]
      exact wp_some.mpr ⟨rfl, (k2.kp.tr P3).tr k5.2.kp, ED.mk2 w (H2.cr q.k C1) (H2.2.trans p1) D2 F2 (G3.fa k5.2) k5.1 E2 X2 (H2.hc f1) (k5.2.hg H3) (w.Hw.new w.Hc.d12 q.E q.X)⟩
theorem KC_1w {p v : Nat} (hv : (trA R E)[p]? = some v) : KC R E p (p + 1) = fun u => if u = v then 0 else E 1 u := by
  rw [KC_s (Nat.le_refl _) hv, KC_0]
theorem qa36 (w : ED h g c R E d x hi) (a1 : Int32) : AA (A_36 h g a1) h g c R := by
  have q := w.Q
  have hl := trA_le q.W q.E
  have h40 := q.W.w40
  unfold A_36 f_L_cutWord
  rcases idb a1 (n := R 0 4) (by omega) with hb | ⟨v, hv, rfl⟩
  · refine AA.no (Y := fun g => f_X11_cutWord g a1) w (t := 1) (v0 := 0) (v := 0) (co := 1) ?_ rfl (by decide) ?_
    · unfold f_X10_cutWord
      rw [c_rW' q hb, bnd_some, if_neg (by decide)]
    · have z := q.z0
      show MA (bnd (f_X11_noWord (up g 125 0 (nI 0)) a1) _) _ _ _
      rw [m_noWord' z.W z.G hb, bnd_some, if_neg (show ¬ nI 1 = 0 by decide)]
      exact MA.fail (by decide)
  · obtain ⟨g1, g2, g3, g4, g5, g6⟩ := w_facts q.W hv
    have hk1 := q.E.k1 v g1
    by_cases hk : E 1 v = 1
    · obtain ⟨s, hs, es⟩ := q.X.kept v hv hk
      have hblk := q.W.wb v hv
      have hm : ∃ p, p < (trA R E).length ∧ (trA R E)[p]? = some v := by
        have hmem : v ∈ trA R E := (mem_tr _).mpr ⟨s, hs, by rw [es]; exact hblk.2.1, by rw [es]; exact hblk.2.2, hk⟩
        obtain ⟨p, hp, e⟩ := List.getElem_of_mem hmem
        exact ⟨p, hp, by rw [List.getElem?_eq_getElem hp, e]⟩
      obtain ⟨p, hp, ep⟩ := hm
      have e10 : h 10 v = nI p := by
        rw [q.F.wp v hv, sch_u (i := p) (by omega) (fun j hj z => by have := nodup_get (tr_nodup q.W q.E _ (Nat.le_refl _)) z ep; omega) (fun _ => ep), oI, if_pos hp]
      obtain ⟨h1, e1, f1, C1, D1, F1, p1, cf1⟩ := c_rec w
      obtain ⟨h2, e2, D2, F2, H2⟩ := c_cutPlaces q.W q.E q.X C1 D1 F1 p1 q.k (a := p) (b := p) (by omega) hp
      have E2 := cutK_WE q.W q.E (K := KC R E p (p + 1)) (fun v hv => KC_le q.E hv)
      have X2 := cutK_WX q.W q.E q.X (K := KC R E p (p + 1)) (fun v _ hv => KC_1 hv)
      have C2 := H2.cr q.k C1
      have p2 := H2.2.trans p1
      have es2 := c_stateOf q.W E2 C2 D2 F2 p2 q.k hv
      refine AA.ok (Y := fun g => f_X11_cutWord g (nI v)) (h' := h2) (v := stO R (cutK R E (KC R E p (p + 1))) v) ?_ rfl (cf1.tr H2.cf) (MK ?_)
      · unfold f_X10_cutWord
        rw [c_rW q hv, bnd_some, if_pos rfl, inb_t g1 (by omega), ck_true, ix_n (by omega), stp_eq, e10, if_neg (show ¬ nI p = (-1 : Int32) from fun z => by have := neg_n (a := p) (by omega); rw [← this]; exact z), e1, bnd_some, e2, bnd_some, es2, bnd_some]
      · have z := (w.zo (stO R (cutK R E (KC R E p (p + 1))) v)).z0
        unfold f_X11_cutWord
        rw [stp_eq]
        rw [show f_X11_noWord (up (up g 145 0 (stO R (cutK R E (KC R E p (p + 1))) v)) 125 0 0) (nI v) = _ from m_noWord z.Q.W z.Q.G hv, bnd_some, if_pos (show nI 0 = (0 : Int32) from rfl)]
        rw [m_isKept z.Q.M (z.Q.E.zz (by omega)) g1 hk1, bnd_some, hk, if_neg (show ¬ nI 1 = (0 : Int32) by decide)]
        unfold J_X11_cutWord_27
        rw [show f_X11_throwsIf _ 0 2 = _ from m_throws0, bnd_some, if_pos (show nI 0 = (0 : Int32) from rfl)]
        refine wp_bnd_of (m_rec z.Q.W z.Q.E z.Q.G z.Q.M z.Hg z.Hw z.Hc.d12) (fun g3 k3 => ?_)
        obtain ⟨G3, M3, H3, P3⟩ := k3
        refine wp_bnd_of (m_cutsWord z.Q.W z.Q.E G3 (GE.cut0 z.Q.E z.Q.X M3) z.Q.E.k1 (by
          have := cutK_WX q.W q.E q.X (K := E 1) (fun v _ hv => hv)
          exact this) hv hk) (fun g5 k5 => ?_)
        have M5 := k5.1
        rw [← KC_1w ep] at M5
        have w5 := AW.of k5.2
        rw [m_stateOf z.Q.W E2 (G3.fa w5) M5 hv, bnd_some]
        exact wp_some.mpr ⟨rfl, P3.tr w5.kp, ED.mk2 w C2 p2 D2 F2 (G3.fa w5) M5 E2 X2 (H2.hc f1) (w5.hg H3) (w.Hw.new w.Hc.d12 q.E q.X)⟩
    · have hk0 : E 1 v = 0 := by omega
      refine AA.no (Y := fun g => f_X11_cutWord g (nI v)) w (t := 3) (v0 := 0) (v := 0) (co := 2) ?_ rfl (by decide) ?_
      · have e10 : h 10 v = -nI 1 := by
          rw [q.F.wp v hv, oI, if_neg]
          rw [sch_lt]
          rintro ⟨p, hp, e⟩
          exact hk (trA_get q.W q.E e).2
        unfold f_X10_cutWord
        rw [c_rW q hv, bnd_some, if_pos rfl, inb_t g1 (by omega), ck_true, ix_n (by omega), stp_eq, e10, if_pos (show -nI 1 = (-1 : Int32) from rfl)]
      · have z := q.z0
        unfold f_X11_cutWord
        rw [stp_eq]
        rw [show f_X11_noWord (up g 125 0 0) (nI v) = _ from m_noWord z.W z.G hv, bnd_some, if_pos (show nI 0 = (0 : Int32) from rfl)]
        rw [m_isKept z.M (z.E.zz (by omega)) g1 hk1, bnd_some, hk0, if_pos (show nI 0 = (0 : Int32) from rfl)]
        unfold J_X11_cutWord_27
        rw [show f_X11_throwsIf _ 1 2 = _ from m_throws1, bnd_some, if_neg (show ¬ nI 1 = (0 : Int32) by decide)]
        exact MA.fail (by decide)
theorem qa37 (w : ED h g c R E d x hi) (a1 a2 : Int32) : AA (A_37 h g a1 a2) h g c R := by
  have q := w.Q
  have h40 := q.W.w40
  unfold A_37 f_L_restore
  rcases idb a1 (n := R 0 4) (by omega) with hb | ⟨a, ha, rfl⟩
  · refine AA.no (Y := fun g => f_X11_restore g a1 a2) w (t := 1) (v0 := 0) (v := 0) (co := 1) ?_ rfl (by decide) ?_
    · unfold f_X10_restore
      rw [c_rW' q hb, bnd_some, if_neg (by decide)]
    · have z := q.z0
      show MA (bnd (f_X11_noWord (up g 125 0 (nI 0)) a1) _) _ _ _
      rw [m_noWord' z.W z.G hb, bnd_some, if_neg (show ¬ nI 1 = 0 by decide)]
      exact MA.fail (by decide)
  rcases idb a2 (n := R 0 4) (by omega) with hb | ⟨b, hb, rfl⟩
  · refine AA.no (Y := fun g => f_X11_restore g (nI a) a2) w (t := 1) (v0 := 0) (v := 0) (co := 1) ?_ rfl (by decide) ?_
    · unfold f_X10_restore
      rw [c_rW q ha, bnd_some, if_pos rfl, c_rW' q hb, bnd_some, if_neg (by decide)]
    · have z := q.z0
      show MA (bnd (f_X11_noWord (up g 125 0 (nI 0)) (nI a)) _) _ _ _
      rw [m_noWord z.W z.G ha, bnd_some, if_pos (show nI 0 = (0 : Int32) from rfl)]
      show MA (bnd (f_X11_noWord (up g 125 0 (nI 0)) a2) _) _ _ _
      rw [m_noWord' z.W z.G hb, bnd_some, if_neg (show ¬ nI 1 = 0 by decide)]
      exact MA.fail (by decide)
  by_cases hab : b < a
  · have hlt : nI b < nI a := (nI_ltI (by omega) (by omega)).mpr hab
    refine AA.no (Y := fun g => f_X11_restore g (nI a) (nI b)) w (t := 2) (v0 := 0) (v := 0) (co := 2) ?_ rfl (by decide) ?_
    · unfold f_X10_restore
      rw [c_rW q ha, bnd_some, if_pos rfl, c_rW q hb, bnd_some, if_pos rfl, if_pos hlt]
    · have z := q.z0
      show MA (bnd (f_X11_noWord (up g 125 0 (nI 0)) (nI a)) _) _ _ _
      rw [m_noWord z.W z.G ha, bnd_some, if_pos (show nI 0 = (0 : Int32) from rfl)]
      show MA (bnd (f_X11_noWord (up g 125 0 (nI 0)) (nI b)) _) _ _ _
      rw [m_noWord z.W z.G hb, bnd_some, if_pos (show nI 0 = (0 : Int32) from rfl), if_pos hlt]
      unfold J_X11_restore_32
      rw [show f_X11_throwsIf _ 1 2 = _ from m_throws1, bnd_some, if_neg (show ¬ nI 1 = (0 : Int32) by decide)]
      exact MA.fail (by decide)
  · have hlt : ¬ nI b < nI a := fun y => hab ((nI_ltI (by omega) (by omega)).mp y)
    obtain ⟨h1, e1, f1, C1, D1, F1, p1, cf1⟩ := c_rec w
    obtain ⟨⟨v2, h2⟩, e2, e3, D2, F2, H2⟩ := c_keepAgain q.W q.E q.X C1 D1 p1 q.k (a := a) (b := b) (by omega) hb
    have hWW := rA_W q.W q.E q.X (a := a) (b + 1 - a) (by omega)
    have e3 : v2 = nI (rA R E a (b + 1 - a)).2 := e3
    have D2 : CE h2 (rA R E a (b + 1 - a)).1 := D2
    have F2 : CF h2 R (rA R E a (b + 1 - a)).1 := F2
    have H2 : HF h1 h2 := H2
    subst e3
    refine AA.ok (Y := fun g => f_X11_restore g (nI a) (nI b)) (h' := h2) (v := nI (rA R E a (b + 1 - a)).2) ?_ rfl (cf1.tr H2.cf) (MK ?_)
    · unfold f_X10_restore
      rw [c_rW q ha, bnd_some, if_pos rfl, c_rW q hb, bnd_some, if_pos rfl, if_neg hlt, e1, bnd_some, e2, bnd_some]
    · have z := (w.zo (nI (rA R E a (b + 1 - a)).2)).z0
      unfold f_X11_restore
      rw [stp_eq]
      rw [show f_X11_noWord (up (up g 145 0 (nI (rA R E a (b + 1 - a)).2)) 125 0 0) (nI a) = _ from m_noWord z.Q.W z.Q.G ha, bnd_some, if_pos (show nI 0 = (0 : Int32) from rfl)]
      show Wp (bnd (f_X11_noWord (up (up g 145 0 (nI (rA R E a (b + 1 - a)).2)) 125 0 (nI 0)) (nI b)) _) _
      rw [m_noWord z.Q.W z.Q.G hb, bnd_some, if_pos (show nI 0 = (0 : Int32) from rfl), if_neg hlt]
      unfold J_X11_restore_32
      rw [show f_X11_throwsIf _ 0 2 = _ from m_throws0, bnd_some, if_pos (show nI 0 = (0 : Int32) from rfl)]
      refine wp_bnd_of (m_rec z.Q.W z.Q.E z.Q.G z.Q.M z.Hg z.Hw z.Hc.d12) (fun g3 k3 => ?_)
      obtain ⟨G3, M3, H3, P3⟩ := k3
      refine wp_bnd_of (m_restoresAll z.Q.W z.Q.E z.Q.X G3 M3 (a := a) (b := b) (by omega) hb) (fun u5 k5 => ?_)
      obtain ⟨e5, M5, w5⟩ := k5
      exact wp_some.mpr ⟨e5, P3.tr w5.kp, ED.mk2 w (H2.cr q.k C1) (H2.2.trans p1) D2 F2 (G3.fa w5) M5 hWW.1 hWW.2 (H2.hc f1) (w5.hg H3) (w.Hw.new w.Hc.d12 q.E q.X)⟩
end
