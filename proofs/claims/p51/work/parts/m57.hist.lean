/-! the history, on both sides -/
def HC (h : Hp) (d : Nat) (x : Nat) (hi : Nat → Nat → Nat → Nat) : Prop :=
  (h 13 1 = nI x) ∧
  (h 13 2 = nI d) ∧
  (x < 12) ∧
  (d ≤ 12) ∧
  (∀ i, i < d → CEat h (23 + 5 * ((x + 12 - d + i) % 12)) (hi i))
theorem HC.n {h : Hp} {d : Nat} {x : Nat} {hi : Nat → Nat → Nat → Nat} (q : HC h d x hi) : h 13 1 = nI x := q.1
theorem HC.d {h : Hp} {d : Nat} {x : Nat} {hi : Nat → Nat → Nat → Nat} (q : HC h d x hi) : h 13 2 = nI d := q.2.1
theorem HC.x12 {h : Hp} {d : Nat} {x : Nat} {hi : Nat → Nat → Nat → Nat} (q : HC h d x hi) : x < 12 := q.2.2.1
theorem HC.d12 {h : Hp} {d : Nat} {x : Nat} {hi : Nat → Nat → Nat → Nat} (q : HC h d x hi) : d ≤ 12 := q.2.2.2.1
theorem HC.e {h : Hp} {d : Nat} {x : Nat} {hi : Nat → Nat → Nat → Nat} (q : HC h d x hi) : ∀ i, i < d → CEat h (23 + 5 * ((x + 12 - d + i) % 12)) (hi i) := q.2.2.2.2
def HG (g : Hp) (d : Nat) (hi : Nat → Nat → Nat → Nat) : Prop :=
  (g 125 13 = nI d) ∧
  (∀ i, i < d → GEat g 135 (161 * i) (hi i))
theorem HG.d {g : Hp} {d : Nat} {hi : Nat → Nat → Nat → Nat} (q : HG g d hi) : g 125 13 = nI d := q.1
theorem HG.e {g : Hp} {d : Nat} {hi : Nat → Nat → Nat → Nat} (q : HG g d hi) : ∀ i, i < d → GEat g 135 (161 * i) (hi i) := q.2
def HW (R : Nat → Nat → Nat) (d : Nat) (hi : Nat → Nat → Nat → Nat) : Prop := ∀ i, i < d → WE R (hi i) ∧ WX R (hi i)
def hiN (E : Nat → Nat → Nat) (d : Nat) (hi : Nat → Nat → Nat → Nat) : Nat → Nat → Nat → Nat := fun i => if d < 12 then (if i = d then E else hi i) else (if i = 11 then E else hi (i + 1))
def dN (d : Nat) : Nat := if d < 12 then d + 1 else 12
theorem HW.new {R E : Nat → Nat → Nat} {d : Nat} {hi : Nat → Nat → Nat → Nat} (q : HW R d hi) (hd : d ≤ 12) (hE : WE R E) (hX : WX R E) : HW R (dN d) (hiN E d hi) := by
  intro i hi2
  unfold dN at hi2
  unfold hiN
  by_cases h1 : d < 12
  · rw [if_pos h1] at hi2 ⊢
    by_cases h2 : i = d
    · rw [if_pos h2]; exact ⟨hE, hX⟩
    · rw [if_neg h2]; exact q i (by omega)
  · rw [if_neg h1] at hi2 ⊢
    by_cases h2 : i = 11
    · rw [if_pos h2]; exact ⟨hE, hX⟩
    · rw [if_neg h2]; exact q (i + 1) (by omega)
theorem CEat.fr {h h' : Hp} {b : Nat} {E : Nat → Nat → Nat} (q : CEat h b E) (e : ∀ k, b ≤ k → k ≤ b + 4 → h' k = h k) : CEat h' b E := by
  unfold CEat
  rw [e b (by omega) (by omega), e (b + 1) (by omega) (by omega), e (b + 2) (by omega) (by omega), e (b + 3) (by omega) (by omega), e (b + 4) (by omega) (by omega)]
  exact q
section
variable {h g : Hp} {c : Nat} {R E : Nat → Nat → Nat} {d x : Nat} {hi : Nat → Nat → Nat → Nat}
theorem CE.at (q : CE h E) : CEat h 18 E := q
theorem CEat.ce (q : CEat h 18 E) : CE h E := q
theorem irem_n {a b : Nat} (ha : a < 2147483648) (h0 : 0 < b) (hb : b < 2147483648) : irem (nI a) (nI b) = nI (a % b) := pk_rem ha h0 hb
theorem c_copyFrom {p0 p1 : Nat} (hp : p1 + 4 < p0 ∨ p0 + 4 < p1) (hE1 : ∀ j, j < 40 → E 1 j ≤ 1) (q : CEat h p1 E) (hn : E 0 1 ≤ 40) : Wp (f_X0_copyFrom h p0 p1) (fun u => CEat u p0 E ∧ ∀ k, ¬ (p0 ≤ k ∧ k ≤ p0 + 4) → u k = h k) := by
  unfold f_X0_copyFrom
  simp (disch := omega) only [li, nI_add, pk_mul, ix_n, lt_n, le_n, eq_n, sub_n, dec_n, inb_t, neg_n, neg_n', ck_true, stp_eq, bnd_some, wp_some, wp_stp, Nat.add_zero, Nat.lt_irrefl, Nat.reduceEqDiff, Nat.reduceAdd, Nat.reduceSub, Nat.reduceMul, Nat.reduceLT, Nat.reduceLeDiff, up_o, up_ss, up_sn, zb_n1, true_and, and_true, ↓reduceIte, q.z]
  refine wp_for (i := 0) 40 (fun i s => ∃ h1, s = (nI i, h1) ∧ h1 p0 1 = nI (E 0 1) ∧ (∀ j, j < i → h1 (p0 + 1) j = h (p1 + 1) j ∧ h1 (p0 + 2) j = h (p1 + 2) j ∧ h1 (p0 + 3) j = h (p1 + 3) j ∧ h1 (p0 + 4) j = h (p1 + 4) j) ∧ (∀ k, ¬ (p0 ≤ k ∧ k ≤ p0 + 4) → h1 k = h k)) (by omega) (by omega) ⟨_, rfl, up_ss, fun j hj => absurd hj (Nat.not_lt_zero _), fun k hk => up_o (by omega)⟩ ?_
  rintro i s r hi ⟨h1, rfl, a1, a2, a3⟩ k
  have e1 := a3 (p1 + 1) (by omega)
  have e2 := a3 (p1 + 2) (by omega)
  have e3 := a3 (p1 + 3) (by omega)
  have e4 := a3 (p1 + 4) (by omega)
  unfold F_X0_copyFrom_10
  by_cases hl : i < 40
  · have hk1 := hE1 i hl
    have hz : zb (h (p1 + 1) i) = true := by rw [q.k i hl]; exact zb_n1 hk1
    simp (disch := omega) only [li, nI_add, pk_mul, ix_n, lt_n, le_n, eq_n, sub_n, dec_n, inb_t, neg_n, neg_n', ck_true, stp_eq, bnd_some, wp_some, wp_stp, Nat.add_zero, Nat.lt_irrefl, Nat.reduceEqDiff, Nat.reduceAdd, Nat.reduceSub, Nat.reduceMul, Nat.reduceLT, Nat.reduceLeDiff, up_o, up_ss, up_sn, zb_n1, true_and, and_true, ↓reduceIte, hl, e1, e2, e3, e4, hz]
    refine k _ hl ⟨_, rfl, ?_, fun j hj => ?_, fun w hw => ?_⟩
    · simp (disch := omega) only [up_o, up_ss, up_sn]
      exact a1
    · by_cases e : j = i
      · subst e
        simp (disch := omega) only [up_o, up_ss, up_sn]
        exact ⟨trivial, trivial, trivial, trivial⟩
      · have := a2 j (by omega)
        simp (disch := omega) only [up_o, up_ss, up_sn]
        exact this
    · rw [up_o (by omega), up_o (by omega), up_o (by omega), up_o (by omega)]
      exact a3 w hw
  · have e : i = 40 := by omega
    subst e
    simp (disch := omega) only [li, nI_add, pk_mul, ix_n, lt_n, le_n, eq_n, sub_n, dec_n, inb_t, neg_n, neg_n', ck_true, stp_eq, bnd_some, wp_some, wp_stp, Nat.add_zero, Nat.lt_irrefl, Nat.reduceEqDiff, Nat.reduceAdd, Nat.reduceSub, Nat.reduceMul, Nat.reduceLT, Nat.reduceLeDiff, up_o, up_ss, up_sn, zb_n1, true_and, and_true, ↓reduceIte]
    refine ⟨⟨a1, fun j hj => ?_, fun j hj => ?_, fun j hj => ?_, fun j hj => ?_⟩, a3⟩
    · rw [(a2 j hj).1]; exact q.k j hj
    · rw [(a2 j (by omega)).2.1]; exact q.o j hj
    · rw [(a2 j hj).2.2.1]; exact q.hd j hj
    · rw [(a2 j hj).2.2.2]; exact q.tl j hj
theorem c_record (hW : WR R) (hE : WE R E) (hD : CE h E) (hH : HC h d x hi) : Wp (f_X3_record h 18) (fun u => HC u (dN d) ((x + 1) % 12) (hiN E d hi) ∧ ∀ k, ¬ k = 13 → ¬ (23 ≤ k ∧ k ≤ 82) → u k = h k) := by
  have hx := hH.x12
  have hd := hH.d12
  have hn := hE.n
  have hbw := hW.bw
  have h40 := hW.w40
  unfold f_X3_record
  simp (disch := omega) only [li, nI_add, pk_mul, ix_n, lt_n, le_n, eq_n, sub_n, dec_n, inb_t, neg_n, neg_n', ck_true, stp_eq, bnd_some, wp_some, wp_stp, Nat.add_zero, Nat.lt_irrefl, Nat.reduceEqDiff, Nat.reduceAdd, Nat.reduceSub, Nat.reduceMul, Nat.reduceLT, Nat.reduceLeDiff, up_o, up_ss, up_sn, zb_n1, true_and, and_true, ↓reduceIte, hH.n]
  refine wp_bnd_of (c_copyFrom (p0 := 23 + 5 * x) (p1 := 18) (by omega) hE.k1 hD.at (by omega)) (fun u ku => ?_)
  obtain ⟨k1, k2⟩ := ku
  have e1 : u 13 1 = nI x := by rw [k2 13 (by omega)]; exact hH.n
  have e2 : u 13 2 = nI d := by rw [k2 13 (by omega)]; exact hH.d
  simp (disch := omega) only [li, nI_add, pk_mul, ix_n, lt_n, le_n, eq_n, sub_n, dec_n, inb_t, neg_n, neg_n', ck_true, stp_eq, bnd_some, wp_some, wp_stp, Nat.add_zero, Nat.lt_irrefl, Nat.reduceEqDiff, Nat.reduceAdd, Nat.reduceSub, Nat.reduceMul, Nat.reduceLT, Nat.reduceLeDiff, up_o, up_ss, up_sn, zb_n1, true_and, and_true, ↓reduceIte, e1, e2, irem_n, imin_n]
  refine ⟨⟨?_, ?_, Nat.mod_lt _ (by omega), by unfold dN; split <;> omega, fun i hi2 => ?_⟩, fun k a b => ?_⟩
  · simp (disch := omega) only [up_o, up_ss, up_sn]
  · simp (disch := omega) only [up_o, up_ss, up_sn]
    unfold dN
    split
    · exact congrArg nI (by omega)
    · exact congrArg nI (by omega)
  · refine CEat.fr (h := u) ?_ (fun k a b => by rw [up_o (by omega), up_o (by omega)])
    unfold dN at hi2 ⊢
    unfold hiN
    by_cases h1 : d < 12
    · rw [if_pos h1] at hi2 ⊢
      rw [if_pos h1]
      by_cases h2 : i = d
      · rw [if_pos h2]
        have : 23 + 5 * (((x + 1) % 12 + 12 - (d + 1) + i) % 12) = 23 + 5 * x := by omega
        rw [this]
        exact k1
      · rw [if_neg h2]
        have : ((x + 1) % 12 + 12 - (d + 1) + i) % 12 = (x + 12 - d + i) % 12 := by omega
        rw [this]
        refine (hH.e i (by omega)).fr (fun k a b => k2 k (by omega))
    · rw [if_neg h1] at hi2 ⊢
      rw [if_neg h1]
      have hd2 : d = 12 := by omega
      subst hd2
      by_cases h2 : i = 11
      · rw [if_pos h2]
        have : 23 + 5 * (((x + 1) % 12 + 12 - 12 + i) % 12) = 23 + 5 * x := by omega
        rw [this]
        exact k1
      · rw [if_neg h2]
        have : ((x + 1) % 12 + 12 - 12 + i) % 12 = (x + 12 - 12 + (i + 1)) % 12 := by omega
        rw [this]
        refine (hH.e (i + 1) (by omega)).fr (fun k a b => k2 k (by omega))
  · rw [up_o a, up_o a]
    exact k2 k (by omega)
theorem c_giveBack (hW : WR R) (hH : HC h d x hi) (hh : HW R d hi) (hd0 : 0 < d) : Wp (f_X3_giveBack h 18) (fun u => CE u (hi (d - 1)) ∧ HC u (d - 1) ((x + 11) % 12) hi ∧ ∀ k, ¬ k = 13 → ¬ (18 ≤ k ∧ k ≤ 22) → u k = h k) := by
  have hx := hH.x12
  have hd := hH.d12
  have hbw := hW.bw
  have h40 := hW.w40
  have hE := (hh (d - 1) (by omega)).1
  have hn := hE.n
  have hd1 : ¬ d ≤ 0 := by omega
  have hat := hH.e (d - 1) (by omega)
  have ei : (x + 12 - d + (d - 1)) % 12 = (x + 11) % 12 := by omega
  rw [ei] at hat
  unfold f_X3_giveBack
  have e11 : (x + 12 - 1) % 12 = (x + 11) % 12 := by omega
  simp (disch := omega) only [li, nI_add, pk_mul, ix_n, lt_n, le_n, eq_n, sub_n, dec_n, inb_t, neg_n, neg_n', ck_true, stp_eq, bnd_some, wp_some, wp_stp, Nat.add_zero, Nat.lt_irrefl, Nat.reduceEqDiff, Nat.reduceAdd, Nat.reduceSub, Nat.reduceMul, Nat.reduceLT, Nat.reduceLeDiff, up_o, up_ss, up_sn, zb_n1, true_and, and_true, ↓reduceIte, hH.n, hH.d, hd1, irem_n, e11]
  refine wp_bnd_of (c_copyFrom (h := up h 13 1 (nI ((x + 11) % 12))) (p0 := 18) (p1 := 23 + 5 * ((x + 11) % 12)) (by omega) hE.k1 (hat.fr (fun k a b => up_o (by omega))) (by omega)) (fun u ku => ?_)
  obtain ⟨k1, k2⟩ := ku
  have e1 : u 13 1 = nI ((x + 11) % 12) := by rw [k2 13 (by omega)]; exact up_ss
  have e2 : u 13 2 = nI d := by rw [k2 13 (by omega), up_sn (by decide)]; exact hH.d
  simp (disch := omega) only [li, nI_add, pk_mul, ix_n, lt_n, le_n, eq_n, sub_n, dec_n, inb_t, neg_n, neg_n', ck_true, stp_eq, bnd_some, wp_some, wp_stp, Nat.add_zero, Nat.lt_irrefl, Nat.reduceEqDiff, Nat.reduceAdd, Nat.reduceSub, Nat.reduceMul, Nat.reduceLT, Nat.reduceLeDiff, up_o, up_ss, up_sn, zb_n1, true_and, and_true, ↓reduceIte, e2]
  refine ⟨k1.ce.fr (fun k a b => up_o (by omega)), ⟨?_, up_ss, Nat.mod_lt _ (by omega), by omega, fun i hi2 => ?_⟩, fun k a b => ?_⟩
  · rw [up_sn (by decide)]; exact e1
  · have e3 : ((x + 11) % 12 + 12 - (d - 1) + i) % 12 = (x + 12 - d + i) % 12 := by omega
    rw [e3]
    refine (hH.e i (by omega)).fr (fun k a b => ?_)
    rw [up_o (by omega), k2 k (by omega), up_o (by omega)]
  · rw [up_o a, k2 k (by omega), up_o a]
/-! the model -/
theorem GEat.of {g g' : Hp} {f : Nat} {E : Nat → Nat → Nat} (hM : GE g E) (hn : E 0 1 ≤ 40) (e : ∀ q, q < 161 → g' 135 (f + q) = g 134 q) : GEat g' 135 f E := by
  refine ⟨fun w hw hz => ?_, ?_, fun s hs => ?_, fun b hb => ?_, fun b hb => ?_⟩
  · rw [e w (by omega)]; exact hM.k w hw hz
  · rw [e 40 (by omega)]; exact hM.n
  · rw [e (41 + s) (by omega)]; exact hM.o s hs
  · rw [e (81 + b) (by omega)]; exact hM.hd b hb
  · rw [e (121 + b) (by omega)]; exact hM.tl b hb
theorem GEat.to {g g' : Hp} {f : Nat} {E : Nat → Nat → Nat} (hM : GEat g 135 f E) (hn : E 0 1 ≤ 40) (e : ∀ q, q < 161 → g' 134 q = g 135 (f + q)) : GE g' E := by
  refine ⟨fun w hw hz => ?_, ?_, fun s hs => ?_, fun b hb => ?_, fun b hb => ?_⟩
  · rw [e w (by omega)]; exact hM.k w hw hz
  · rw [e 40 (by omega)]; exact hM.n
  · rw [e (41 + s) (by omega)]; exact hM.o s hs
  · rw [e (81 + b) (by omega)]; exact hM.hd b hb
  · rw [e (121 + b) (by omega)]; exact hM.tl b hb
theorem GEat.mv {g g' : Hp} {f f' : Nat} {E : Nat → Nat → Nat} (hM : GEat g 135 f E) (hn : E 0 1 ≤ 40) (e : ∀ q, q < 161 → g' 135 (f' + q) = g 135 (f + q)) : GEat g' 135 f' E := by
  refine ⟨fun w hw hz => ?_, ?_, fun s hs => ?_, fun b hb => ?_, fun b hb => ?_⟩
  · rw [e w (by omega)]; exact hM.k w hw hz
  · rw [e 40 (by omega)]; exact hM.n
  · rw [e (41 + s) (by omega)]; exact hM.o s hs
  · rw [e (81 + b) (by omega)]; exact hM.hd b hb
  · rw [e (121 + b) (by omega)]; exact hM.tl b hb
theorem m_keeps (hW : WR R) (hE : WE R E) (hM : GE g E) (hH : HG g d hi) (hh : HW R d hi) (hd : d ≤ 12) : Wp (f_X11_keeps g) (fun u => HG u (dN d) (hiN E d hi) ∧ (∀ k, ¬ k = 125 → ¬ k = 135 → u k = g k) ∧ ∀ j, ¬ j = 13 → u 125 j = g 125 j) := by
  have hn := hE.n
  have hbw := hW.bw
  have h40 := hW.w40
  -- the copying of now into place d1 < 12
  have fin : ∀ (g1 : Hp) (d1 : Nat), d1 < 12 → g1 125 13 = nI d1 → g1 134 = g 134 → Wp (J_X11_keeps_52 g1) (fun u => u 125 13 = nI (d1 + 1) ∧ (∀ q, q < 161 → u 135 (161 * d1 + q) = g 134 q) ∧ (∀ q, ¬ (161 * d1 ≤ q ∧ q < 161 * d1 + 161) → u 135 q = g1 135 q) ∧ (∀ k, ¬ k = 125 → ¬ k = 135 → u k = g1 k) ∧ ∀ j, ¬ j = 13 → u 125 j = g1 125 j) := by
    intro g1 d1 hd1 e13 e134
    unfold J_X11_keeps_52
    refine wp_for (i := 0) 161 (fun i s => ∃ g2, s = (nI i, g2) ∧ (∀ q, q < i → g2 135 (161 * d1 + q) = g 134 q) ∧ (∀ q, ¬ (161 * d1 ≤ q ∧ q < 161 * d1 + 161) → g2 135 q = g1 135 q) ∧ (∀ k, ¬ k = 135 → g2 k = g1 k)) (by omega) (by omega) ⟨g1, rfl, fun q hq => absurd hq (Nat.not_lt_zero _), fun _ _ => rfl, fun _ _ => rfl⟩ ?_
    rintro i s r hi2 ⟨g2, rfl, a1, a2, a3⟩ k
    have f13 : g2 125 13 = nI d1 := by rw [a3 125 (by decide)]; exact e13
    unfold F_X11_keeps_54 J_X11_keeps_88
    by_cases hl : i < 161
    · simp (disch := omega) only [li, nI_add, pk_mul, ix_n, lt_n, le_n, eq_n, sub_n, dec_n, inb_t, neg_n, neg_n', ck_true, stp_eq, bnd_some, wp_some, wp_stp, Nat.add_zero, Nat.lt_irrefl, Nat.reduceEqDiff, Nat.reduceAdd, Nat.reduceSub, Nat.reduceMul, Nat.reduceLT, Nat.reduceLeDiff, up_o, up_ss, up_sn, zb_n1, true_and, and_true, ↓reduceIte, hl, f13]
      refine k _ hl ⟨_, rfl, fun q hq => ?_, fun q hq => ?_, fun q hq => by rw [up_o hq]; exact a3 q hq⟩
      · by_cases e : q = i
        · rw [e, up_ss, a3 134 (by decide), e134]
        · rw [up_sn (by omega)]; exact a1 q (by omega)
      · rw [up_sn (by omega)]; exact a2 q hq
    · have e : i = 161 := by omega
      subst e
      simp (disch := omega) only [li, nI_add, pk_mul, ix_n, lt_n, le_n, eq_n, sub_n, dec_n, inb_t, neg_n, neg_n', ck_true, stp_eq, bnd_some, wp_some, wp_stp, Nat.add_zero, Nat.lt_irrefl, Nat.reduceEqDiff, Nat.reduceAdd, Nat.reduceSub, Nat.reduceMul, Nat.reduceLT, Nat.reduceLeDiff, up_o, up_ss, up_sn, zb_n1, true_and, and_true, ↓reduceIte, f13]
      refine ⟨fun q hq => ?_, fun q hq => ?_, fun q b1 b2 => ?_, fun j hj => ?_⟩
      · exact a1 q hq
      · exact a2 q hq
      · rw [up_o b1]; exact a3 q b2
      · rw [up_sn hj, a3 125 (by decide)]
  unfold f_X11_keeps
  by_cases h1 : d < 12
  · have hne : ¬ d = 12 := by omega
    simp (disch := omega) only [li, nI_add, pk_mul, ix_n, lt_n, le_n, eq_n, sub_n, dec_n, inb_t, neg_n, neg_n', ck_true, stp_eq, bnd_some, wp_some, wp_stp, Nat.add_zero, Nat.lt_irrefl, Nat.reduceEqDiff, Nat.reduceAdd, Nat.reduceSub, Nat.reduceMul, Nat.reduceLT, Nat.reduceLeDiff, up_o, up_ss, up_sn, zb_n1, true_and, and_true, ↓reduceIte, hH.d, hne]
    refine (fin g d h1 hH.d rfl).mono (fun u ku => ?_)
    obtain ⟨k1, k2, k3, k4, k5⟩ := ku
    refine ⟨⟨by unfold dN; rw [if_pos h1]; exact k1, fun i hi2 => ?_⟩, k4, k5⟩
    unfold dN at hi2
    unfold hiN
    rw [if_pos h1] at hi2
    rw [if_pos h1]
    by_cases h2 : i = d
    · rw [if_pos h2, h2]
      exact GEat.of hM (by omega) k2
    · rw [if_neg h2]
      have hni := (hh i (by omega)).1.n
      exact (hH.e i (by omega)).mv (by omega) (fun q hq => k3 _ (by omega))
  · have hd2 : d = 12 := by omega
    subst hd2
    simp (disch := omega) only [li, nI_add, pk_mul, ix_n, lt_n, le_n, eq_n, sub_n, dec_n, inb_t, neg_n, neg_n', ck_true, stp_eq, bnd_some, wp_some, wp_stp, Nat.add_zero, Nat.lt_irrefl, Nat.reduceEqDiff, Nat.reduceAdd, Nat.reduceSub, Nat.reduceMul, Nat.reduceLT, Nat.reduceLeDiff, up_o, up_ss, up_sn, zb_n1, true_and, and_true, ↓reduceIte, hH.d]
    refine wp_for (i := 161) 1932 (fun i s => ∃ g2, s = (nI i, g2) ∧ 161 ≤ i ∧ (∀ q, 161 ≤ q → q < i → g2 135 (q - 161) = g 135 q) ∧ (∀ q, i ≤ q + 161 → g2 135 q = g 135 q) ∧ (∀ k, ¬ k = 135 → g2 k = g k)) (by omega) (by omega) ⟨g, rfl, Nat.le_refl _, fun q a b => by omega, fun _ _ => rfl, fun _ _ => rfl⟩ ?_
    rintro i s r hi2 ⟨g2, rfl, hge, a1, a2, a3⟩ k
    unfold F_X11_keeps_13
    by_cases hl : i < 1932
    · have e2 := a2 i (by omega)
      simp (disch := omega) only [li, nI_add, pk_mul, ix_n, lt_n, le_n, eq_n, sub_n, dec_n, inb_t, neg_n, neg_n', ck_true, stp_eq, bnd_some, wp_some, wp_stp, Nat.add_zero, Nat.lt_irrefl, Nat.reduceEqDiff, Nat.reduceAdd, Nat.reduceSub, Nat.reduceMul, Nat.reduceLT, Nat.reduceLeDiff, up_o, up_ss, up_sn, zb_n1, true_and, and_true, ↓reduceIte, hl, e2]
      refine k _ hl ⟨_, rfl, by omega, fun q b1 b2 => ?_, fun q b1 => ?_, fun q hq => by rw [up_o hq]; exact a3 q hq⟩
      · by_cases e : q = i
        · rw [e, up_ss]
        · rw [up_sn (by omega)]; exact a1 q b1 (by omega)
      · rw [up_sn (by omega)]; exact a2 q (by omega)
    · have e : i = 1932 := by omega
      subst e
      have f13 : g2 125 13 = nI 12 := by rw [a3 125 (by decide)]; exact hH.d
      unfold J_X11_keeps_42
      simp (disch := omega) only [li, nI_add, pk_mul, ix_n, lt_n, le_n, eq_n, sub_n, dec_n, inb_t, neg_n, neg_n', ck_true, stp_eq, bnd_some, wp_some, wp_stp, Nat.add_zero, Nat.lt_irrefl, Nat.reduceEqDiff, Nat.reduceAdd, Nat.reduceSub, Nat.reduceMul, Nat.reduceLT, Nat.reduceLeDiff, up_o, up_ss, up_sn, zb_n1, true_and, and_true, ↓reduceIte, f13]
      refine (fin (up g2 125 13 (nI 11)) 11 (by omega) up_ss (by rw [up_o (by decide), a3 134 (by decide)])).mono (fun u ku => ?_)
      obtain ⟨k1, k2, k3, k4, k5⟩ := ku
      refine ⟨⟨k1, fun i hi2 => ?_⟩, fun q b1 b2 => by rw [k4 q b1 b2, up_o b1, a3 q b2], fun j hj => by rw [k5 j hj, up_sn hj, a3 125 (by decide)]⟩
      have hi2 : i < 12 := hi2
      unfold hiN
      rw [if_neg (by omega)]
      by_cases h2 : i = 11
      · rw [if_pos h2, h2]
        exact GEat.of hM (by omega) k2
      · rw [if_neg h2]
        have hni := (hh (i + 1) (by omega)).1.n
        refine (hH.e (i + 1) (by omega)).mv (by omega) (fun q hq => ?_)
        rw [k3 _ (by omega), up_o (by decide)]
        have := a1 (161 * (i + 1) + q) (by omega) (by omega)
        rw [show 161 * (i + 1) + q - 161 = 161 * i + q by omega] at this
        exact this
theorem m_undo (hW : WR R) (hH : HG g d hi) (hh : HW R d hi) (hd : d ≤ 12) (hd0 : 0 < d) : Wp (f_X11_undo g) (fun u => u.1 = nI (d - 1) ∧ GE u.2 (hi (d - 1)) ∧ HG u.2 (d - 1) hi ∧ (∀ k, ¬ k = 125 → ¬ k = 134 → u.2 k = g k) ∧ ∀ j, ¬ j = 13 → ¬ j = 0 → u.2 125 j = g 125 j) := by
  have hbw := hW.bw
  have h40 := hW.w40
  have hE := (hh (d - 1) (by omega)).1
  have hn := hE.n
  have hne : ¬ d = 0 := by omega
  unfold f_X11_undo
  simp (disch := omega) only [li, nI_add, pk_mul, ix_n, lt_n, le_n, eq_n, sub_n, dec_n, inb_t, neg_n, neg_n', ck_true, stp_eq, bnd_some, wp_some, wp_stp, Nat.add_zero, Nat.lt_irrefl, Nat.reduceEqDiff, Nat.reduceAdd, Nat.reduceSub, Nat.reduceMul, Nat.reduceLT, Nat.reduceLeDiff, up_o, up_ss, up_sn, zb_n1, true_and, and_true, ↓reduceIte, hH.d, hne]
  refine wp_for (i := 0) 161 (fun i s => ∃ g2, s = (nI i, g2) ∧ (∀ q, q < i → g2 134 q = g 135 (161 * (d - 1) + q)) ∧ g2 125 13 = nI (d - 1) ∧ (∀ k, ¬ k = 125 → ¬ k = 134 → g2 k = g k) ∧ (∀ j, ¬ j = 13 → ¬ j = 0 → g2 125 j = g 125 j)) (by omega) (by omega) ⟨_, rfl, fun q hq => absurd hq (Nat.not_lt_zero _), up_ss, fun k a b => by rw [up_o a, up_o a], fun j a b => by rw [up_sn a, up_sn b]⟩ ?_
  rintro i s r hi2 ⟨g2, rfl, a1, a2, a3, a4⟩ k
  unfold F_X11_undo_26
  by_cases hl : i < 161
  · simp (disch := omega) only [li, nI_add, pk_mul, ix_n, lt_n, le_n, eq_n, sub_n, dec_n, inb_t, neg_n, neg_n', ck_true, stp_eq, bnd_some, wp_some, wp_stp, Nat.add_zero, Nat.lt_irrefl, Nat.reduceEqDiff, Nat.reduceAdd, Nat.reduceSub, Nat.reduceMul, Nat.reduceLT, Nat.reduceLeDiff, up_o, up_ss, up_sn, zb_n1, true_and, and_true, ↓reduceIte, hl, a2]
    refine k _ hl ⟨_, rfl, fun q hq => ?_, ?_, fun q b1 b2 => by rw [up_o b2]; exact a3 q b1 b2, fun j b1 b2 => by rw [up_o (by decide)]; exact a4 j b1 b2⟩
    · by_cases e : q = i
      · rw [e, up_ss, a3 135 (by decide) (by decide)]
      · rw [up_sn e]; exact a1 q (by omega)
    · rw [up_o (by decide)]; exact a2
  · have e : i = 161 := by omega
    subst e
    simp (disch := omega) only [li, nI_add, pk_mul, ix_n, lt_n, le_n, eq_n, sub_n, dec_n, inb_t, neg_n, neg_n', ck_true, stp_eq, bnd_some, wp_some, wp_stp, Nat.add_zero, Nat.lt_irrefl, Nat.reduceEqDiff, Nat.reduceAdd, Nat.reduceSub, Nat.reduceMul, Nat.reduceLT, Nat.reduceLeDiff, up_o, up_ss, up_sn, zb_n1, true_and, and_true, ↓reduceIte, a2]
    refine ⟨(hH.e (d - 1) (by omega)).to (by omega) a1, ⟨a2, fun j hj => ?_⟩, a3, a4⟩
    have hni := (hh j (by omega)).1.n
    exact (hH.e j (by omega)).mv (by omega) (fun q hq => by rw [a3 135 (by decide) (by decide)])
theorem m_putsAside : Wp (f_X11_putsAside g) (fun u => (∀ q, q < 161 → u 136 q = g 134 q) ∧ ∀ k, ¬ k = 136 → u k = g k) := by
  unfold f_X11_putsAside
  refine wp_for (i := 0) 161 (fun i s => ∃ g2, s = (nI i, g2) ∧ (∀ q, q < i → g2 136 q = g 134 q) ∧ (∀ k, ¬ k = 136 → g2 k = g k)) (by omega) (by omega) ⟨g, rfl, fun q hq => absurd hq (Nat.not_lt_zero _), fun _ _ => rfl⟩ ?_
  rintro i s r hi2 ⟨g2, rfl, a1, a2⟩ k
  unfold F_X11_putsAside_2
  by_cases hl : i < 161
  · simp (disch := omega) only [li, nI_add, pk_mul, ix_n, lt_n, le_n, eq_n, sub_n, dec_n, inb_t, neg_n, neg_n', ck_true, stp_eq, bnd_some, wp_some, wp_stp, Nat.add_zero, Nat.lt_irrefl, Nat.reduceEqDiff, Nat.reduceAdd, Nat.reduceSub, Nat.reduceMul, Nat.reduceLT, Nat.reduceLeDiff, up_o, up_ss, up_sn, zb_n1, true_and, and_true, ↓reduceIte, hl]
    refine k _ hl ⟨_, rfl, fun q hq => ?_, fun q hq => by rw [up_o hq]; exact a2 q hq⟩
    by_cases e : q = i
    · rw [e, up_ss, a2 134 (by decide)]
    · rw [up_sn e]; exact a1 q (by omega)
  · have e : i = 161 := by omega
    subst e
    simp (disch := omega) only [li, nI_add, pk_mul, ix_n, lt_n, le_n, eq_n, sub_n, dec_n, inb_t, neg_n, neg_n', ck_true, stp_eq, bnd_some, wp_some, wp_stp, Nat.add_zero, Nat.lt_irrefl, Nat.reduceEqDiff, Nat.reduceAdd, Nat.reduceSub, Nat.reduceMul, Nat.reduceLT, Nat.reduceLeDiff, up_o, up_ss, up_sn, zb_n1, true_and, and_true, ↓reduceIte]
    exact ⟨a1, a2⟩
theorem m_takesBack : Wp (f_X11_takesBack g) (fun u => (∀ q, q < 161 → u 134 q = g 136 q) ∧ ∀ k, ¬ k = 134 → u k = g k) := by
  unfold f_X11_takesBack
  refine wp_for (i := 0) 161 (fun i s => ∃ g2, s = (nI i, g2) ∧ (∀ q, q < i → g2 134 q = g 136 q) ∧ (∀ k, ¬ k = 134 → g2 k = g k)) (by omega) (by omega) ⟨g, rfl, fun q hq => absurd hq (Nat.not_lt_zero _), fun _ _ => rfl⟩ ?_
  rintro i s r hi2 ⟨g2, rfl, a1, a2⟩ k
  unfold F_X11_takesBack_2
  by_cases hl : i < 161
  · simp (disch := omega) only [li, nI_add, pk_mul, ix_n, lt_n, le_n, eq_n, sub_n, dec_n, inb_t, neg_n, neg_n', ck_true, stp_eq, bnd_some, wp_some, wp_stp, Nat.add_zero, Nat.lt_irrefl, Nat.reduceEqDiff, Nat.reduceAdd, Nat.reduceSub, Nat.reduceMul, Nat.reduceLT, Nat.reduceLeDiff, up_o, up_ss, up_sn, zb_n1, true_and, and_true, ↓reduceIte, hl]
    refine k _ hl ⟨_, rfl, fun q hq => ?_, fun q hq => by rw [up_o hq]; exact a2 q hq⟩
    by_cases e : q = i
    · rw [e, up_ss, a2 136 (by decide)]
    · rw [up_sn e]; exact a1 q (by omega)
  · have e : i = 161 := by omega
    subst e
    simp (disch := omega) only [li, nI_add, pk_mul, ix_n, lt_n, le_n, eq_n, sub_n, dec_n, inb_t, neg_n, neg_n', ck_true, stp_eq, bnd_some, wp_some, wp_stp, Nat.add_zero, Nat.lt_irrefl, Nat.reduceEqDiff, Nat.reduceAdd, Nat.reduceSub, Nat.reduceMul, Nat.reduceLT, Nat.reduceLeDiff, up_o, up_ss, up_sn, zb_n1, true_and, and_true, ↓reduceIte]
    exact ⟨a1, a2⟩
end
