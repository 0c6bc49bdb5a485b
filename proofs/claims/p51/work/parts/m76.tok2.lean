/-! signs, keywords, names and numbers, class side -/
def bn (B : Nat → Int32) (j : Nat) : Nat := (B j).toInt.toNat
theorem bn_lt {B : Nat → Int32} {j : Nat} (h : ltB (B j)) : B j = nI (bn B j) ∧ 97 ≤ bn B j ∧ bn B j ≤ 122 := by
  have a1 : ¬ (B j).toInt < (nI 97).toInt := fun z => h.1 (Int32.lt_iff_toInt_lt.mpr z)
  have a2 : ¬ (nI 122).toInt < (B j).toInt := fun z => h.2 (Int32.lt_iff_toInt_lt.mpr z)
  rw [nI_toInt (by omega)] at a1 a2
  have e : bn B j = (B j).toInt.toNat := rfl
  refine ⟨?_, by omega, by omega⟩
  apply Int32.toInt_inj.mp
  rw [nI_toInt (by omega)]
  omega
theorem bn_dg {B : Nat → Int32} {j : Nat} (h : dgB (B j)) : B j = nI (bn B j) ∧ 48 ≤ bn B j ∧ bn B j ≤ 57 := by
  have a1 : ¬ (B j).toInt < (nI 48).toInt := fun z => h.1 (Int32.lt_iff_toInt_lt.mpr z)
  have a2 : ¬ (nI 57).toInt < (B j).toInt := fun z => h.2 (Int32.lt_iff_toInt_lt.mpr z)
  rw [nI_toInt (by omega)] at a1 a2
  have e : bn B j = (B j).toInt.toNat := rfl
  refine ⟨?_, by omega, by omega⟩
  apply Int32.toInt_inj.mp
  rw [nI_toInt (by omega)]
  omega
noncomputable def lz (B : Nat → Int32) (L q : Nat) : Nat := rn ltB B L q - q
noncomputable def dz (B : Nat → Int32) (L q : Nat) : Nat := rn dgB B L q - q
def nmV (B : Nat → Int32) (q z : Nat) : Nat := Nat.rec (motive := fun _ => Nat) 0 (fun i r => r * 32 + (bn B (q + i) - 96)) z
theorem nmV_s (B : Nat → Int32) (q z : Nat) : nmV B q (z + 1) = nmV B q z * 32 + (bn B (q + z) - 96) := rfl
def nuV (B : Nat → Int32) (q z : Nat) : Nat := Nat.rec (motive := fun _ => Nat) 0 (fun i r => r * 10 + (bn B (q + i) - 48)) z
theorem nuV_s (B : Nat → Int32) (q z : Nat) : nuV B q (z + 1) = nuV B q z * 10 + (bn B (q + z) - 48) := rfl
noncomputable def naE (B : Nat → Int32) (L q : Nat) : Nat := if 1 ≤ lz B L q ∧ lz B L q ≤ 6 then 0 else 1
noncomputable def nuE (B : Nat → Int32) (L q lo hi : Nat) : Nat := if dz B L q = 0 then 1 else if 5 < dz B L q then 2 else if nuV B q (dz B L q) < lo ∨ hi < nuV B q (dz B L q) then 2 else 0
def isS (B : Nat → Int32) (L q : Nat) (c : Int32) : Prop := q < L ∧ B q = c
def isK (B : Nat → Int32) (L q t : Nat) : Prop := lz B L q = tl t ∧ ∀ j, j < tl t → B (q + j) = tb t j
noncomputable def bo (p : Prop) : Nat := @ite _ p (Classical.propDecidable _) 1 0
theorem bo_y {p : Prop} (h : p) : bo p = 1 := if_pos h
theorem bo_n {p : Prop} (h : ¬ p) : bo p = 0 := if_neg h
theorem bo_1 (p : Prop) : bo p ≤ 1 := by unfold bo; split <;> omega
def ce (h : Hp) (q k : Nat) : Hp := up (up h 1 3 (nI k)) 1 2 (nI q)
section
variable {h g : Hp} {B : Nat → Int32} {L q p : Nat}
theorem lz_f (hq : q ≤ L) : q + lz B L q ≤ L ∧ (∀ j, j < lz B L q → ltB (B (q + j))) := by
  obtain ⟨a, b, c, d⟩ := rn_s ltB B hq
  unfold lz
  exact ⟨by omega, fun j hj => c _ (by omega) (by omega)⟩
theorem dz_f (hq : q ≤ L) : q + dz B L q ≤ L ∧ (∀ j, j < dz B L q → dgB (B (q + j))) := by
  obtain ⟨a, b, c, d⟩ := rn_s dgB B hq
  unfold dz
  exact ⟨by omega, fun j hj => c _ (by omega) (by omega)⟩
theorem tk_lt (hq : q ≤ L) : (tK B L q = 1 ∧ 1 ≤ lz B L q ∧ tZ B L q = lz B L q) ∨ (¬ tK B L q = 1 ∧ lz B L q = 0) := by
  unfold tK tZ lz
  by_cases x : q < L
  · rw [if_pos x, if_pos x]
    by_cases y : ltB (B q)
    · rw [if_pos y, if_pos y]
      have := rn_pos x y
      exact Or.inl ⟨rfl, by omega, rfl⟩
    · rw [if_neg y]
      refine Or.inr ⟨by split <;> omega, ?_⟩
      rw [rn_0 hq (fun _ => y)]
      omega
  · rw [if_neg x]
    refine Or.inr ⟨by omega, ?_⟩
    rw [rn_0 hq (fun y => absurd y x)]
    omega
theorem tk_dg (hq : q ≤ L) : (tK B L q = 2 ∧ 1 ≤ dz B L q ∧ tZ B L q = dz B L q) ∨ (¬ tK B L q = 2 ∧ dz B L q = 0) := by
  unfold tK tZ dz
  by_cases x : q < L
  · rw [if_pos x, if_pos x]
    by_cases y : dgB (B q)
    · have y2 := lt_dg y
      rw [if_neg y2, if_neg y2, if_pos y, if_pos y]
      have := rn_pos x y
      exact Or.inl ⟨rfl, by omega, rfl⟩
    · refine Or.inr ⟨?_, ?_⟩
      · rw [if_neg y]
        split <;> omega
      · rw [rn_0 hq (fun _ => y)]
        omega
  · rw [if_neg x]
    refine Or.inr ⟨by omega, ?_⟩
    rw [rn_0 hq (fun y => absurd y x)]
    omega
theorem tK_le : tK B L q ≤ 3 := by
  unfold tK
  split
  · split
    · omega
    · split <;> omega
  · omega
theorem c_fail (w : TS h B L q) (k : Nat) : f_X9_fail h (nI k) = some (nI 0, ce h q k) := by
  unfold f_X9_fail
  rw [stp_eq, stp_eq, up_sn (by decide), w.s]
  rfl
theorem c_isEnd (w : TS h B L q) : f_X9_isEnd h = some (nI (bo (q = L))) := by
  have hi := w.i
  unfold f_X9_isEnd
  rw [w.k]
  by_cases z : q = L
  · have e : tK B L q = 0 := by unfold tK; rw [if_neg (by omega)]
    rw [e, if_pos (show (nI 0 : Int32) = 0 from rfl), bo_y z]
    rfl
  · have e : ¬ tK B L q = 0 := by
      unfold tK
      rw [if_pos (by omega)]
      split
      · omega
      · split <;> omega
    have := tK_le (B := B) (L := L) (q := q)
    rw [if_neg (show ¬ nI (tK B L q) = 0 from fun y => e ((nI_eq (b := 0) (by omega) (by omega)).mp y)), bo_n z]
    rfl
theorem c_isSign (w : TS h B L q) {c : Int32} (h1 : ¬ ltB c) (h2 : ¬ dgB c) : f_X9_isSign h c = some (nI (bo (isS B L q c))) := by
  have hi := w.i
  have hl := w.l
  have hk := tK_le (B := B) (L := L) (q := q)
  unfold f_X9_isSign
  rw [w.k, w.s, w.n]
  by_cases x : q < L
  · by_cases y : B q = c
    · have e : tK B L q = 3 := by
        unfold tK
        rw [if_pos x, if_neg (by rw [y]; exact h1), if_neg (by rw [y]; exact h2)]
      rw [e, if_pos (show (nI 3 : Int32) = 3 from rfl), if_pos ((nI_ltI (by omega) (by omega)).mpr x), inb_t (by omega) (by omega), ck_true, ix_n (by omega), w.b q x, if_pos y, bo_y ⟨x, y⟩]
      rfl
    · rw [bo_n (fun z => y z.2)]
      by_cases z : nI (tK B L q) = 3
      · rw [if_pos z, if_pos ((nI_ltI (by omega) (by omega)).mpr x), inb_t (by omega) (by omega), ck_true, ix_n (by omega), w.b q x, if_neg y]
        rfl
      · rw [if_neg z]
        rfl
  · have e : tK B L q = 0 := by unfold tK; rw [if_neg x]
    rw [e, if_neg (show ¬ (nI 0 : Int32) = 3 by decide), bo_n (fun z => x z.1)]
    rfl
theorem c_isKey (w : TS h B L q) {t : Nat} (h0 : 0 < tl t) (h9 : tl t ≤ 9) : f_X9_isKeyword h t = some (nI (bo (isK B L q t))) := by
  have hi := w.i
  have hl := w.l
  have hk := tK_le (B := B) (L := L) (q := q)
  unfold f_X9_isKeyword
  rw [w.k]
  rcases tk_lt (B := B) hi with ⟨a1, a2, a3⟩ | ⟨a1, a2⟩
  · obtain ⟨b1, b2⟩ := lz_f (B := B) hi
    rw [a1, if_pos (show (nI 1 : Int32) = 1 from rfl), w.z, a3]
    by_cases z : lz B L q = tl t
    · rw [if_pos (congrArg nI z)]
      refine wp_eq.mp (wp_for (i := 0) (tl t) (fun i st => st = nI i ∧ ∀ j, j < i → B (q + j) = tb t j) (by omega) (by omega) ⟨rfl, fun j hj => absurd hj (Nat.not_lt_zero _)⟩ ?_)
      rintro i st r hi2 ⟨rfl, hall⟩ k
      unfold F_X9_isKeyword_23
      by_cases x : i < tl t
      · have x2 : q + i < L := by omega
        simp (disch := omega) only [li, nI_add, pk_mul, ix_n, lt_n, le_n, eq_n, sub_n, dec_n, inb_t, neg_n, neg_n', ck_true, stp_eq, bnd_some, wp_some, wp_stp, Nat.add_zero, Nat.lt_irrefl, Nat.reduceEqDiff, Nat.reduceAdd, Nat.reduceSub, Nat.reduceMul, Nat.reduceLT, Nat.reduceLeDiff, up_o, up_ss, up_sn, zb_n1, true_and, and_true, ↓reduceIte, w.z, a3, z, x, w.s, w.n, x2, w.b]
        refine wp_if (fun y => ?_) (fun y => ?_)
        · exact k _ x ⟨rfl, fun j hj => by
            by_cases e : j = i
            · subst e; exact y
            · exact hall j (by omega)⟩
        · rw [wp_some, bo_n (fun v => y (v.2 i x))]
      · have e : i = tl t := by omega
        subst e
        simp (disch := omega) only [li, nI_add, pk_mul, ix_n, lt_n, le_n, eq_n, sub_n, dec_n, inb_t, neg_n, neg_n', ck_true, stp_eq, bnd_some, wp_some, wp_stp, Nat.add_zero, Nat.lt_irrefl, Nat.reduceEqDiff, Nat.reduceAdd, Nat.reduceSub, Nat.reduceMul, Nat.reduceLT, Nat.reduceLeDiff, up_o, up_ss, up_sn, zb_n1, true_and, and_true, ↓reduceIte, w.z, a3, z]
        rw [bo_y ⟨z, hall⟩]
    · rw [if_neg (show ¬ nI (lz B L q) = nI (tl t) from fun y => z ((nI_eq (by omega) (by omega)).mp y)), bo_n (fun v => z v.1)]
      rfl
  · rw [if_neg (show ¬ nI (tK B L q) = 1 from fun y => a1 ((nI_eq (b := 1) (by omega) (by omega)).mp y)), bo_n (fun v => by have := v.1; omega)]
    rfl
theorem nmV_lt (z : Nat) (hb : ∀ j, j < z → ltB (B (q + j))) : nmV B q z < 32 ^ z := by
  induction z with
  | zero => exact Nat.zero_lt_one
  | succ z ih =>
    have := ih (fun j hj => hb j (by omega))
    obtain ⟨a, b, c⟩ := bn_lt (hb z (by omega))
    rw [nmV_s, Nat.pow_succ]
    omega
theorem nuV_lt (z : Nat) (hb : ∀ j, j < z → dgB (B (q + j))) : nuV B q z < 10 ^ z := by
  induction z with
  | zero => exact Nat.zero_lt_one
  | succ z ih =>
    have := ih (fun j hj => hb j (by omega))
    obtain ⟨a, b, c⟩ := bn_dg (hb z (by omega))
    rw [nuV_s, Nat.pow_succ]
    omega
theorem c_name (w : TS h B L q) : (naE B L q = 0 ∧ f_X9_nameHere h = some (nI (nmV B q (lz B L q)), h)) ∨ (naE B L q = 1 ∧ f_X9_nameHere h = some (-nI 1, ce h q 1)) := by
  have hi := w.i
  have hl := w.l
  have hk := tK_le (B := B) (L := L) (q := q)
  have bad : J_X9_nameHere_17 h = some (-nI 1, ce h q 1) := by
    unfold J_X9_nameHere_17
    rw [show f_X9_fail h 1 = _ from c_fail w 1, bnd_some]
    rfl
  unfold f_X9_nameHere naE
  rw [w.k]
  rcases tk_lt (B := B) hi with ⟨a1, a2, a3⟩ | ⟨a1, a2⟩
  · obtain ⟨b1, b2⟩ := lz_f (B := B) hi
    rw [a1, if_pos (show (nI 1 : Int32) = 1 from rfl), w.z, a3]
    by_cases z : lz B L q ≤ 6
    · rw [if_pos ⟨a2, z⟩]
      refine Or.inl ⟨rfl, ?_⟩
      rw [if_neg (show ¬ (6 : Int32) < nI (lz B L q) from fun y => by have := (nI_ltI (a := 6) (by omega) (by omega)).mp y; omega)]
      refine wp_eq.mp (wp_for (i := 0) (lz B L q) (fun i st => st = (nI (nmV B q i), nI i)) (by omega) (by omega) rfl ?_)
      rintro i st r hi2 rfl k
      unfold F_X9_nameHere_29
      by_cases x : i < lz B L q
      · have x2 : q + i < L := by omega
        obtain ⟨e1, e2, e3⟩ := bn_lt (b2 i x)
        have hv := nmV_lt i (fun j hj => b2 j (by omega))
        have hv2 : 32 ^ i ≤ 32 ^ 5 := Nat.pow_le_pow_right (by decide) (by omega)
        have e5 : (32 : Nat) ^ 5 = 33554432 := by decide
        have eb : h 2 (q + i) = nI (bn B (q + i)) := by rw [w.b _ x2]; exact e1
        simp (disch := omega) only [li, nI_add, pk_mul, ix_n, lt_n, le_n, eq_n, sub_n, dec_n, inb_t, neg_n, neg_n', ck_true, stp_eq, bnd_some, wp_some, wp_stp, Nat.add_zero, Nat.lt_irrefl, Nat.reduceEqDiff, Nat.reduceAdd, Nat.reduceSub, Nat.reduceMul, Nat.reduceLT, Nat.reduceLeDiff, up_o, up_ss, up_sn, zb_n1, true_and, and_true, ↓reduceIte, w.z, a3, x, w.s, w.n, x2, eb]
        refine k _ x ?_
        rw [nmV_s]
        exact Prod.ext (congrArg nI (by omega)) rfl
      · have e : i = lz B L q := by omega
        simp (disch := omega) only [li, nI_add, pk_mul, ix_n, lt_n, le_n, eq_n, sub_n, dec_n, inb_t, neg_n, neg_n', ck_true, stp_eq, bnd_some, wp_some, wp_stp, Nat.add_zero, Nat.lt_irrefl, Nat.reduceEqDiff, Nat.reduceAdd, Nat.reduceSub, Nat.reduceMul, Nat.reduceLT, Nat.reduceLeDiff, up_o, up_ss, up_sn, zb_n1, true_and, and_true, ↓reduceIte, w.z, a3, x, e]
    · rw [if_neg (fun y => z y.2), if_pos (show (6 : Int32) < nI (lz B L q) from (nI_ltI (a := 6) (by omega) (by omega)).mpr (by omega))]
      exact Or.inr ⟨rfl, bad⟩
  · rw [if_neg (show ¬ nI (tK B L q) = 1 from fun y => a1 ((nI_eq (b := 1) (by omega) (by omega)).mp y)), if_neg (fun y => by omega)]
    exact Or.inr ⟨rfl, bad⟩
theorem c_number (w : TS h B L q) {lo hi2 : Nat} (hlo : lo < 2147483648) (hhi : hi2 < 2147483648) : (nuE B L q lo hi2 = 0 ∧ f_X9_numberHere h (nI lo) (nI hi2) = some (nI (nuV B q (dz B L q)), h)) ∨ (1 ≤ nuE B L q lo hi2 ∧ nuE B L q lo hi2 ≤ 2 ∧ f_X9_numberHere h (nI lo) (nI hi2) = some (-nI 1, ce h q (nuE B L q lo hi2))) := by
  have hi := w.i
  have hl := w.l
  have hk := tK_le (B := B) (L := L) (q := q)
  unfold f_X9_numberHere nuE
  rw [w.k]
  rcases tk_dg (B := B) hi with ⟨a1, a2, a3⟩ | ⟨a1, a2⟩
  · obtain ⟨b1, b2⟩ := dz_f (B := B) hi
    rw [a1, if_pos (show (nI 2 : Int32) = 2 from rfl), w.z, a3, if_neg (show ¬ dz B L q = 0 by omega)]
    by_cases z : dz B L q ≤ 5
    · have hv5 := nuV_lt (dz B L q) b2
      have hv52 : 10 ^ dz B L q ≤ 10 ^ 5 := Nat.pow_le_pow_right (by decide) (by omega)
      have e55 : (10 : Nat) ^ 5 = 100000 := by decide
      rw [if_neg (show ¬ (5 : Int32) < nI (dz B L q) from fun y => by have := (nI_ltI (a := 5) (by omega) (by omega)).mp y; omega), if_neg (show ¬ 5 < dz B L q by omega)]
      have fin : J_X9_numberHere_87 (nI lo) (nI hi2) h (nI (nuV B q (dz B L q))) = if nuV B q (dz B L q) < lo ∨ hi2 < nuV B q (dz B L q) then some (-nI 1, ce h q 2) else some (nI (nuV B q (dz B L q)), h) := by
        unfold J_X9_numberHere_87 J_X9_numberHere_97
        rw [show f_X9_fail h 2 = _ from c_fail w 2, bnd_some]
        by_cases y1 : nuV B q (dz B L q) < lo
        · rw [if_pos ((nI_ltI (by omega) (by omega)).mpr y1), if_pos (Or.inl y1)]
          rfl
        · rw [if_neg (fun y => y1 ((nI_ltI (by omega) (by omega)).mp y))]
          by_cases y2 : hi2 < nuV B q (dz B L q)
          · rw [if_pos ((nI_ltI (by omega) (by omega)).mpr y2), if_pos (Or.inr y2)]
            rfl
          · rw [if_neg (fun y => y2 ((nI_ltI (by omega) (by omega)).mp y)), if_neg (fun y => by rcases y with y | y; exact y1 y; exact y2 y)]
      have run : Lp (F_X9_numberHere_37 (nI lo) (nI hi2) h) FU (0, 0) = J_X9_numberHere_87 (nI lo) (nI hi2) h (nI (nuV B q (dz B L q))) := by
        rw [fin]
        have go : Wp (Lp (F_X9_numberHere_37 (nI lo) (nI hi2) h) FU (0, 0)) (fun v => some v = (if nuV B q (dz B L q) < lo ∨ hi2 < nuV B q (dz B L q) then some (-nI 1, ce h q 2) else some (nI (nuV B q (dz B L q)), h))) := by
          refine wp_for (i := 0) (dz B L q) (fun i st => st = (nI (nuV B q i), nI i)) (by omega) (by omega) rfl ?_
          rintro i st r hi2' rfl k
          unfold F_X9_numberHere_37
          by_cases x : i < dz B L q
          · have x2 : q + i < L := by omega
            obtain ⟨e1, e2, e3⟩ := bn_dg (b2 i x)
            have hv := nuV_lt i (fun j hj => b2 j (by omega))
            have hv2 : 10 ^ i ≤ 10 ^ 5 := Nat.pow_le_pow_right (by decide) (by omega)
            have eb : h 2 (q + i) = nI (bn B (q + i)) := by rw [w.b _ x2]; exact e1
            simp (disch := omega) only [li, nI_add, pk_mul, ix_n, lt_n, le_n, eq_n, sub_n, dec_n, inb_t, neg_n, neg_n', ck_true, stp_eq, bnd_some, wp_some, wp_stp, Nat.add_zero, Nat.lt_irrefl, Nat.reduceEqDiff, Nat.reduceAdd, Nat.reduceSub, Nat.reduceMul, Nat.reduceLT, Nat.reduceLeDiff, up_o, up_ss, up_sn, zb_n1, true_and, and_true, ↓reduceIte, w.z, a3, x, w.s, w.n, x2, eb]
            refine k _ x ?_
            rw [nuV_s]
            exact Prod.ext (congrArg nI (by omega)) rfl
          · have e : i = dz B L q := by omega
            subst e
            have t1 : ¬ nI (dz B L q) < h 1 6 := by rw [w.z, a3]; exact fun y => by have := (nI_ltI (by omega) (by omega)).mp y; omega
            show Wp (if nI (dz B L q) < h 1 6 then _ else J_X9_numberHere_87 (nI lo) (nI hi2) h (nI (nuV B q (dz B L q)))) _
            rw [if_neg t1, fin]
            split
            · exact wp_some.mpr rfl
            · exact wp_some.mpr rfl
        obtain ⟨v, e1, e2⟩ := go
        rw [e1, e2]
      rw [run, fin]
      by_cases y : nuV B q (dz B L q) < lo ∨ hi2 < nuV B q (dz B L q)
      · rw [if_pos y, if_pos y]
        exact Or.inr ⟨by omega, by omega, rfl⟩
      · rw [if_neg y, if_neg y]
        exact Or.inl ⟨rfl, rfl⟩
    · rw [if_pos (show (5 : Int32) < nI (dz B L q) from (nI_ltI (a := 5) (by omega) (by omega)).mpr (by omega)), if_pos (show 5 < dz B L q by omega), show f_X9_fail h 2 = _ from c_fail w 2, bnd_some]
      exact Or.inr ⟨by omega, by omega, rfl⟩
  · rw [if_neg (show ¬ nI (tK B L q) = 2 from fun y => a1 ((nI_eq (b := 2) (by omega) (by omega)).mp y)), if_pos a2, show f_X9_fail h 1 = _ from c_fail w 1, bnd_some]
    exact Or.inr ⟨by omega, by omega, rfl⟩
theorem c_takeSign (w : TS h B L q) {c : Int32} (h1 : ¬ ltB c) (h2 : ¬ dgB c) : (isS B L q c ∧ ∃ h', f_X9_takeSign h c = some (nI 1, h') ∧ TS h' B L (rn wsB B L (q + 1)) ∧ TAd h h') ∨ (¬ isS B L q c ∧ f_X9_takeSign h c = some (nI 0, ce h q 1)) := by
  unfold f_X9_takeSign
  rw [c_isSign w h1 h2, bnd_some]
  by_cases z : isS B L q c
  · obtain ⟨h', e, w', a'⟩ := c_advance w
    have ez : tZ B L q = 1 := by
      unfold tZ
      rw [if_pos z.1, if_neg (by rw [z.2]; exact h1), if_neg (by rw [z.2]; exact h2)]
    rw [ez] at w'
    rw [bo_y z, if_neg (show ¬ (nI 1 : Int32) = 0 by decide), e, bnd_some]
    exact Or.inl ⟨z, h', rfl, w', a'⟩
  · rw [bo_n z, if_pos (show (nI 0 : Int32) = 0 from rfl), show f_X9_fail h 1 = _ from c_fail w 1, bnd_some]
    exact Or.inr ⟨z, rfl⟩
end
