/-! formatted text, on both sides: l the text's bytes -/
theorem i2b_n {a : Nat} (h : a < 128) : i2b (nI a) = nI a := by
  have : ∀ a, a < 128 → i2b (nI a) = nI a := by decide +kernel
  exact this a h
def CT (h : Hp) (l : List Nat) : Prop := h 16 1 = nI l.length ∧ Arr (h 17) l
def GT (g : Hp) (l : List Nat) : Prop := g 125 42 = nI l.length ∧ Arr (g 144) l
def CXf (h h' : Hp) : Prop := ∀ k, ¬ k = 16 → ¬ k = 17 → h' k = h k
def GX (g g' : Hp) : Prop := (∀ k, ¬ k = 125 → ¬ k = 144 → g' k = g k) ∧ ∀ j, ¬ j = 42 → g' 125 j = g 125 j
theorem CXf.rf (h : Hp) : CXf h h := fun _ _ _ => rfl
theorem CXf.tr {a b c : Hp} (h1 : CXf a b) (h2 : CXf b c) : CXf a c := fun k p q => (h2 k p q).trans (h1 k p q)
theorem GX.rf (g : Hp) : GX g g := ⟨fun _ _ _ => rfl, fun _ _ => rfl⟩
theorem GX.tr {a b c : Hp} (h1 : GX a b) (h2 : GX b c) : GX a c := ⟨fun k p q => (h2.1 k p q).trans (h1.1 k p q), fun j p => (h2.2 j p).trans (h1.2 j p)⟩
theorem GX.gr {g g' : Hp} {R : Nat → Nat → Nat} (w : GX g g') (hG : GR g R) : GR g' R := by
  unfold GR
  rw [w.1 126 (by decide) (by decide), w.1 128 (by decide) (by decide), w.1 129 (by decide) (by decide), w.1 130 (by decide) (by decide), w.1 131 (by decide) (by decide), w.1 132 (by decide) (by decide), w.1 133 (by decide) (by decide), w.2 3 (by decide)]
  exact hG
theorem GX.ge {g g' : Hp} {E : Nat → Nat → Nat} (w : GX g g') (hM : GE g E) : GE g' E := by
  unfold GE
  rw [w.1 134 (by decide) (by decide)]
  exact hM
def nmL (k a : Nat) : List Nat := Nat.rec (motive := fun _ => Nat → List Nat) (fun _ => []) (fun _ r a => r (a / 32) ++ (if a % 32 = 0 then [] else [96 + a % 32])) k a
theorem nmL_s (k a : Nat) : nmL (k + 1) a = nmL k (a / 32) ++ (if a % 32 = 0 then [] else [96 + a % 32]) := rfl
theorem nmL_0 : ∀ k, nmL k 0 = [] := by
  intro k
  induction k with
  | zero => rfl
  | succ k ih => rw [nmL_s, if_pos (by decide), List.append_nil]; exact ih
theorem nmL_len : ∀ k a, (nmL k a).length ≤ k := by
  intro k
  induction k with
  | zero => intro a; exact Nat.le_refl _
  | succ k ih =>
    intro a
    have := ih (a / 32)
    rw [nmL_s, List.length_append]
    split
    · rw [List.length_nil]; omega
    · rw [List.length_cons, List.length_nil]; omega
def dgL (k v : Nat) : List Nat := Nat.rec (motive := fun _ => Nat → List Nat) (fun _ => []) (fun _ r v => (if 9 < v then r (v / 10) else []) ++ [48 + v % 10]) k v
theorem dgL_s (k v : Nat) : dgL (k + 1) v = (if 9 < v then dgL k (v / 10) else []) ++ [48 + v % 10] := rfl
theorem dgL_len : ∀ k v, (dgL k v).length ≤ k := by
  intro k
  induction k with
  | zero => intro v; exact Nat.le_refl _
  | succ k ih =>
    intro v
    have := ih (v / 10)
    rw [dgL_s, List.length_append, List.length_cons, List.length_nil]
    split
    · omega
    · rw [List.length_nil]; omega
/-- how many digits: i steps of division leave something, one more leaves nothing -/
theorem dgL_n : ∀ k v i, (i = 0 ∨ 0 < v / 10 ^ i) → v / 10 ^ (i + 1) = 0 → i + 1 ≤ k → (dgL k v).length = i + 1 := by
  intro k
  induction k with
  | zero => intro v i _ _ h; omega
  | succ k ih =>
    intro v i h1 h2 h3
    rw [dgL_s, List.length_append, List.length_cons, List.length_nil]
    cases i with
    | zero =>
      have : ¬ 9 < v := by
        intro z
        have : 0 < v / 10 ^ (0 + 1) := Nat.div_pos (by show 10 ≤ v; omega) (by decide)
        omega
      rw [if_neg this, List.length_nil]
    | succ i =>
      have h1 : 0 < v / 10 ^ (i + 1) := by
        rcases h1 with h | h
        · cases h
        · exact h
      have e1 : v / 10 / 10 ^ i = v / 10 ^ (i + 1) := by rw [Nat.div_div_eq_div_mul, Nat.pow_succ, Nat.mul_comm]
      have e2 : v / 10 / 10 ^ (i + 1) = v / 10 ^ (i + 1 + 1) := by rw [Nat.div_div_eq_div_mul, Nat.pow_succ _ (i + 1), Nat.mul_comm]
      have h9 : 9 < v := by
        apply Classical.byContradiction
        intro z
        have : v / 10 ^ (i + 1) = 0 := Nat.div_eq_of_lt (Nat.lt_of_lt_of_le (show v < 10 ^ 1 by omega) (Nat.pow_le_pow_right (by decide) (by omega)))
        omega
      rw [if_pos h9, ih (v / 10) i (Or.inr (by rw [e1]; exact h1)) (by rw [e2]; exact h2) (by omega)]
theorem dgL_g : ∀ k v j x, (dgL k v)[j]? = some x → x = 48 + v / 10 ^ ((dgL k v).length - 1 - j) % 10 := by
  intro k
  induction k with
  | zero => intro v j x h; cases h
  | succ k ih =>
    intro v j x h
    rw [dgL_s] at h ⊢
    by_cases h9 : 9 < v
    · rw [if_pos h9] at h ⊢
      rw [List.length_append, List.length_cons, List.length_nil]
      by_cases hj : j < (dgL k (v / 10)).length
      · rw [List.getElem?_append_left hj] at h
        have := ih _ _ _ h
        rw [this, Nat.div_div_eq_div_mul, show (dgL k (v / 10)).length + (0 + 1) - 1 - j = ((dgL k (v / 10)).length - 1 - j) + 1 by omega, Nat.pow_succ, Nat.mul_comm]
      · have hj2 : j = (dgL k (v / 10)).length := by
          apply Classical.byContradiction
          intro z
          rw [List.getElem?_eq_none (by rw [List.length_append, List.length_cons, List.length_nil]; omega)] at h
          cases h
        subst hj2
        rw [List.getElem?_append_right (Nat.le_refl _), Nat.sub_self] at h
        have e : 48 + v % 10 = x := Option.some.inj h
        rw [show (dgL k (v / 10)).length + (0 + 1) - 1 - (dgL k (v / 10)).length = 0 by omega, Nat.pow_zero, Nat.div_one, e]
    · rw [if_neg h9] at h ⊢
      cases j with
      | zero =>
        have e : 48 + v % 10 = x := Option.some.inj h
        show x = 48 + v / 10 ^ 0 % 10
        rw [Nat.pow_zero, Nat.div_one, e]
      | succ j => cases h
section
variable {h g : Hp} {c : Nat} {R E : Nat → Nat → Nat}
theorem c_putByte {l : List Nat} {y : Nat} (hT : CT h l) (hl : l.length < 1000) (hy : y < 128) : Wp (f_X2_putByte h (nI y)) (fun u => CT u (l ++ [y]) ∧ CXf h u) := by
  obtain ⟨t1, t2⟩ := hT
  unfold f_X2_putByte
  simp (disch := omega) only [li, nI_add, pk_mul, ix_n, lt_n, le_n, eq_n, sub_n, dec_n, inb_t, neg_n, neg_n', ck_true, stp_eq, bnd_some, wp_some, wp_stp, Nat.add_zero, Nat.lt_irrefl, Nat.reduceEqDiff, Nat.reduceAdd, Nat.reduceSub, Nat.reduceMul, Nat.reduceLT, Nat.reduceLeDiff, up_o, up_ss, up_sn, zb_n1, true_and, and_true, ↓reduceIte, t1, hl, i2b_n hy]
  refine ⟨⟨?_, ?_⟩, fun k a b => by rw [up_o a, up_o b]⟩
  · rw [List.length_append]
    first | rfl | assumption | (simp (disch := omega) only [up_o, up_ss, up_sn] <;> first | rfl | assumption)
  · rw [up_o (by decide)]; exact Arr.push t2
theorem m_says {l : List Nat} {y : Nat} (hT : GT g l) (hl : l.length < 900) (hy : y < 128) : Wp (f_X11_says g (nI y)) (fun u => GT u (l ++ [y]) ∧ GX g u) := by
  obtain ⟨t1, t2⟩ := hT
  unfold f_X11_says
  simp (disch := omega) only [li, nI_add, pk_mul, ix_n, lt_n, le_n, eq_n, sub_n, dec_n, inb_t, neg_n, neg_n', ck_true, stp_eq, bnd_some, wp_some, wp_stp, Nat.add_zero, Nat.lt_irrefl, Nat.reduceEqDiff, Nat.reduceAdd, Nat.reduceSub, Nat.reduceMul, Nat.reduceLT, Nat.reduceLeDiff, up_o, up_ss, up_sn, zb_n1, true_and, and_true, ↓reduceIte, t1, i2b_n hy]
  refine ⟨⟨?_, ?_⟩, fun k a b => by rw [up_o a, up_o b], fun j a => by rw [up_sn a, up_o (by decide)]⟩
  · rw [List.length_append]
    first | rfl | assumption | (simp (disch := omega) only [up_o, up_ss, up_sn] <;> first | rfl | assumption)
  · rw [up_o (by decide)]; exact Arr.push t2
theorem c_putText {l cs : List Nat} {p : Nat} (hT : CT h l) (hl : l.length + cs.length < 1000) (h1 : tl p = cs.length) (h2 : ∀ j, j < cs.length → tb p j = nI (cs.getD j 0) ∧ cs.getD j 0 < 128) : Wp (f_X2_putText h p) (fun u => CT u (l ++ cs) ∧ CXf h u) := by
  unfold f_X2_putText
  refine wp_for (i := 0) cs.length (fun i s => ∃ h1, s = (nI i, h1) ∧ CT h1 (l ++ cs.take i) ∧ CXf h h1) (by omega) (by omega) ⟨h, rfl, by rw [List.take_zero, List.append_nil]; exact hT, CXf.rf h⟩ ?_
  rintro i s r hi ⟨h3, rfl, a1, a2⟩ k
  unfold F_X2_putText_2
  by_cases hl2 : i < cs.length
  · obtain ⟨e1, e2⟩ := h2 i hl2
    have htk : cs.take (i + 1) = cs.take i ++ [cs.getD i 0] := by
      obtain ⟨y, hy⟩ := lget hl2
      rw [List.take_add_one, hy, List.getD_eq_getElem?_getD, hy]
      rfl
    simp (disch := omega) only [li, nI_add, pk_mul, ix_n, lt_n, le_n, eq_n, sub_n, dec_n, inb_t, neg_n, neg_n', ck_true, stp_eq, bnd_some, wp_some, wp_stp, Nat.add_zero, Nat.lt_irrefl, Nat.reduceEqDiff, Nat.reduceAdd, Nat.reduceSub, Nat.reduceMul, Nat.reduceLT, Nat.reduceLeDiff, up_o, up_ss, up_sn, zb_n1, true_and, and_true, ↓reduceIte, h1, hl2, e1]
    refine wp_bnd_of (c_putByte a1 (by rw [List.length_append, List.length_take]; omega) e2) (fun h4 k4 => ?_)
    exact k _ hl2 ⟨h4, rfl, by rw [htk, ← List.append_assoc]; exact k4.1, a2.tr k4.2⟩
  · have e : i = cs.length := by omega
    subst e
    simp (disch := omega) only [li, nI_add, pk_mul, ix_n, lt_n, le_n, eq_n, sub_n, dec_n, inb_t, neg_n, neg_n', ck_true, stp_eq, bnd_some, wp_some, wp_stp, Nat.add_zero, Nat.lt_irrefl, Nat.reduceEqDiff, Nat.reduceAdd, Nat.reduceSub, Nat.reduceMul, Nat.reduceLT, Nat.reduceLeDiff, up_o, up_ss, up_sn, zb_n1, true_and, and_true, ↓reduceIte, h1]
    rw [List.take_length] at a1
    exact ⟨a1, a2⟩
theorem c_putName {l : List Nat} {a : Nat} (hT : CT h l) (hl : l.length + 6 < 1000) (ha : isName a) : Wp (f_X2_putName h (nI a)) (fun u => CT u (l ++ nmL 6 a) ∧ CXf h u) := by
  have hlt := nm_lt ha
  have hdig : ∀ i, i < 6 → a / 32 ^ i % 32 < 27 := by
    have key : ∀ k a, isNm k a → ∀ i, a / 32 ^ i % 32 < 27 := by
      intro k
      induction k with
      | zero => intro a h i; have h : a = 0 := h; rw [h, Nat.zero_div]; decide
      | succ k ih =>
        intro a h i
        rw [isNm_s] at h
        rcases h with h | ⟨b1, b2, b3⟩
        · rw [h, Nat.zero_div]; decide
        · cases i with
          | zero => rw [Nat.pow_zero, Nat.div_one]; omega
          | succ i =>
            have := ih _ b3 i
            rw [Nat.div_div_eq_div_mul, Nat.mul_comm, ← Nat.pow_succ] at this
            exact this
    intro i _
    exact key 6 a ha.2 i
  have hsh : ∀ i, i < 6 → (nI a >>> (nI (5 * i) &&& nI 31)) &&& nI 31 = nI (a / 32 ^ i % 32) := by
    intro i hi
    have e1 : nI (5 * i) &&& nI 31 = nI (5 * i) := by
      have : ∀ i, i < 6 → nI (5 * i) &&& nI 31 = nI (5 * i) := by decide +kernel
      exact this i hi
    have e2 : ((nI (5 * i)).toBitVec.smod 32).toNat = 5 * i := by
      have : ∀ i, i < 6 → ((nI (5 * i)).toBitVec.smod 32).toNat = 5 * i := by decide +kernel
      exact this i hi
    have e3 : (2 : Nat) ^ (5 * i) = 32 ^ i := by rw [Nat.pow_mul]
    rw [e1, pk_shrN (by omega) _ (5 * i) e2, e3, pk_andN (Nat.lt_of_le_of_lt (Nat.div_le_self _ _) (by omega)) 5 (by decide)]
  unfold f_X2_putName
  refine wp_for (i := 0) 6 (fun i s => ∃ h1, s = ((if i < 6 then nI (5 * (5 - i)) else -nI 5), h1) ∧ CT h1 (l ++ nmL i (a / 32 ^ (6 - i))) ∧ CXf h h1) (by omega) (by omega) ⟨h, rfl, by show CT h (l ++ []); rw [List.append_nil]; exact hT, CXf.rf h⟩ ?_
  rintro i s r hi ⟨h3, rfl, a1, a2⟩ k
  have hnl := nmL_len i (a / 32 ^ (6 - i))
  unfold F_X2_putName_3 J_X2_putName_28
  by_cases hl2 : i < 6
  · have hd := hdig (5 - i) (by omega)
    have hs := hsh (5 - i) (by omega)
    have hnext : nI (5 * (5 - i)) + -nI 5 = if i + 1 < 6 then nI (5 * (5 - (i + 1))) else -nI 5 := by
      by_cases z : i + 1 < 6
      · rw [if_pos z, dec_n (by omega)]
        exact congrArg nI (by omega)
      · rw [if_neg z, show i = 5 by omega]
        decide
    have hnm : nmL (i + 1) (a / 32 ^ (6 - (i + 1))) = nmL i (a / 32 ^ (6 - i)) ++ (if a / 32 ^ (5 - i) % 32 = 0 then [] else [96 + a / 32 ^ (5 - i) % 32]) := by
      rw [nmL_s, show 6 - (i + 1) = 5 - i by omega, Nat.div_div_eq_div_mul, ← Nat.pow_succ, show (5 - i).succ = 6 - i by omega]
    rw [if_pos hl2]
    have hpos : ¬ nI (5 * (5 - i)) < 0 := nI_pos (by omega)
    show Wp (if nI (5 * (5 - i)) < 0 then some h3 else stp (nI a >>> (nI (5 * (5 - i)) &&& nI 31) &&& nI 31) (fun v2 => if v2 = nI 0 then stp (nI (5 * (5 - i)) + -nI 5) (fun v1 => r (v1, h3)) else bnd (f_X2_putByte h3 (nI 97 + v2 - nI 1)) (fun u3 => stp (nI (5 * (5 - i)) + -nI 5) (fun v1 => r (v1, u3))))) _
    rw [if_neg hpos, hs, stp_eq, hnext]
    by_cases z : a / 32 ^ (5 - i) % 32 = 0
    · rw [if_pos (by rw [z])]
      refine k _ hl2 ⟨h3, rfl, ?_, a2⟩
      rw [hnm, if_pos z, List.append_nil]
      exact a1
    · rw [if_neg (fun y => z ((nI_eq (by omega) (by omega)).mp y)), nI_add, sub_n (by omega), show 97 + a / 32 ^ (5 - i) % 32 - 1 = 96 + a / 32 ^ (5 - i) % 32 by omega]
      refine wp_bnd_of (c_putByte a1 (by rw [List.length_append]; omega) (by omega)) (fun h4 k4 => ?_)
      refine k _ hl2 ⟨h4, rfl, ?_, a2.tr k4.2⟩
      rw [hnm, if_neg z, ← List.append_assoc]
      exact k4.1
  · have e : i = 6 := by omega
    subst e
    rw [if_neg (by decide)]
    have hneg : -nI 5 < 0 := by decide
    show Wp (if -nI 5 < 0 then some h3 else _) _
    rw [if_pos hneg]
    rw [Nat.sub_self, Nat.pow_zero, Nat.div_one] at a1
    exact wp_some.mpr ⟨a1, a2⟩
theorem n27k_pos : ∀ k a, isNm k a → a ≠ 0 → 1 ≤ n27k k a := by
  intro k
  cases k with
  | zero => intro a h h0; exact absurd h h0
  | succ k =>
    intro a h h0
    rw [isNm_s] at h
    rcases h with h | ⟨b1, b2, b3⟩
    · exact absurd h h0
    · rw [n27k_s]; omega
theorem m_saysName' : ∀ k n, k ≤ n → k ≤ 6 → ∀ (g : Hp) (l : List Nat) (a : Nat), GT g l → l.length + k < 900 → a ≠ 0 → isNm k a → Wp (REC_X11_saysName n g (nI (n27k k a))) (fun u => GT u (l ++ nmL k a) ∧ GX g u) := by
  intro k
  induction k with
  | zero => intro n _ _ g l a _ _ h0 h; exact absurd h h0
  | succ k ih =>
    intro n hn hk6 g l a hT hl h0 h
    obtain ⟨m, rfl⟩ : ∃ m, n = m + 1 := ⟨n - 1, by omega⟩
    have h' := h
    rw [isNm_s] at h
    rcases h with h | ⟨b1, b2, b3⟩
    · exact absurd h h0
    have hlt := n27k_lt k (a / 32) b3
    have hp5 : 27 ^ k ≤ 27 ^ 5 := Nat.pow_le_pow_right (by decide) (by omega)
    have e5 : (27 : Nat) ^ 5 = 14348907 := by decide
    have hvs := n27k_s k a
    have hlen := nmL_len k (a / 32)
    show Wp (B_X11_saysName (REC_X11_saysName m) g (nI (n27k (k + 1) a))) _
    have fin : ∀ (g2 : Hp) (l2 : List Nat), l2.length < 900 → GT g2 l2 → GX g g2 → l2 ++ [96 + a % 32] = l ++ nmL (k + 1) a → Wp (J_X11_saysName_14 (REC_X11_saysName m) (nI (n27k (k + 1) a)) g2) (fun u => GT u (l ++ nmL (k + 1) a) ∧ GX g u) := by
      intro g2 l2 hl2 hT2 hX2 he
      unfold J_X11_saysName_14
      have er : (97 : Int32) + irem (nI (n27k (k + 1) a)) 27 - 1 = nI (96 + a % 32) := by
        show nI 97 + irem (nI (n27k (k + 1) a)) (nI 27) - nI 1 = _
        rw [irem_n (by omega) (by omega) (by omega), nI_add, sub_n (by omega)]
        exact congrArg nI (by omega)
      rw [er]
      refine wp_bnd_of (m_says hT2 hl2 (by omega)) (fun g3 k3 => wp_some.mpr ⟨?_, hX2.tr k3.2⟩)
      rw [← he]
      exact k3.1
    unfold B_X11_saysName
    by_cases z : a / 32 = 0
    · have e0 : n27k k (a / 32) = 0 := by rw [z]; exact n27k_0 k
      rw [if_neg (show ¬ (26 : Int32) < nI (n27k (k + 1) a) from fun y => by have := (nI_ltI (a := 26) (by omega) (by omega)).mp y; omega)]
      refine fin g l (by omega) hT (GX.rf g) ?_
      rw [nmL_s, z, nmL_0, if_neg (by omega)]
      rfl
    · have e1 := n27k_pos k (a / 32) b3 z
      rw [if_pos (show (26 : Int32) < nI (n27k (k + 1) a) from (nI_ltI (a := 26) (by omega) (by omega)).mpr (by omega))]
      have ed : nI (n27k (k + 1) a) / (27 : Int32) = nI (n27k k (a / 32)) := by
        show nI (n27k (k + 1) a) / nI 27 = _
        rw [pk_div (by omega) (by omega) (by omega)]
        exact congrArg nI (by omega)
      rw [ed]
      refine wp_bnd_of (ih m (by omega) (by omega) g l (a / 32) hT (by omega) z b3) (fun g2 k2 => ?_)
      refine fin g2 _ (by rw [List.length_append]; omega) k2.1 k2.2 ?_
      rw [nmL_s, if_neg (by omega), List.append_assoc]
theorem m_saysName {l : List Nat} {a : Nat} (hT : GT g l) (hl : l.length + 6 < 900) (ha : isName a) : Wp (f_X11_saysName g (nI (n27 a))) (fun u => GT u (l ++ nmL 6 a) ∧ GX g u) := m_saysName' 6 64 (by omega) (Nat.le_refl _) g l a hT hl ha.1 ha.2
theorem m_saysNumber' : ∀ k n, k ≤ n → ∀ (g : Hp) (l : List Nat) (v : Nat), GT g l → l.length + k < 900 → v < 2147483648 → v < 10 ^ k → 0 < k → Wp (REC_X11_saysNumber n g (nI v)) (fun u => GT u (l ++ dgL k v) ∧ GX g u) := by
  intro k
  induction k with
  | zero => intro n _ g l v _ _ _ _ h; exact absurd h (Nat.lt_irrefl _)
  | succ k ih =>
    intro n hn g l v hT hl hvb hv _
    obtain ⟨m, rfl⟩ : ∃ m, n = m + 1 := ⟨n - 1, by omega⟩
    have hlen := dgL_len k (v / 10)
    show Wp (B_X11_saysNumber (REC_X11_saysNumber m) g (nI v)) _
    have fin : ∀ (g2 : Hp) (l2 : List Nat), l2.length < 900 → GT g2 l2 → GX g g2 → l2 ++ [48 + v % 10] = l ++ dgL (k + 1) v → Wp (J_X11_saysNumber_14 (REC_X11_saysNumber m) (nI v) g2) (fun u => GT u (l ++ dgL (k + 1) v) ∧ GX g u) := by
      intro g2 l2 hl2 hT2 hX2 he
      unfold J_X11_saysNumber_14
      have er : (48 : Int32) + irem (nI v) 10 = nI (48 + v % 10) := by
        show nI 48 + irem (nI v) (nI 10) = _
        rw [irem_n (by omega) (by omega) (by omega), nI_add]
      rw [er]
      refine wp_bnd_of (m_says hT2 hl2 (by omega)) (fun g3 k3 => wp_some.mpr ⟨?_, hX2.tr k3.2⟩)
      rw [← he]
      exact k3.1
    unfold B_X11_saysNumber
    by_cases z : 9 < v
    · rw [if_pos (show (9 : Int32) < nI v from (nI_ltI (a := 9) (by omega) (by omega)).mpr z)]
      have ed : nI v / (10 : Int32) = nI (v / 10) := by
        show nI v / nI 10 = _
        rw [pk_div (by omega) (by omega) (by omega)]
      have hk : 0 < k := by
        apply Classical.byContradiction
        intro y
        have : k = 0 := by omega
        subst this
        have : v < 10 := hv
        omega
      rw [ed]
      refine wp_bnd_of (ih m (by omega) g l (v / 10) hT (by omega) (by omega) (by rw [Nat.pow_succ] at hv; omega) hk) (fun g2 k2 => ?_)
      refine fin g2 _ (by rw [List.length_append]; omega) k2.1 k2.2 ?_
      rw [dgL_s, if_pos z, List.append_assoc]
    · rw [if_neg (show ¬ (9 : Int32) < nI v from fun y => z ((nI_ltI (a := 9) (by omega) (by omega)).mp y))]
      refine fin g l (by omega) hT (GX.rf g) ?_
      rw [dgL_s, if_neg z]
      rfl
theorem m_saysNumber {l : List Nat} {v : Nat} (hT : GT g l) (hl : l.length + 5 < 900) (hv : v < 100000) : Wp (f_X11_saysNumber g (nI v)) (fun u => GT u (l ++ dgL 5 v) ∧ GX g u) := m_saysNumber' 5 64 (by omega) g l v hT hl (by omega) hv (by omega)
theorem c_putNumber {l : List Nat} {v : Nat} (hT : CT h l) (hl : l.length + 5 < 1000) (hv : v < 100000) : Wp (f_X2_putNumber h (nI v)) (fun u => CT u (l ++ dgL 5 v) ∧ CXf h u) := by
  obtain ⟨t1, t2⟩ := hT
  have hlen := dgL_len 5 v
  have fin : Wp (J_X2_putNumber_21 (nI v) h (nI (dgL 5 v).length)) (fun u => CT u (l ++ dgL 5 v) ∧ CXf h u) := by
    unfold J_X2_putNumber_21
    have hpos : 0 < (dgL 5 v).length := by
      rw [show dgL 5 v = _ from dgL_s 4 v, List.length_append, List.length_cons]
      omega
    have em : min (l.length + (dgL 5 v).length) 1000 = l.length + (dgL 5 v).length := by omega
    simp (disch := omega) only [li, nI_add, pk_mul, ix_n, lt_n, le_n, eq_n, sub_n, dec_n, inb_t, neg_n, neg_n', ck_true, stp_eq, bnd_some, wp_some, wp_stp, Nat.add_zero, Nat.lt_irrefl, Nat.reduceEqDiff, Nat.reduceAdd, Nat.reduceSub, Nat.reduceMul, Nat.reduceLT, Nat.reduceLeDiff, up_o, up_ss, up_sn, zb_n1, true_and, and_true, ↓reduceIte, t1, imin_n, em]
    refine wp_for (i := 0) (dgL 5 v).length (fun i s => ∃ h1, s = (nI (v / 10 ^ i), (if i < (dgL 5 v).length ∨ 0 < l.length then nI (l.length + (dgL 5 v).length - 1 - i) else -nI 1), h1) ∧ (∀ q, q < l.length → h1 17 q = h 17 q) ∧ (∀ j x, (dgL 5 v)[j]? = some x → (dgL 5 v).length ≤ j + i → h1 17 (l.length + j) = nI x) ∧ (∀ k, ¬ k = 17 → h1 k = h k)) (by omega) (by omega) ⟨h, ?_, fun _ _ => rfl, fun j x hx hj => ?_, fun _ _ => rfl⟩ ?_
    · rw [if_pos (Or.inl hpos), Nat.pow_zero, Nat.div_one]
      rfl
    · rw [List.getElem?_eq_none (by omega)] at hx
      cases hx
    · rintro i s r hi ⟨h3, rfl, a1, a2, a3⟩ k
      have e16 : h3 16 1 = nI l.length := by rw [a3 16 (by decide)]; exact t1
      unfold F_X2_putNumber_43
      by_cases hl2 : i < (dgL 5 v).length
      · rw [if_pos (Or.inl hl2)]
        have hn : ¬ l.length + (dgL 5 v).length - 1 - i < l.length := by omega
        have hvi : v / 10 ^ i < 2147483648 := Nat.lt_of_le_of_lt (Nat.div_le_self _ _) (by omega)
        have ed : nI (v / 10 ^ i) / nI 10 = nI (v / 10 ^ (i + 1)) := by
          rw [pk_div hvi (by omega) (by omega), Nat.div_div_eq_div_mul, Nat.pow_succ]
        have hm : v / 10 ^ i % 10 < 10 := Nat.mod_lt _ (by decide)
        simp (disch := omega) only [li, nI_add, pk_mul, ix_n, lt_n, le_n, eq_n, sub_n, dec_n, inb_t, neg_n, neg_n', ck_true, stp_eq, bnd_some, wp_some, wp_stp, Nat.add_zero, Nat.lt_irrefl, Nat.reduceEqDiff, Nat.reduceAdd, Nat.reduceSub, Nat.reduceMul, Nat.reduceLT, Nat.reduceLeDiff, up_o, up_ss, up_sn, zb_n1, true_and, and_true, ↓reduceIte, e16, hn, irem_n, i2b_n, ed]
        refine k _ hl2 ⟨up h3 17 (l.length + (dgL 5 v).length - 1 - i) (nI (48 + v / 10 ^ i % 10)), ?_, fun q hq => ?_, fun j x hx hj => ?_, fun q hq => by rw [up_o hq]; exact a3 q hq⟩
        · refine Prod.ext rfl (Prod.ext ?_ rfl)
          show nI (l.length + (dgL 5 v).length - 1 - i) + -nI 1 = _
          by_cases z : i + 1 < (dgL 5 v).length ∨ 0 < l.length
          · rw [if_pos z, dec_n (by omega), Nat.sub_sub]
          · rw [if_neg z, show l.length + (dgL 5 v).length - 1 - i = 0 by omega]
            show nI 0 + -nI 1 = -nI 1
            decide
        · rw [up_sn (by omega)]; exact a1 q hq
        · by_cases e : j + 1 + i = (dgL 5 v).length
          · have e2 : l.length + j = l.length + (dgL 5 v).length - 1 - i := by omega
            rw [e2, up_ss, dgL_g 5 v j x hx, show (dgL 5 v).length - 1 - j = i by omega]
          · rw [up_sn (by omega)]; exact a2 j x hx (by omega)
      · have e : i = (dgL 5 v).length := by omega
        unfold J_X2_putNumber_78
        have hlt : (if i < (dgL 5 v).length ∨ 0 < l.length then nI (l.length + (dgL 5 v).length - 1 - i) else -nI 1) < nI l.length := by
          by_cases z : 0 < l.length
          · rw [if_pos (Or.inr z)]
            exact (nI_ltI (by omega) (by omega)).mpr (by omega)
          · rw [if_neg (by omega), show l.length = 0 by omega]
            decide
        show Wp (if (if i < (dgL 5 v).length ∨ 0 < l.length then nI (l.length + (dgL 5 v).length - 1 - i) else -nI 1) < h3 16 1 then _ else _) _
        rw [e16, if_pos hlt]
        refine wp_some.mpr ⟨⟨?_, fun p x hx => ?_⟩, fun q b1 b2 => by rw [up_o b1]; exact a3 q b2⟩
        · rw [up_ss, List.length_append]
        · rw [up_o (by decide)]
          by_cases z : p < l.length
          · rw [List.getElem?_append_left z] at hx
            rw [a1 p z]
            exact t2 p x hx
          · rw [List.getElem?_append_right (by omega)] at hx
            have := a2 (p - l.length) x hx (by omega)
            rw [show l.length + (p - l.length) = p by omega] at this
            exact this
  unfold f_X2_putNumber
  refine wp_for (i := 0) 5 (fun i s => s = (nI i, nI (v / 10 ^ i)) ∧ (i = 0 ∨ 0 < v / 10 ^ i) ∧ i < 5) (by omega) (by omega) ⟨by rw [Nat.pow_zero, Nat.div_one]; rfl, Or.inl rfl, by omega⟩ ?_
  rintro i s r hi ⟨rfl, h1, h2⟩ k
  have hvi : v / 10 ^ i < 2147483648 := Nat.lt_of_le_of_lt (Nat.div_le_self _ _) (by omega)
  have hvi2 : v / 10 ^ (i + 1) < 2147483648 := Nat.lt_of_le_of_lt (Nat.div_le_self _ _) (by omega)
  have ed : nI (v / 10 ^ i) / nI 10 = nI (v / 10 ^ (i + 1)) := by
    rw [pk_div hvi (by omega) (by omega), Nat.div_div_eq_div_mul, Nat.pow_succ]
  unfold F_X2_putNumber_4
  simp (disch := omega) only [li, nI_add, pk_mul, ix_n, lt_n, le_n, eq_n, sub_n, dec_n, inb_t, neg_n, neg_n', ck_true, stp_eq, bnd_some, wp_some, wp_stp, Nat.add_zero, Nat.lt_irrefl, Nat.reduceEqDiff, Nat.reduceAdd, Nat.reduceSub, Nat.reduceMul, Nat.reduceLT, Nat.reduceLeDiff, up_o, up_ss, up_sn, zb_n1, true_and, and_true, ↓reduceIte, ed]
  refine wp_if (fun z => ?_) (fun z => ?_)
  · have z : v / 10 ^ (i + 1) = 0 := Nat.le_zero.mp z
    rw [← dgL_n 5 v i h1 z (by omega)]
    exact fin
  · refine wp_if (fun y => ?_) (fun y => ?_)
    · exact k _ (by omega) ⟨rfl, Or.inr (Nat.lt_of_not_le z), y⟩
    · exfalso
      have e : i = 4 := by omega
      subst e
      have : v / 10 ^ (4 + 1) = 0 := Nat.div_eq_of_lt hv
      exact z (Nat.le_of_eq this)
end
