/-! a word comes into its place -/
def mv (R : Nat → Nat → Nat) (k w : Nat) : Nat := if k = 0 then R 3 w else if k = 1 then n27 (R 2 w) else if k = 2 then R 4 w else R 5 w
def G4 (g : Hp) (R : Nat → Nat → Nat) (n i : Nat) : Prop := ∀ j k, j ≤ n → ¬ j = i → k < 4 → g 127 (9 + 4 * j + k) = nI (mv R k (if i < j then j - 1 else j))
def insAt (R : Nat → Nat → Nat) (st sp t : Nat) : Prop := t ≤ R 0 4 ∧ (∀ w, t ≤ w → w < R 0 4 → bef R st sp w) ∧ (t = 0 ∨ ¬ bef R st sp (t - 1))
section
variable {h g : Hp} {c : Nat} {R : Nat → Nat → Nat} {t tx sp st en : Nat}
theorem insAt_u {t' : Nat} (h1 : insAt R st sp t) (h2 : insAt R st sp t') : t = t' := by
  obtain ⟨a1, a2, a3⟩ := h1
  obtain ⟨b1, b2, b3⟩ := h2
  rcases Nat.lt_trichotomy t t' with z | z | z
  · rcases b3 with y | y
    · omega
    · exact absurd (a2 (t' - 1) (by omega) (by omega)) y
  · exact z
  · rcases a3 with y | y
    · omega
    · exact absurd (b2 (t - 1) (by omega) (by omega)) y
theorem ins_2 (j : Nat) : insR R t tx sp st en 2 j = if j = t then tx else shR R t (R 0 4) 2 j := by
  unfold insR
  rw [setE_o (by decide), setE_o (by decide), setE_o (by decide), setE_o (by decide)]
  unfold setE
  rw [if_pos rfl]
theorem ins_3 (j : Nat) : insR R t tx sp st en 3 j = if j = t then sp else shR R t (R 0 4) 3 j := by
  unfold insR
  rw [setE_o (by decide), setE_o (by decide), setE_o (by decide)]
  by_cases e : j = t
  · subst e; rw [setE_s, if_pos rfl]
  · rw [setE_n e, setE_n e, if_neg e]
theorem ins_4 (j : Nat) : insR R t tx sp st en 4 j = if j = t then st else shR R t (R 0 4) 4 j := by
  unfold insR
  rw [setE_o (by decide), setE_o (by decide)]
  by_cases e : j = t
  · subst e; rw [setE_s, if_pos rfl]
  · rw [setE_n e, setE_n e, setE_n e, if_neg e]
theorem ins_5 (j : Nat) : insR R t tx sp st en 5 j = if j = t then en else shR R t (R 0 4) 5 j := by
  unfold insR
  rw [setE_o (by decide)]
  by_cases e : j = t
  · subst e; rw [setE_s, if_pos rfl]
  · rw [setE_n e, setE_n e, setE_n e, setE_n e, if_neg e]
theorem ins_n : insR R t tx sp st en 0 4 = R 0 4 + 1 := setE_s _ _ _ _
theorem ins_0 {o j : Nat} (h : ¬ (2 ≤ o ∧ o ≤ 5)) (h2 : ¬ (o = 0 ∧ j = 4)) : insR R t tx sp st en o j = R o j := by
  unfold insR
  have e1 : setE (setE (setE (setE (setE (shR R t (R 0 4)) 2 t tx) 3 t sp) 4 t st) 5 t en) 0 4 (R 0 4 + 1) o j = setE (setE (setE (setE (shR R t (R 0 4)) 2 t tx) 3 t sp) 4 t st) 5 t en o j := by
    by_cases e : o = 0
    · rw [setE_n (fun y => h2 ⟨e, y⟩)]
    · rw [setE_o e]
  rw [e1, setE_o (by omega), setE_o (by omega), setE_o (by omega), setE_o (by omega), shR_o (by omega)]
theorem WD.ins (hD : WD R) (ht : insAt R st sp t) (h40 : R 0 4 < 40) (htx : isName tx) (hsp : sp < R 0 2) (hse : st < en) (hen : en ≤ 99999) : WD (insR R t tx sp st en) := by
  obtain ⟨t1, t2, t3⟩ := ht
  have sh : ∀ o j, 2 ≤ o → o ≤ 5 → j < R 0 4 + 1 → ¬ j = t → ∃ w, w < R 0 4 ∧ (∀ o, 2 ≤ o → o ≤ 5 → shR R t (R 0 4) o j = R o w) ∧ ((j < t ∧ w = j) ∨ (t < j ∧ w = j - 1)) := by
    intro o j _ _ hj hjt
    by_cases y : t < j
    · exact ⟨j - 1, by omega, fun o a b => shR_i ⟨a, b, y, by omega⟩, Or.inr ⟨y, rfl⟩⟩
    · exact ⟨j, by omega, fun o a b => shR_o (by omega), Or.inl ⟨by omega, rfl⟩⟩
  refine ⟨?_, ?_, ?_, ?_, ?_, ?_, fun s hs => ?_, fun w hw => ?_, fun w hw => ?_, fun w hw => ?_, fun i hi => ?_, (by rw [ins_0 (by decide) (by decide)]; exact hD.b0)⟩
  · rw [ins_0 (by decide) (by decide)]; exact hD.len0
  · rw [ins_0 (by decide) (by decide)]; exact hD.len
  · rw [ins_0 (by decide) (by decide)]; exact hD.han
  · rw [ins_0 (by decide) (by decide)]; exact hD.s4
  · rw [ins_n]; omega
  · rw [ins_0 (by decide) (by decide)]; exact hD.br
  · rw [ins_0 (by decide) (by decide)] at hs
    rw [ins_0 (by decide) (by omega)]; exact hD.nm s hs
  · rw [ins_n] at hw
    rw [ins_2]
    by_cases e : w = t
    · rw [if_pos e]; exact htx
    · obtain ⟨w', a1, a2, a3⟩ := sh 2 w (by decide) (by decide) hw e
      rw [if_neg e, a2 2 (by decide) (by decide)]
      exact hD.tx w' a1
  · rw [ins_n] at hw
    rw [ins_3, ins_4, ins_5, ins_0 (by decide) (by decide)]
    by_cases e : w = t
    · rw [if_pos e, if_pos e, if_pos e]; exact ⟨hse, hen, hsp⟩
    · obtain ⟨w', a1, a2, a3⟩ := sh 2 w (by decide) (by decide) hw e
      rw [if_neg e, if_neg e, if_neg e, a2 3 (by decide) (by decide), a2 4 (by decide) (by decide), a2 5 (by decide) (by decide)]
      exact hD.wd w' a1
  · rw [ins_n] at hw
    rw [ins_4, ins_4]
    have bf : ∀ w, bef R st sp w → st ≤ R 4 w := fun w z => by rcases z with z | z <;> omega
    have nbf : ∀ w, ¬ bef R st sp w → R 4 w ≤ st := fun w z => by
      apply Classical.byContradiction
      intro y
      exact z (Or.inl (by omega))
    by_cases e : w = t
    · rw [if_pos e, if_neg (by omega), shR_i (by omega)]
      exact bf _ (t2 _ (by omega) (by omega))
    · by_cases e2 : w + 1 = t
      · rw [if_neg e, if_pos e2, shR_o (by omega)]
        rcases t3 with y | y
        · omega
        · have := nbf _ y
          rw [show t - 1 = w by omega] at this
          exact this
      · rw [if_neg e, if_neg e2]
        by_cases y : t < w
        · rw [shR_i (by omega), shR_i (by omega)]
          have := hD.srt (w - 1) (by omega)
          rw [show w - 1 + 1 = w by omega] at this
          exact this
        · rw [shR_o (by omega), shR_o (by omega)]
          exact hD.srt w (by omega)
  · rw [ins_0 (by decide) (by decide)] at hi
    rw [ins_0 (by decide) (by omega), ins_0 (by decide) (by omega)]; exact hD.bb i hi
theorem c_bef (hC : CR h c R) {w : Nat} (hw : w < 40) (hst : st < 1000000) (hsp : sp < 1000000) (h4 : R 4 w < 1000000) (h3 : R 3 w < 1000000) : f_X4_isBefore h c (nI st) (nI sp) (nI w) = some (nI (bo (bef R st sp w))) := by
  have e3 : h (c + 3) w = nI (R 3 w) := hC.o 3 w (by omega)
  have e4 : h (c + 4) w = nI (R 4 w) := hC.o 4 w (by omega)
  refine wp_eq.mp ?_
  unfold f_X4_isBefore
  simp (disch := omega) only [li, nI_add, pk_mul, ix_n, lt_n, le_n, eq_n, sub_n, dec_n, inb_t, neg_n, neg_n', ck_true, stp_eq, bnd_some, wp_some, wp_stp, Nat.add_zero, Nat.lt_irrefl, Nat.reduceEqDiff, Nat.reduceAdd, Nat.reduceSub, Nat.reduceMul, Nat.reduceLT, Nat.reduceLeDiff, up_o, up_ss, up_sn, zb_n1, true_and, and_true, ↓reduceIte, e3, e4]
  refine wp_if (fun y => ?_) (fun y => ?_)
  · refine wp_if (fun z => ?_) (fun z => ?_)
    · rw [wp_some, bo_y (show bef R st sp w from Or.inr ⟨y, z⟩)]
    · rw [wp_some, bo_n (fun v => by rcases v with v | v <;> omega)]
  · refine wp_if (fun z => ?_) (fun z => ?_)
    · rw [wp_some, bo_y (show bef R st sp w from Or.inl z)]
    · rw [wp_some, bo_n (fun v => by rcases v with v | v <;> omega)]
theorem sh_step {i n : Nat} (hi : 0 < i) (hin : i ≤ n) : setE (setE (setE (setE (shR R i n) 2 i (R 2 (i - 1))) 3 i (R 3 (i - 1))) 4 i (R 4 (i - 1))) 5 i (R 5 (i - 1)) = shR R (i - 1) n := by
  funext o j
  by_cases e : 2 ≤ o ∧ o ≤ 5
  · by_cases ej : j = i
    · subst ej
      rw [shR_i (by omega)]
      have : o = 2 ∨ o = 3 ∨ o = 4 ∨ o = 5 := by omega
      rcases this with rfl | rfl | rfl | rfl
      · rw [setE_o (by decide), setE_o (by decide), setE_o (by decide), setE_s]
      · rw [setE_o (by decide), setE_o (by decide), setE_s]
      · rw [setE_o (by decide), setE_s]
      · rw [setE_s]
    · rw [setE_n ej, setE_n ej, setE_n ej, setE_n ej]
      by_cases y : i < j ∧ j ≤ n
      · rw [shR_i (by omega), shR_i (by omega)]
      · rw [shR_o (by omega), shR_o (by omega)]
  · rw [setE_o (by omega), setE_o (by omega), setE_o (by omega), setE_o (by omega), shR_o (by omega), shR_o (by omega)]
theorem c_addWord (hC : CR h c R) (hD : WD R) (h40 : R 0 4 < 40) (hst : st < 1000000) (hsp : sp < 1000000) : Wp (f_X4_addWord h c (nI tx) (nI sp) (nI st) (nI en)) (fun u => ∃ t, insAt R st sp t ∧ CR u c (insR R t tx sp st en) ∧ ∀ k, ¬ (c ≤ k ∧ k ≤ c + 13) → u k = h k) := by
  have hs4 := hD.s4
  unfold f_X4_addWord
  rw [hC.z, if_pos (show nI (R 0 4) < 40 from (nI_ltI (b := 40) (by omega) (by omega)).mpr h40), stp_eq]
  refine wp_for (i := 0) (R 0 4) (fun y s => ∃ h1, s = (nI (R 0 4 - y), h1) ∧ CR h1 c (shR R (R 0 4 - y) (R 0 4)) ∧ (∀ w, R 0 4 - y ≤ w → w < R 0 4 → bef R st sp w) ∧ ∀ k, ¬ (c ≤ k ∧ k ≤ c + 13) → h1 k = h k) (by omega) (by omega) ⟨h, rfl, ?_, fun w a b => by omega, fun _ _ => rfl⟩ ?_
  · have : shR R (R 0 4 - 0) (R 0 4) = R := by
      funext o j
      exact shR_o (by omega)
    rw [this]
    exact hC
  · rintro y s r hy ⟨h1, rfl, C1, hb, fr⟩ k
    have fin : (R 0 4 - y = 0 ∨ ¬ bef R st sp (R 0 4 - y - 1)) → Wp (J_X4_addWord_104 c (nI tx) (nI sp) (nI st) (nI en) h1 (nI (R 0 4 - y))) (fun u => ∃ t, insAt R st sp t ∧ CR u c (insR R t tx sp st en) ∧ ∀ k, ¬ (c ≤ k ∧ k ≤ c + 13) → u k = h k) := by
      intro hf
      unfold J_X4_addWord_104
      have C5 := (((C1.put (o := 2) (j := R 0 4 - y) (v := tx) (by omega)).put (o := 3) (j := R 0 4 - y) (v := sp) (by omega)).put (o := 4) (j := R 0 4 - y) (v := st) (by omega)).put (o := 5) (j := R 0 4 - y) (v := en) (by omega)
      have e4 : shR R (R 0 4 - y) (R 0 4) 0 4 = R 0 4 := shR_o (by omega)
      have e5 := C5.z 4
      rw [setE_o (by decide), setE_o (by decide), setE_o (by decide), setE_o (by decide), e4] at e5
      rw [inb_t (show R 0 4 - y < 40 by omega) (by omega), ix_n (show R 0 4 - y < 2147483648 by omega), ck_true, stp_eq, ck_true, stp_eq, ck_true, stp_eq, ck_true, stp_eq, e5, show nI (R 0 4) + 1 = nI (R 0 4 + 1) from nI_add _ 1, stp_eq]
      refine wp_some.mpr ⟨R 0 4 - y, ⟨by omega, hb, hf⟩, C5.put (o := 0) (by omega), fun k hk => ?_⟩
      rw [up_o (by omega), up_o (by omega), up_o (by omega), up_o (by omega), up_o (by omega)]
      exact fr k hk
    unfold F_X4_addWord_16
    by_cases z : y < R 0 4
    · have i0 : ¬ R 0 4 - y ≤ 0 := by omega
      have wd := hD.wd (R 0 4 - y - 1) (by omega)
      have e43 : shR R (R 0 4 - y) (R 0 4) 4 (R 0 4 - y - 1) = R 4 (R 0 4 - y - 1) := shR_o (by omega)
      have e33 : shR R (R 0 4 - y) (R 0 4) 3 (R 0 4 - y - 1) = R 3 (R 0 4 - y - 1) := shR_o (by omega)
      have e23 : shR R (R 0 4 - y) (R 0 4) 2 (R 0 4 - y - 1) = R 2 (R 0 4 - y - 1) := shR_o (by omega)
      have e53 : shR R (R 0 4 - y) (R 0 4) 5 (R 0 4 - y - 1) = R 5 (R 0 4 - y - 1) := shR_o (by omega)
      have hbf : f_X4_isBefore h1 c (nI st) (nI sp) (nI (R 0 4 - y - 1)) = some (nI (bo (bef R st sp (R 0 4 - y - 1)))) := by
        have := c_bef C1 (w := R 0 4 - y - 1) (st := st) (sp := sp) (by omega) hst hsp (by rw [e43]; omega) (by rw [e33]; omega)
        rw [this]
        unfold bef
        rw [e43, e33]
      show Wp (if nI (R 0 4 - y) ≤ nI 0 then _ else bnd (f_X4_isBefore h1 c (nI st) (nI sp) (nI (R 0 4 - y) - nI 1)) _) _
      rw [if_neg (show ¬ nI (R 0 4 - y) ≤ nI 0 from fun v => i0 ((nI_leI (by omega) (by omega)).mp v)), sub_n (by omega), hbf, bnd_some]
      by_cases b : bef R st sp (R 0 4 - y - 1)
      · rw [bo_y b, if_neg (show ¬ (nI 1 : Int32) = 0 by decide)]
        have a2 : h1 (c + 2) (R 0 4 - y - 1) = nI (R 2 (R 0 4 - y - 1)) := by rw [C1.o 2 _ (by omega), e23]
        have a3 : h1 (c + 3) (R 0 4 - y - 1) = nI (R 3 (R 0 4 - y - 1)) := by rw [C1.o 3 _ (by omega), e33]
        have a4 : h1 (c + 4) (R 0 4 - y - 1) = nI (R 4 (R 0 4 - y - 1)) := by rw [C1.o 4 _ (by omega), e43]
        have a5 : h1 (c + 5) (R 0 4 - y - 1) = nI (R 5 (R 0 4 - y - 1)) := by rw [C1.o 5 _ (by omega), e53]
        simp (disch := omega) only [li, nI_add, pk_mul, ix_n, lt_n, le_n, eq_n, sub_n, dec_n, inb_t, neg_n, neg_n', ck_true, stp_eq, bnd_some, wp_some, wp_stp, Nat.add_zero, Nat.lt_irrefl, Nat.reduceEqDiff, Nat.reduceAdd, Nat.reduceSub, Nat.reduceMul, Nat.reduceLT, Nat.reduceLeDiff, up_o, up_ss, up_sn, zb_n1, true_and, and_true, ↓reduceIte, a2, a3, a4, a5]
        have C5 := (((C1.put (o := 2) (j := R 0 4 - y) (v := R 2 (R 0 4 - y - 1)) (by omega)).put (o := 3) (j := R 0 4 - y) (v := R 3 (R 0 4 - y - 1)) (by omega)).put (o := 4) (j := R 0 4 - y) (v := R 4 (R 0 4 - y - 1)) (by omega)).put (o := 5) (j := R 0 4 - y) (v := R 5 (R 0 4 - y - 1)) (by omega)
        rw [sh_step (by omega) (by omega)] at C5
        rw [show R 0 4 - y - 1 = R 0 4 - (y + 1) by omega] at C5 b ⊢
        refine k _ z ⟨_, rfl, C5, fun w a d => ?_, fun k hk => ?_⟩
        · by_cases e : w = R 0 4 - (y + 1)
          · rw [e]; exact b
          · exact hb w (by omega) d
        · rw [up_o (by omega), up_o (by omega), up_o (by omega), up_o (by omega)]
          exact fr k hk
      · rw [bo_n b, if_pos (show (nI 0 : Int32) = 0 from rfl)]
        exact fin (Or.inr b)
    · have i0 : R 0 4 - y ≤ 0 := by omega
      show Wp (if nI (R 0 4 - y) ≤ nI 0 then _ else _) _
      rw [if_pos (show nI (R 0 4 - y) ≤ nI 0 from (nI_leI (by omega) (by omega)).mpr i0)]
      exact fin (Or.inl (by omega))
end
