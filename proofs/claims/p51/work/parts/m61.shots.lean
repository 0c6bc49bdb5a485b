/-! shotsToCut -/
/-- the first of i places with the greatest value -/
def gI (v : Nat → Nat) (i : Nat) : Nat := Nat.rec (motive := fun _ => Nat) 0 (fun k r => if v r < v k then k else r) i
theorem gI_s (v : Nat → Nat) (i : Nat) : gI v (i + 1) = if v (gI v i) < v i then i else gI v i := rfl
theorem gI_1 (v : Nat → Nat) : gI v 1 = 0 := by
  rw [gI_s]
  split <;> rfl
theorem gI_p (v : Nat → Nat) : ∀ i, (0 < i → gI v i < i) ∧ (∀ j, j < i → v j ≤ v (gI v i)) ∧ (∀ j, j < gI v i → v j < v (gI v i)) := by
  intro i
  induction i with
  | zero => exact ⟨fun h => absurd h (Nat.lt_irrefl _), fun j h => absurd h (Nat.not_lt_zero _), fun j h => absurd h (Nat.not_lt_zero _)⟩
  | succ i ih =>
    obtain ⟨h1, h2, h3⟩ := ih
    rw [gI_s]
    by_cases q : v (gI v i) < v i
    · rw [if_pos q]
      refine ⟨fun _ => by omega, fun j hj => ?_, fun j hj => ?_⟩
      · by_cases e : j = i
        · rw [e]; exact Nat.le_refl _
        · have := h2 j (by omega); omega
      · have := h2 j hj; omega
    · rw [if_neg q]
      refine ⟨fun _ => ?_, fun j hj => ?_, h3⟩
      · by_cases z : 0 < i
        · have := h1 z; omega
        · have : i = 0 := by omega
          subst this
          exact Nat.zero_lt_one
      · by_cases e : j = i
        · rw [e]; omega
        · exact h2 j (by omega)
/-- values of the shots that are left -/
noncomputable def vU (f : Nat → Nat) (U : List Nat) (s : Nat) : Nat := @ite _ (s ∈ U) (Classical.propDecidable _) (f s) 0
theorem vU_y {f : Nat → Nat} {U : List Nat} {s : Nat} (h : s ∈ U) : vU f U s = f s := if_pos h
theorem vU_n {f : Nat → Nat} {U : List Nat} {s : Nat} (h : ¬ s ∈ U) : vU f U s = 0 := if_neg h
/-- the shots that are left behind i takings -/
noncomputable def US (f : Nat → Nat) (n i : Nat) : List Nat := Nat.rec (motive := fun _ => List Nat) (List.range n) (fun _ U => U.filter (fun y => y != gI (vU f U) n)) i
theorem US_s (f : Nat → Nat) (n i : Nat) : US f n (i + 1) = (US f n i).filter (fun y => y != gI (vU f (US f n i)) n) := rfl
theorem US_p (f : Nat → Nat) (n : Nat) : ∀ i, (US f n i).Pairwise (fun a b => a < b) ∧ ∀ s ∈ US f n i, s < n := by
  intro i
  induction i with
  | zero => exact ⟨List.pairwise_lt_range, fun s hs => List.mem_range.mp hs⟩
  | succ i ih =>
    rw [US_s]
    exact ⟨List.Pairwise.filter _ ih.1, fun s hs => ih.2 s (List.mem_filter.mp hs).1⟩
theorem US_nd (f : Nat → Nat) (n i : Nat) : (US f n i).Nodup := by
  have h := (US_p f n i).1
  exact h.imp (fun {a b} hab => Nat.ne_of_lt hab)
theorem US_g {f : Nat → Nat} {n i : Nat} (hf : ∀ s, s < n → 1 ≤ f s) (hU : US f n i ≠ []) : gI (vU f (US f n i)) n ∈ US f n i := by
  obtain ⟨h1, h2⟩ := US_p f n i
  obtain ⟨p1, p2, p3⟩ := gI_p (vU f (US f n i)) n
  apply Classical.byContradiction
  intro z
  cases hc : US f n i with
  | nil => exact hU hc
  | cons a t =>
    have ha : a ∈ US f n i := by rw [hc]; exact List.mem_cons_self
    have han := h2 a ha
    have h3 := p2 a han
    have e1 : vU f (US f n i) (gI (vU f (US f n i)) n) = 0 := if_neg z
    have e2 : vU f (US f n i) a = f a := if_pos ha
    have := hf a han
    omega
theorem US_len {f : Nat → Nat} {n : Nat} (hf : ∀ s, s < n → 1 ≤ f s) : ∀ i, (US f n i).length ≤ n - i := by
  intro i
  induction i with
  | zero => show (List.range n).length ≤ _; rw [List.length_range]; omega
  | succ i ih =>
    by_cases hU : US f n i = []
    · rw [US_s, hU]
      exact Nat.zero_le _
    · have hg := US_g hf hU
      rw [US_s]
      obtain ⟨j, hj1, hj2⟩ := List.getElem_of_mem hg
      rw [filter_erase _ j (US_nd f n i) (by rw [List.getElem?_eq_getElem hj1, hj2]), List.length_eraseIdx, if_pos hj1]
      omega
/-- the first greatest of the rest stands where the row's first greatest is -/
theorem US_b {f : Nat → Nat} {n i : Nat} (hf : ∀ s, s < n → 1 ≤ f s) (hU : US f n i ≠ []) : (US f n i)[gI (fun j => f ((US f n i).getD j 0)) (US f n i).length]? = some (gI (vU f (US f n i)) n) := by
  obtain ⟨h1, h2⟩ := US_p f n i
  obtain ⟨p1, p2, p3⟩ := gI_p (vU f (US f n i)) n
  have hg := US_g hf hU
  generalize hUU : US f n i = U at *
  have hpos : 0 < U.length := List.length_pos_iff.mpr hU
  obtain ⟨r1, r2, r3⟩ := gI_p (fun j => f (U.getD j 0)) U.length
  obtain ⟨b', hb1, hb2⟩ := List.getElem_of_mem hg
  have hb3 : U[b']? = some (gI (vU f U) n) := by rw [List.getElem?_eq_getElem hb1, hb2]
  have hD : ∀ j y, U[j]? = some y → U.getD j 0 = y := fun j y h => by rw [List.getD_eq_getElem?_getD, h]; rfl
  have hlt := r1 hpos
  obtain ⟨y, hy⟩ := lget hlt
  have hyU := List.mem_of_getElem? hy
  have e1 : vU f U y = f y := if_pos hyU
  have e2 : vU f U (gI (vU f U) n) = f (gI (vU f U) n) := if_pos hg
  have q1 := p2 y (h2 y hyU)
  have q2 := r2 b' hb1
  have q2 : f (U.getD b' 0) ≤ f (U.getD (gI (fun j => f (U.getD j 0)) U.length) 0) := q2
  rw [hD _ _ hb3, hD _ _ hy] at q2
  rcases Nat.lt_trichotomy b' (gI (fun j => f (U.getD j 0)) U.length) with z | z | z
  · have q3 : f (U.getD b' 0) < f (U.getD (gI (fun j => f (U.getD j 0)) U.length) 0) := r3 b' z
    rw [hD _ _ hb3, hD _ _ hy] at q3
    omega
  · rw [← z]; exact hb3
  · rw [List.pairwise_iff_getElem] at h1
    obtain ⟨hy1, hy2⟩ := List.getElem?_eq_some_iff.mp hy
    have q4 := h1 _ b' hy1 hb1 z
    rw [hy2, hb2] at q4
    have := p3 y q4
    omega
theorem sum_pos {f : Nat → Nat} : ∀ U : List Nat, 0 < (U.map f).sum → U ≠ [] := by
  intro U h e
  rw [e] at h
  exact absurd h (Nat.lt_irrefl _)
def UE (E : Nat → Nat → Nat) (U : List Nat) : Nat → Nat → Nat := fun a j => if a = 0 then U.length else if a = 2 then E 2 (U.getD j 0) else E a j
section
variable {h g : Hp} {c : Nat} {R E : Nat → Nat → Nat} {d x : Nat} {hi : Nat → Nat → Nat → Nat}
theorem ordL_UE {U : List Nat} : ordL (UE E U) = U.map (E 2) := by
  apply List.ext_getElem?
  intro i
  by_cases hi : i < U.length
  · have e : (ordL (UE E U))[i]? = some (UE E U 2 i) := ordL_get hi
    obtain ⟨y, hy⟩ := lget hi
    rw [e, List.getElem?_map, hy]
    show some (E 2 (U.getD i 0)) = some (E 2 y)
    rw [List.getD_eq_getElem?_getD, hy]
    rfl
  · rw [List.getElem?_eq_none (by rw [ordL_len]; show U.length ≤ i; omega), List.getElem?_eq_none (by rw [List.length_map]; omega)]
theorem UE_WE (hE : WE R E) {U : List Nat} (h1 : U.Pairwise (fun a b => a < b)) (h2 : ∀ s ∈ U, s < E 0 1) : WE R (UE E U) := by
  have hnd : U.Nodup := h1.imp (fun {a b} hab => Nat.ne_of_lt hab)
  have hD : ∀ j, j < U.length → ∃ y, U[j]? = some y ∧ U.getD j 0 = y ∧ y < E 0 1 := fun j hj => by
    obtain ⟨y, hy⟩ := lget hj
    exact ⟨y, hy, by rw [List.getD_eq_getElem?_getD, hy]; rfl, h2 y (List.mem_of_getElem? hy)⟩
  refine ⟨?_, fun s hs => ?_, fun s t hs ht e => ?_, hE.k1, hE.hd, hE.tl, hE.fl⟩
  · have := nodup_len (E 0 1) U hnd h2
    have := hE.n
    show U.length ≤ _
    omega
  · obtain ⟨y, a1, a2, a3⟩ := hD s hs
    show E 2 (U.getD s 0) < _
    rw [a2]; exact hE.lt y a3
  · obtain ⟨y, a1, a2, a3⟩ := hD s hs
    obtain ⟨z, b1, b2, b3⟩ := hD t ht
    have e : E 2 (U.getD s 0) = E 2 (U.getD t 0) := e
    rw [a2, b2] at e
    have := hE.inj y z a3 b3 e
    subst this
    exact nodup_get hnd a1 b1
theorem fs_UE {U : List Nat} : fs R (UE E U) (UE E U 0 1) = (U.map (fun s => plE R E (E 2 s))).sum := by
  rw [fs_L, ordL_UE, List.map_map]
  rfl
theorem fs_U0 : ((List.range (E 0 1)).map (fun s => plE R E (E 2 s))).sum = fs R E (E 0 1) := sm_range _ _
theorem pl_pos (hW : WR R) (hE : WE R E) {s : Nat} (hs : s < E 0 1) : 1 ≤ plE R E (E 2 s) ∧ plE R E (E 2 s) ≤ 99999 := by
  have := p_facts hW hE (hE.lt s hs)
  unfold plE
  omega
theorem sum_le (hW : WR R) (hE : WE R E) (i : Nat) : ((US (fun s => plE R E (E 2 s)) (E 0 1) i).map (fun s => plE R E (E 2 s))).sum ≤ fs R E (E 0 1) := by
  induction i with
  | zero => exact Nat.le_of_eq fs_U0
  | succ i ih =>
    rw [US_s, sum_filter]
    refine Nat.le_trans ?_ ih
    generalize US (fun s => plE R E (E 2 s)) (E 0 1) i = U
    have : ∀ (p : Nat → Bool) (f : Nat → Nat) (U : List Nat), (U.map (fun b => if p b = true then f b else 0)).sum ≤ (U.map f).sum := by
      intro p f U
      induction U with
      | nil => exact Nat.le_refl _
      | cons a t ih =>
        rw [List.map_cons, List.sum_cons, List.map_cons, List.sum_cons]
        split <;> omega
    exact this _ _ _
/-- how many are taken -/
noncomputable def KK (R E : Nat → Nat → Nat) (len : Nat) : Nat := sch (fun i => ((US (fun s => plE R E (E 2 s)) (E 0 1) i).map (fun s => plE R E (E 2 s))).sum ≤ len) (E 0 1)
theorem KK_p (hW : WR R) (hE : WE R E) {len i : Nat} (hi : i ≤ KK R E len) : (i < KK R E len → len < ((US (fun s => plE R E (E 2 s)) (E 0 1) i).map (fun s => plE R E (E 2 s))).sum) ∧ (i = KK R E len → ((US (fun s => plE R E (E 2 s)) (E 0 1) i).map (fun s => plE R E (E 2 s))).sum ≤ len) := by
  obtain ⟨a1, a2, a3⟩ := sch_spec (fun i => ((US (fun s => plE R E (E 2 s)) (E 0 1) i).map (fun s => plE R E (E 2 s))).sum ≤ len) (E 0 1)
  refine ⟨fun h => ?_, fun h => ?_⟩
  · have := a2 i h
    exact Nat.lt_of_not_le this
  · rw [h]
    by_cases z : KK R E len < E 0 1
    · exact a3 z
    · have e : KK R E len = E 0 1 := Nat.le_antisymm a1 (by omega)
      have hl := US_len (f := fun s => plE R E (E 2 s)) (n := E 0 1) (fun s hs => (pl_pos hW hE hs).1) (E 0 1)
      rw [Nat.sub_self] at hl
      rw [e, List.length_eq_zero_iff.mp (Nat.le_zero.mp hl)]
      exact Nat.zero_le _
theorem c_countShotsBeyond (hW : WR R) (hE : WE R E) (hD : CE h E) (hF : CF h R E) {len : Nat} (hlen : len < 2147483648) : Wp (f_X1_countShotsBeyond h (nI len)) (fun u => u.1 = nI (KK R E len) ∧ ∀ k, ¬ k = 12 → u.2 k = h k) := by
  have hn := hE.n
  have hbw := hW.bw
  have h40 := hW.w40
  have hfl := fs_le hW hE (Nat.le_refl (E 0 1))
  unfold f_X1_countShotsBeyond
  refine wp_for (i := 0) (E 0 1) (fun i s => ∃ h1, s = (nI i, h1) ∧ (∀ j, j < i → h1 12 j = nI (plE R E (E 2 j))) ∧ ∀ k, ¬ k = 12 → h1 k = h k) (by omega) (by omega) ⟨h, rfl, fun j hj => absurd hj (Nat.not_lt_zero _), fun _ _ => rfl⟩ ?_
  rintro i s r hi2 ⟨h1, rfl, a1, a2⟩ k
  have D1 : CE h1 E := hD.fr (fun k a b => a2 k (by omega))
  have F1 : CF h1 R E := by
    unfold CF
    rw [a2 3 (by decide), a2 4 (by decide), a2 5 (by decide), a2 6 (by decide), a2 7 (by decide), a2 8 (by decide), a2 9 (by decide), a2 10 (by decide), a2 11 (by decide)]
    exact hF
  unfold F_X1_countShotsBeyond_2
  by_cases hl : i < E 0 1
  · simp (disch := omega) only [li, nI_add, pk_mul, ix_n, lt_n, le_n, eq_n, sub_n, dec_n, inb_t, neg_n, neg_n', ck_true, stp_eq, bnd_some, wp_some, wp_stp, Nat.add_zero, Nat.lt_irrefl, Nat.reduceEqDiff, Nat.reduceAdd, Nat.reduceSub, Nat.reduceMul, Nat.reduceLT, Nat.reduceLeDiff, up_o, up_ss, up_sn, zb_n1, true_and, and_true, ↓reduceIte, D1.z, hl, c_framesOfShot hW hE F1 hl]
    refine k _ hl ⟨_, rfl, fun j hj => ?_, fun q hq => by rw [up_o hq]; exact a2 q hq⟩
    by_cases e : j = i
    · rw [e, up_ss]
    · rw [up_sn e]; exact a1 j (by omega)
  · have e : i = E 0 1 := by omega
    subst e
    unfold J_X1_countShotsBeyond_30
    simp (disch := omega) only [li, nI_add, pk_mul, ix_n, lt_n, le_n, eq_n, sub_n, dec_n, inb_t, neg_n, neg_n', ck_true, stp_eq, bnd_some, wp_some, wp_stp, Nat.add_zero, Nat.lt_irrefl, Nat.reduceEqDiff, Nat.reduceAdd, Nat.reduceSub, Nat.reduceMul, Nat.reduceLT, Nat.reduceLeDiff, up_o, up_ss, up_sn, zb_n1, true_and, and_true, ↓reduceIte, D1.z, F1.fr]
    clear k r
    have hK := (sch_spec (fun i => ((US (fun s => plE R E (E 2 s)) (E 0 1) i).map (fun s => plE R E (E 2 s))).sum ≤ len) (E 0 1)).1
    have hK : KK R E len ≤ E 0 1 := hK
    refine wp_for (i := 0) (KK R E len) (fun i s => ∃ h2, s = (nI ((US (fun s => plE R E (E 2 s)) (E 0 1) i).map (fun s => plE R E (E 2 s))).sum, nI i, nI i, h2) ∧ (∀ j, j < E 0 1 → h2 12 j = nI (vU (fun s => plE R E (E 2 s)) (US (fun s => plE R E (E 2 s)) (E 0 1) i) j)) ∧ ∀ k, ¬ k = 12 → h2 k = h k) (by omega) (by omega) ⟨h1, ?_, fun j hj => ?_, a2⟩ ?_
    · show _ = (nI ((List.range (E 0 1)).map (fun s => plE R E (E 2 s))).sum, nI 0, nI 0, h1)
      rw [fs_U0]
    · rw [a1 j hj]
      refine congrArg nI (if_pos (List.mem_range.mpr hj)).symm
    · rintro i s r hi3 ⟨h2, rfl, b1, b2⟩ k
      obtain ⟨c1, c2⟩ := KK_p hW hE hi3
      have hsl := sum_le hW hE i
      have e18 : h2 18 1 = nI (E 0 1) := by rw [b2 18 (by decide)]; exact hD.z
      unfold F_X1_countShotsBeyond_40
      by_cases hl : i < KK R E len
      · have hs := c1 hl
        have hin : i < E 0 1 := by omega
        have hU := sum_pos _ (Nat.lt_of_le_of_lt (Nat.zero_le _) hs)
        have hg := US_g (f := fun s => plE R E (E 2 s)) (n := E 0 1) (fun s hs => (pl_pos hW hE hs).1) hU
        generalize hUU : US (fun s => plE R E (E 2 s)) (E 0 1) i = U at *
        have hp := gI_p (vU (fun s => plE R E (E 2 s)) U) (E 0 1)
        have hvb : ∀ j, vU (fun s => plE R E (E 2 s)) U j ≤ 99999 ∨ ¬ j < E 0 1 := fun j => by
          by_cases z : j < E 0 1
          · left
            unfold vU
            split
            · exact (pl_pos hW hE z).2
            · omega
          · exact Or.inr z
        have hT : Wp (f_X1_takeGreatest h2) (fun u => u = (nI (vU (fun s => plE R E (E 2 s)) U (gI (vU (fun s => plE R E (E 2 s)) U) (E 0 1))), up h2 12 (gI (vU (fun s => plE R E (E 2 s)) U) (E 0 1)) (nI 0))) := by
          unfold f_X1_takeGreatest
          refine wp_for (i := 1) (E 0 1) (fun i s => s = (nI (gI (vU (fun s => plE R E (E 2 s)) U) i), nI i) ∧ 0 < i) (by omega) (by omega) ⟨by rw [gI_1]; rfl, by omega⟩ ?_
          rintro m s r2 hm ⟨rfl, hm0⟩ k2
          have hpm := (gI_p (vU (fun s => plE R E (E 2 s)) U) m).1 hm0
          unfold F_X1_takeGreatest_4 J_X1_takeGreatest_32 J_X1_takeGreatest_38
          by_cases hml : m < E 0 1
          · have v1 := (hvb m).resolve_right (fun y => y hml)
            have v2 := (hvb (gI (vU (fun s => plE R E (E 2 s)) U) m)).resolve_right (fun y => y (by omega))
            by_cases y : vU (fun s => plE R E (E 2 s)) U (gI (vU (fun s => plE R E (E 2 s)) U) m) < vU (fun s => plE R E (E 2 s)) U m
            · simp (disch := omega) only [li, nI_add, pk_mul, ix_n, lt_n, le_n, eq_n, sub_n, dec_n, inb_t, neg_n, neg_n', ck_true, stp_eq, bnd_some, wp_some, wp_stp, Nat.add_zero, Nat.lt_irrefl, Nat.reduceEqDiff, Nat.reduceAdd, Nat.reduceSub, Nat.reduceMul, Nat.reduceLT, Nat.reduceLeDiff, up_o, up_ss, up_sn, zb_n1, true_and, and_true, ↓reduceIte, e18, hml, b1, y]
              refine k2 _ hml ⟨?_, by omega⟩
              rw [gI_s, if_pos y]
            · simp (disch := omega) only [li, nI_add, pk_mul, ix_n, lt_n, le_n, eq_n, sub_n, dec_n, inb_t, neg_n, neg_n', ck_true, stp_eq, bnd_some, wp_some, wp_stp, Nat.add_zero, Nat.lt_irrefl, Nat.reduceEqDiff, Nat.reduceAdd, Nat.reduceSub, Nat.reduceMul, Nat.reduceLT, Nat.reduceLeDiff, up_o, up_ss, up_sn, zb_n1, true_and, and_true, ↓reduceIte, e18, hml, b1, y]
              refine k2 _ hml ⟨?_, by omega⟩
              rw [gI_s, if_neg y]
          · have e : m = E 0 1 := by omega
            subst e
            simp (disch := omega) only [li, nI_add, pk_mul, ix_n, lt_n, le_n, eq_n, sub_n, dec_n, inb_t, neg_n, neg_n', ck_true, stp_eq, bnd_some, wp_some, wp_stp, Nat.add_zero, Nat.lt_irrefl, Nat.reduceEqDiff, Nat.reduceAdd, Nat.reduceSub, Nat.reduceMul, Nat.reduceLT, Nat.reduceLeDiff, up_o, up_ss, up_sn, zb_n1, true_and, and_true, ↓reduceIte, e18, b1]
        obtain ⟨u, eu, hu⟩ := hT
        subst hu
        have hgv : vU (fun s => plE R E (E 2 s)) U (gI (vU (fun s => plE R E (E 2 s)) U) (E 0 1)) = plE R E (E 2 (gI (vU (fun s => plE R E (E 2 s)) U) (E 0 1))) := if_pos hg
        have hsum := sum_ne (fun s => plE R E (E 2 s)) (gI (vU (fun s => plE R E (E 2 s)) U) (E 0 1)) U (by rw [← hUU]; exact US_nd _ _ _) hg
        have hU2 : US (fun s => plE R E (E 2 s)) (E 0 1) (i + 1) = U.filter (fun y => y != gI (vU (fun s => plE R E (E 2 s)) U) (E 0 1)) := by rw [US_s, hUU]
        have hle : plE R E (E 2 (gI (vU (fun s => plE R E (E 2 s)) U) (E 0 1))) ≤ (U.map (fun s => plE R E (E 2 s))).sum := by rw [hsum]; omega
        rw [hgv] at eu
        simp (disch := omega) only [li, nI_add, pk_mul, ix_n, lt_n, le_n, eq_n, sub_n, dec_n, inb_t, neg_n, neg_n', ck_true, stp_eq, bnd_some, wp_some, wp_stp, Nat.add_zero, Nat.lt_irrefl, Nat.reduceEqDiff, Nat.reduceAdd, Nat.reduceSub, Nat.reduceMul, Nat.reduceLT, Nat.reduceLeDiff, up_o, up_ss, up_sn, zb_n1, true_and, and_true, ↓reduceIte, e18, hin, hs, eu]
        refine k _ hl ⟨up h2 12 (gI (vU (fun s => plE R E (E 2 s)) U) (E 0 1)) (nI 0), ?_, fun j hj => ?_, fun q hq => by rw [up_o hq]; exact b2 q hq⟩
        · rw [hU2]
          have : (U.map (fun s => plE R E (E 2 s))).sum - plE R E (E 2 (gI (vU (fun s => plE R E (E 2 s)) U) (E 0 1))) = ((U.filter (fun y => y != gI (vU (fun s => plE R E (E 2 s)) U) (E 0 1))).map (fun s => plE R E (E 2 s))).sum := by rw [hsum]; omega
          rw [this]
        · rw [hU2]
          by_cases e : j = gI (vU (fun s => plE R E (E 2 s)) U) (E 0 1)
          · rw [e, up_ss]
            refine congrArg nI (if_neg ?_).symm
            intro z
            have := (List.mem_filter.mp z).2
            simp at this
          · rw [up_sn e, b1 j hj]
            refine congrArg nI ?_
            by_cases z : j ∈ U
            · rw [vU_y z, vU_y ((List.mem_filter (p := fun y => y != gI (vU (fun s => plE R E (E 2 s)) U) (E 0 1))).mpr ⟨z, bne_iff_ne.mpr e⟩)]
            · rw [vU_n z, vU_n (fun y => z (List.mem_filter.mp y).1)]
      · have e : i = KK R E len := by omega
        have hs := c2 e
        have hs2 : ¬ len < ((US (fun s => plE R E (E 2 s)) (E 0 1) i).map (fun s => plE R E (E 2 s))).sum := by omega
        by_cases y : i < E 0 1
        · simp (disch := omega) only [li, nI_add, pk_mul, ix_n, lt_n, le_n, eq_n, sub_n, dec_n, inb_t, neg_n, neg_n', ck_true, stp_eq, bnd_some, wp_some, wp_stp, Nat.add_zero, Nat.lt_irrefl, Nat.reduceEqDiff, Nat.reduceAdd, Nat.reduceSub, Nat.reduceMul, Nat.reduceLT, Nat.reduceLeDiff, up_o, up_ss, up_sn, zb_n1, true_and, and_true, ↓reduceIte, e18, y, hs2]
          exact ⟨by rw [e], b2⟩
        · simp (disch := omega) only [li, nI_add, pk_mul, ix_n, lt_n, le_n, eq_n, sub_n, dec_n, inb_t, neg_n, neg_n', ck_true, stp_eq, bnd_some, wp_some, wp_stp, Nat.add_zero, Nat.lt_irrefl, Nat.reduceEqDiff, Nat.reduceAdd, Nat.reduceSub, Nat.reduceMul, Nat.reduceLT, Nat.reduceLeDiff, up_o, up_ss, up_sn, zb_n1, true_and, and_true, ↓reduceIte, e18, y]
          exact ⟨by rw [e], b2⟩
theorem m_shotsToCut (hW : WR R) (hE : WE R E) (hG : GR g R) (hM : GE g E) {len : Nat} (hlen : len < 2147483648) : Wp (f_X11_shotsToCut g (nI len)) (fun u => u.1 = nI (KK R E len) ∧ GE u.2 E ∧ (∀ k, ¬ k = 125 → ¬ k = 134 → ¬ k = 136 → u.2 k = g k) ∧ ∀ j, ¬ j = 0 → u.2 125 j = g 125 j) := by
  have hn := hE.n
  have hbw := hW.bw
  have h40 := hW.w40
  have hfl := fs_le hW hE (Nat.le_refl (E 0 1))
  have h0 : nI 0 ≤ nI len := nI_pos' hlen
  unfold f_X11_shotsToCut
  rw [stp_eq, if_pos (show (0 : Int32) ≤ nI len from h0)]
  refine wp_bnd_of m_putsAside (fun g3 k3 => ?_)
  obtain ⟨s1, s2⟩ := k3
  have hK := (sch_spec (fun i => ((US (fun s => plE R E (E 2 s)) (E 0 1) i).map (fun s => plE R E (E 2 s))).sum ≤ len) (E 0 1)).1
  have hK : KK R E len ≤ E 0 1 := hK
  have G3 : GR g3 R := hG.gf ⟨fun k a _ _ => by rw [s2 k (fun e => by subst e; revert a; decide), up_o (fun e => by subst e; revert a; decide)], fun j a _ => by rw [s2 125 (by decide), up_sn (fun e => by subst e; revert a; decide)]⟩
  have M3 : GE g3 E := hM.of134 (by omega) (fun q _ => by rw [s2 134 (by decide), up_o (by decide)])
  have U0E : ∀ s, s < E 0 1 → UE E (List.range (E 0 1)) 2 s = E 2 s := fun s hs => by
    show E 2 ((List.range (E 0 1)).getD s 0) = _
    rw [List.getD_eq_getElem?_getD, List.getElem?_range hs]
    rfl
  refine wp_for (i := 0) (KK R E len) (fun i s => ∃ g4, s = (nI i, g4) ∧ GE g4 (UE E (US (fun s => plE R E (E 2 s)) (E 0 1) i)) ∧ ∀ k, ¬ k = 134 → g4 k = g3 k) (by omega) (by omega) ⟨g3, rfl, M3.congr (by show (List.range (E 0 1)).length = _; rw [List.length_range]) U0E (fun _ _ => rfl) (fun _ _ => rfl) (fun _ _ => rfl), fun _ _ => rfl⟩ ?_
  rintro i s r hi3 ⟨g4, rfl, M4, b2⟩ k
  obtain ⟨c1, c2⟩ := KK_p hW hE hi3
  have hsl := sum_le hW hE i
  obtain ⟨u1, u2⟩ := US_p (fun s => plE R E (E 2 s)) (E 0 1) i
  have E4 := UE_WE hE u1 u2
  have w4 : AW g3 g4 := AW.of b2
  unfold F_X11_shotsToCut_17
  show Wp (bnd (f_X11_film g4) _) _
  rw [m_film hW E4 (G3.fa w4) M4, bnd_some, fs_UE]
  by_cases hl : i < KK R E len
  · have hs := c1 hl
    have hU := sum_pos _ (Nat.lt_of_le_of_lt (Nat.zero_le _) hs)
    have hb := US_b (f := fun s => plE R E (E 2 s)) (n := E 0 1) (fun s hs => (pl_pos hW hE hs).1) hU
    rw [if_pos ((nI_ltI hlen (by omega)).mpr hs)]
    have hpos : 0 < (US (fun s => plE R E (E 2 s)) (E 0 1) i).length := List.length_pos_iff.mpr hU
    have hn4 := E4.n
    refine wp_for (i := 1) (US (fun s => plE R E (E 2 s)) (E 0 1) i).length (fun m s => s = (nI (gI (fun j => plE R E (E 2 ((US (fun s => plE R E (E 2 s)) (E 0 1) i).getD j 0))) m), nI m) ∧ 0 < m) (by have : (US (fun s => plE R E (E 2 s)) (E 0 1) i).length ≤ R 0 13 := hn4; omega) (by omega) ⟨by rw [gI_1]; rfl, by omega⟩ ?_
    rintro m s r2 hm ⟨rfl, hm0⟩ k2
    have hpm := (gI_p (fun j => plE R E (E 2 ((US (fun s => plE R E (E 2 s)) (E 0 1) i).getD j 0))) m).1 hm0
    have hn5 : (US (fun s => plE R E (E 2 s)) (E 0 1) i).length ≤ R 0 13 := hn4
    unfold F_X11_shotsToCut_30 J_X11_shotsToCut_67 J_X11_shotsToCut_73
    have e40 : g4 134 40 = nI (US (fun s => plE R E (E 2 s)) (E 0 1) i).length := M4.n
    by_cases hml : m < (US (fun s => plE R E (E 2 s)) (E 0 1) i).length
    · have sb1 := m_shotBlock hW E4 M4 (s := m) hml
      have sb2 := m_shotBlock hW E4 M4 (s := gI (fun j => plE R E (E 2 ((US (fun s => plE R E (E 2 s)) (E 0 1) i).getD j 0))) m) (Nat.lt_trans hpm hml)
      have pl1 := m_plays hW E4 (G3.fa w4) M4 (E4.lt m hml)
      have pl2 := m_plays hW E4 (G3.fa w4) M4 (E4.lt (gI (fun j => plE R E (E 2 ((US (fun s => plE R E (E 2 s)) (E 0 1) i).getD j 0))) m) (Nat.lt_trans hpm hml))
      have hq1 := (pl_pos hW E4 (s := m) hml).2
      have hq2 := (pl_pos hW E4 (s := gI (fun j => plE R E (E 2 ((US (fun s => plE R E (E 2 s)) (E 0 1) i).getD j 0))) m) (Nat.lt_trans hpm hml)).2
      by_cases y : plE R (UE E (US (fun s => plE R E (E 2 s)) (E 0 1) i)) (UE E (US (fun s => plE R E (E 2 s)) (E 0 1) i) 2 (gI (fun j => plE R E (E 2 ((US (fun s => plE R E (E 2 s)) (E 0 1) i).getD j 0))) m)) < plE R (UE E (US (fun s => plE R E (E 2 s)) (E 0 1) i)) (UE E (US (fun s => plE R E (E 2 s)) (E 0 1) i) 2 m)
      · simp (disch := omega) only [li, nI_add, pk_mul, ix_n, lt_n, le_n, eq_n, sub_n, dec_n, inb_t, neg_n, neg_n', ck_true, stp_eq, bnd_some, wp_some, wp_stp, Nat.add_zero, Nat.lt_irrefl, Nat.reduceEqDiff, Nat.reduceAdd, Nat.reduceSub, Nat.reduceMul, Nat.reduceLT, Nat.reduceLeDiff, up_o, up_ss, up_sn, zb_n1, true_and, and_true, ↓reduceIte, e40, hml, sb1, sb2, pl1, pl2, y]
        refine k2 _ hml ⟨?_, by omega⟩
        rw [gI_s]
        rw [if_pos (show plE R E (E 2 ((US (fun s => plE R E (E 2 s)) (E 0 1) i).getD (gI (fun j => plE R E (E 2 ((US (fun s => plE R E (E 2 s)) (E 0 1) i).getD j 0))) m) 0)) < plE R E (E 2 ((US (fun s => plE R E (E 2 s)) (E 0 1) i).getD m 0)) from y)]
      · simp (disch := omega) only [li, nI_add, pk_mul, ix_n, lt_n, le_n, eq_n, sub_n, dec_n, inb_t, neg_n, neg_n', ck_true, stp_eq, bnd_some, wp_some, wp_stp, Nat.add_zero, Nat.lt_irrefl, Nat.reduceEqDiff, Nat.reduceAdd, Nat.reduceSub, Nat.reduceMul, Nat.reduceLT, Nat.reduceLeDiff, up_o, up_ss, up_sn, zb_n1, true_and, and_true, ↓reduceIte, e40, hml, sb1, sb2, pl1, pl2, y]
        refine k2 _ hml ⟨?_, by omega⟩
        rw [gI_s]
        rw [if_neg (show ¬ plE R E (E 2 ((US (fun s => plE R E (E 2 s)) (E 0 1) i).getD (gI (fun j => plE R E (E 2 ((US (fun s => plE R E (E 2 s)) (E 0 1) i).getD j 0))) m) 0)) < plE R E (E 2 ((US (fun s => plE R E (E 2 s)) (E 0 1) i).getD m 0)) from y)]
    · have e : m = (US (fun s => plE R E (E 2 s)) (E 0 1) i).length := by omega
      subst e
      simp (disch := omega) only [li, nI_add, pk_mul, ix_n, lt_n, le_n, eq_n, sub_n, dec_n, inb_t, neg_n, neg_n', ck_true, stp_eq, bnd_some, wp_some, wp_stp, Nat.add_zero, Nat.lt_irrefl, Nat.reduceEqDiff, Nat.reduceAdd, Nat.reduceSub, Nat.reduceMul, Nat.reduceLT, Nat.reduceLeDiff, up_o, up_ss, up_sn, zb_n1, true_and, and_true, ↓reduceIte, e40]
      refine wp_bnd_of (m_takesOut M4 (show (US (fun s => plE R E (E 2 s)) (E 0 1) i).length ≤ 40 by omega) (fun s hs => by have := E4.lt s hs; omega) hpm) (fun g6 k6 => ?_)
      refine k _ hl ⟨g6, rfl, ?_, fun q hq => (k6.2 q hq).trans (b2 q hq)⟩
      have hfe := filter_erase _ _ (US_nd (fun s => plE R E (E 2 s)) (E 0 1) i) hb
      have hU2 : US (fun s => plE R E (E 2 s)) (E 0 1) (i + 1) = (US (fun s => plE R E (E 2 s)) (E 0 1) i).eraseIdx (gI (fun j => plE R E (E 2 ((US (fun s => plE R E (E 2 s)) (E 0 1) i).getD j 0))) (US (fun s => plE R E (E 2 s)) (E 0 1) i).length) := by rw [US_s, ← hfe]
      refine k6.1.congr ?_ (fun t ht => ?_) (fun _ _ => rfl) (fun _ _ => rfl) (fun _ _ => rfl)
      · show (US (fun s => plE R E (E 2 s)) (E 0 1) (i + 1)).length = (US (fun s => plE R E (E 2 s)) (E 0 1) i).length - 1
        rw [hU2, List.length_eraseIdx, if_pos hpm]
      · show E 2 ((US (fun s => plE R E (E 2 s)) (E 0 1) (i + 1)).getD t 0) = (if t < _ then E 2 ((US (fun s => plE R E (E 2 s)) (E 0 1) i).getD t 0) else E 2 ((US (fun s => plE R E (E 2 s)) (E 0 1) i).getD (t + 1) 0))
        rw [hU2, List.getD_eq_getElem?_getD, List.getElem?_eraseIdx]
        by_cases y : t < gI (fun j => plE R E (E 2 ((US (fun s => plE R E (E 2 s)) (E 0 1) i).getD j 0))) (US (fun s => plE R E (E 2 s)) (E 0 1) i).length
        · rw [if_pos y, if_pos y, List.getD_eq_getElem?_getD]
        · rw [if_neg y, if_neg y, List.getD_eq_getElem?_getD]
  · have e : i = KK R E len := by omega
    have hs := c2 e
    rw [if_neg (fun y => by have := (nI_ltI hlen (by omega)).mp y; omega)]
    unfold J_X11_shotsToCut_84
    refine wp_bnd_of m_takesBack (fun g6 k6 => ?_)
    obtain ⟨t1, t2⟩ := k6
    refine wp_some.mpr ⟨by rw [e], hM.of134 (by omega) (fun q hq => ?_), fun q a b c => ?_, fun j hj => ?_⟩
    · show g6 134 q = _
      rw [t1 q hq, b2 136 (by decide), s1 q hq, up_o (by decide)]
    · show g6 q = _
      rw [t2 q b, b2 q b, s2 q c, up_o a]
    · show g6 125 j = _
      rw [t2 125 (by decide), b2 125 (by decide), s2 125 (by decide), up_sn hj]
theorem qa34 (w : ED h g c R E d x hi) (a1 : Int32) : AA (A_34 h g a1) h g c R := by
  have q := w.Q
  unfold A_34
  by_cases h0 : (0 : Int32) ≤ a1
  · obtain ⟨len, hlen, rfl⟩ := nI_of (Int32.not_lt.mpr h0)
    have hlen : len < 2147483648 := hlen
    obtain ⟨⟨v1, h2⟩, e1, e2, k2⟩ := c_countShotsBeyond q.W q.E q.D q.F hlen
    obtain ⟨⟨v3, g2⟩, e3, e4, M4, k4, k5⟩ := m_shotsToCut q.W q.E q.G q.M hlen
    have e2 : v1 = nI (KK R E len) := e2
    have e4 : v3 = nI (KK R E len) := e4
    have k2 : ∀ k, ¬ k = 12 → h2 k = h k := k2
    have k4 : ∀ k, ¬ k = 125 → ¬ k = 134 → ¬ k = 136 → g2 k = g k := k4
    have k5 : ∀ j, ¬ j = 0 → g2 125 j = g 125 j := k5
    have hk := q.k
    have gf : GFr g g2 := ⟨fun k a b _ => k4 k (fun e => by subst e; revert a; decide) b (fun e => by subst e; revert a; decide), fun j a b => k5 j (fun e => by subst e; revert a; decide)⟩
    have F2 : CF h2 R E := by
      unfold CF
      rw [k2 3 (by decide), k2 4 (by decide), k2 5 (by decide), k2 6 (by decide), k2 7 (by decide), k2 8 (by decide), k2 9 (by decide), k2 10 (by decide), k2 11 (by decide)]
      exact q.F
    refine ⟨h2, g2, ?_, fun k a b => k2 k (by omega), gf, ED.mk2 w (q.C.fr (fun o ho => k2 _ (by omega))) (by rw [k2 3 (by decide)]; exact q.p) (q.D.fr (fun k a b => k2 k (by omega))) F2 (q.G.gf gf) M4 q.E q.X (w.Hc.fr (fun k a => k2 k (by omega))) (w.Hg.fr (k5 13 (by decide)) (k4 135 (by decide) (by decide) (by decide))) w.Hw⟩
    unfold f_X10_shotsToCut
    rw [if_pos h0, e1, bnd_some, bnd_some, e3, bnd_some, if_pos (e2.trans e4.symm)]
  · have w0 := GW.upF g (j := 0) (v := nI 0) (by decide)
    refine ⟨h, up g 125 0 (nI 0), ?_, CFr.rf h, w0.gf, E, d, x, hi, w.z0⟩
    unfold f_X10_shotsToCut f_X11_shotsToCut
    rw [if_neg h0, bnd_some, stp_eq, if_neg h0, bnd_some, if_pos rfl]
    rfl
end
