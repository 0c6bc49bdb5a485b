/-! numbers as texts -/
def dgs (n : Nat) : List Nat := if n < 10 then [48 + n] else if n < 100 then [48 + n / 10, 48 + n % 10] else [48 + n / 100, 48 + n % 100 / 10, 48 + n % 10]
theorem dgs1 {n : Nat} (h : n < 10) : dgs n = [48 + n] := if_pos h
theorem dgs2 {n : Nat} (h : ¬ n < 10) (h2 : n < 100) : dgs n = [48 + n / 10, 48 + n % 10] := by unfold dgs; rw [if_neg h, if_pos h2]
theorem dgs3 {n : Nat} (h : ¬ n < 100) : dgs n = [48 + n / 100, 48 + n % 100 / 10, 48 + n % 10] := by unfold dgs; rw [if_neg (by omega), if_neg h]
theorem dgs_l {n : Nat} : (dgs n).length ≤ 3 := by unfold dgs; split <;> (try split) <;> simp
theorem szA : ∀ n, n < 1000 → ((-10 : Int32) < -nI n ↔ n < 10) := by decide +kernel
theorem szB : ∀ n, n < 1000 → ((10 : Int32) * (-10) < -nI n ↔ n < 100) := by decide +kernel
theorem szC : ∀ n, n < 1000 → (10 : Int32) * (10 * (-10)) < -nI n := by decide +kernel
theorem nmA : ∀ n, n < 1000 → ((-100 : Int32) < -nI n ↔ n < 100) := by decide +kernel
theorem nmB : ∀ n, n < 1000 → -nI n / 100 = -nI (n / 100) := by decide +kernel
theorem nmC : ∀ n, n < 1000 → -nI (n / 100) * 100 - -nI n = nI (n % 100) := by decide +kernel
theorem nmD : ∀ n, n < 1000 → -(-nI n) = nI n := by decide +kernel
theorem nmE : ∀ n, n < 1000 → (-nI n < (-9 : Int32) ↔ ¬ n < 10) := by decide +kernel
theorem FU_s : FU = 4294967293 + 1 + 1 + 1 := rfl
theorem j_size {g : PL} {n : Nat} (hn : n < 1000) : fp_J6_stringSize_0f7a4 g (nI n) = some (nI (dgs n).length) := by
  unfold fp_J6_stringSize_0f7a4
  rw [if_neg (nI_pos (by omega)), stp_eq]
  unfold Jp_J6_stringSize_0f7a4_11
  rw [FU_s, Lp_s]
  unfold Fp_J6_stringSize_0f7a4_16
  dsimp only
  rw [if_pos (show (1 : Int32) < 10 by decide)]
  by_cases a : n < 10
  · rw [if_pos ((szA n hn).mpr a), dgs1 a]
    rfl
  · rw [if_neg (fun z => a ((szA n hn).mp z)), stp_eq, stp_eq, Lp_s]
    dsimp only
    rw [if_pos (show (1 : Int32) + 1 < 10 by decide)]
    by_cases b : n < 100
    · rw [if_pos ((szB n hn).mpr b), dgs2 a b]
      rfl
    · rw [if_neg (fun z => b ((szB n hn).mp z)), stp_eq, stp_eq, Lp_s]
      dsimp only
      rw [if_pos (show (1 : Int32) + 1 + 1 < 10 by decide), if_pos (szC n hn), dgs3 b]
      rfl
/-- one byte of v -/
def w1 (g : PL) (v j b : Nat) : PL := gu g v j (nI b)
theorem d_dg {k : Nat} (h : k < 100) : i2b (dgO k) = nI (48 + k % 10) ∧ i2b (dgT k) = nI (48 + k / 10) := by
  constructor
  · exact i2b_n (a := 48 + k % 10) (by omega)
  · exact i2b_n (a := 48 + k / 10) (by omega)
theorem m1_n {n : Nat} (h : 1 ≤ n) : nI n + (-1) = nI (n - 1) := by
  have e : n = (n - 1) + 1 := by omega
  rw [e, pk_m1, Nat.add_sub_cancel]
theorem j_tail1 {g : PL} {v e m : Nat} (p1 : Int32) (hk : gk g v 6 = true) (he : e ≤ gl g v) (h6 : gl g v ≤ 600) (hm : m < 10) (h1 : 1 ≤ e) : Jp_J6_getChars_ba4f3_72 p1 v g (-nI m) (nI e) (nI 0) = some (nI (e - 1), w1 g v (e - 1) (48 + m)) := by
  unfold Jp_J6_getChars_ba4f3_72
  rw [m1_n h1, stp_eq, nmD m (by omega), ck_of (inb_t (by omega) (by omega)), ck_of (by rw [hk, inb_t (by omega) (by omega)]; rfl), ix_n (by omega), ix_n (by omega), (d_dg (show m < 100 by omega)).1, stp_eq, if_neg (fun z => (nmE m (by omega)).mp z hm)]
  unfold Jp_J6_getChars_ba4f3_104
  rw [if_pos (show nI 0 = 0 from rfl), Nat.mod_eq_of_lt hm]
  rfl
theorem j_tail2 {g : PL} {v e m : Nat} (p1 : Int32) (hk : gk g v 6 = true) (he : e ≤ gl g v) (h6 : gl g v ≤ 600) (hm : ¬ m < 10) (hm2 : m < 100) (h1 : 2 ≤ e) : Jp_J6_getChars_ba4f3_72 p1 v g (-nI m) (nI e) (nI 0) = some (nI (e - 2), w1 (w1 g v (e - 1) (48 + m % 10)) v (e - 2) (48 + m / 10)) := by
  unfold Jp_J6_getChars_ba4f3_72
  rw [m1_n (by omega), stp_eq, nmD m (by omega), ck_of (inb_t (by omega) (by omega)), ck_of (by rw [hk, inb_t (by omega) (by omega)]; rfl), ix_n (by omega), ix_n (by omega), (d_dg hm2).1, stp_eq, if_pos ((nmE m (by omega)).mpr hm), m1_n (by omega), stp_eq, ck_of (inb_t (by omega) (by omega))]
  have k2 : gk (gu g v (e - 1) (nI (48 + m % 10))) v 6 = true := hk
  have l2 : gl (gu g v (e - 1) (nI (48 + m % 10))) v = gl g v := rfl
  rw [ck_of (by rw [k2, l2, inb_t (by omega) (by omega)]; rfl), stp_eq, ix_n (by omega), (d_dg hm2).2]
  unfold Jp_J6_getChars_ba4f3_104
  rw [if_pos (show nI 0 = 0 from rfl), show e - 1 - 1 = e - 2 by omega]
  rfl
def wD (g : PL) (v k n : Nat) : PL := if n < 10 then w1 g v k (48 + n) else if n < 100 then w1 (w1 g v (k + 1) (48 + n % 10)) v k (48 + n / 10) else w1 (w1 (w1 g v (k + 2) (48 + n % 100 % 10)) v (k + 1) (48 + n % 100 / 10)) v k (48 + n / 100)
theorem j_getChars {g : PL} {v k n : Nat} (hk : gk g v 6 = true) (hn : n < 1000) (he : k + (dgs n).length ≤ gl g v) (h6 : gl g v ≤ 600) : fp_J6_getChars_ba4f3 g (nI n) (nI (k + (dgs n).length)) v = some (nI k, wD g v k n) := by
  unfold fp_J6_getChars_ba4f3
  rw [if_pos (nI_pos' (by omega))]
  unfold Jp_J6_getChars_ba4f3_12
  rw [if_pos (show (0 : Int32) = 0 from rfl), stp_eq, FU_s, Lp_s]
  unfold wD
  by_cases a : n < 10
  · rw [dgs1 a] at he ⊢
    have he : k + 1 ≤ gl g v := he
    rw [if_pos a]
    unfold Fp_J6_getChars_ba4f3_22
    dsimp only
    rw [if_pos ((nmA n hn).mpr (by omega))]
    exact j_tail1 (e := k + 1) _ hk he h6 a (by omega)
  · by_cases b : n < 100
    · rw [dgs2 a b] at he ⊢
      have he : k + 2 ≤ gl g v := he
      rw [if_neg a, if_pos b]
      unfold Fp_J6_getChars_ba4f3_22
      dsimp only
      rw [if_pos ((nmA n hn).mpr b)]
      have r := j_tail2 (e := k + 2) (nI (k + 2)) hk he h6 a b (by omega)
      exact r
    · rw [dgs3 b] at he ⊢
      have he : k + 3 ≤ gl g v := he
      rw [if_neg a, if_neg b]
      have hq : n / 100 < 10 := by omega
      have hr : n % 100 < 100 := Nat.mod_lt _ (by omega)
      unfold Fp_J6_getChars_ba4f3_22
      dsimp only
      show (if (-100 : Int32) < -nI n then _ else stp (-nI n / 100) _) = _
      rw [if_neg (fun z => b ((nmA n hn).mp z)), stp_eq, nmB n hn, nmC n hn, stp_eq]
      show stp (nI (k + 3) + -1) _ = _
      rw [m1_n (by omega), stp_eq, ck_of (inb_t (by omega) (by omega)), show k + 3 - 1 = k + 2 by omega, ck_of (by rw [hk, inb_t (by omega) (by omega)]; rfl), ix_n (by omega), ix_n (by omega), (d_dg hr).1, stp_eq, m1_n (by omega), show k + 2 - 1 = k + 1 by omega, stp_eq, ck_of (inb_t (by omega) (by omega))]
      have k2 : gk (gu g v (k + 2) (nI (48 + n % 100 % 10))) v 6 = true := hk
      have l2 : gl (gu g v (k + 2) (nI (48 + n % 100 % 10))) v = gl g v := rfl
      rw [ck_of (by rw [k2, l2, inb_t (by omega) (by omega)]; rfl), stp_eq, ix_n (by omega), (d_dg hr).2, Lp_s]
      dsimp only
      rw [if_pos ((nmA (n / 100) (by omega)).mpr (by omega))]
      have r := j_tail1 (g := w1 (w1 g v (k + 2) (48 + n % 100 % 10)) v (k + 1) (48 + n % 100 / 10)) (v := v) (e := k + 1) (m := n / 100) (nI (k + 3)) hk (by show k + 1 ≤ gl g v; omega) h6 hq (by omega)
      exact r
theorem w1_n (g : PL) (v j b : Nat) : (w1 g v j b).1 = g.1 := rfl
theorem w1_h (g : PL) (v j b : Nat) : (w1 g v j b).2.2 = up g.2.2 v j (nI b) := rfl
theorem wD_all {g : PL} {v k n : Nat} (hn : n < 1000) : (wD g v k n).1 = g.1 ∧ (wD g v k n).2.1 = g.2.1 ∧ (∀ o, ¬ o = v → (wD g v k n).2.2 o = g.2.2 o) ∧ (∀ i, i < k → (wD g v k n).2.2 v i = g.2.2 v i) ∧ ∀ i, i < (dgs n).length → (wD g v k n).2.2 v (k + i) = nI ((dgs n).getD i 0) := by
  unfold wD
  by_cases a : n < 10
  · rw [if_pos a, dgs1 a]
    refine ⟨rfl, rfl, fun o ho => by rw [w1_h, up_o ho], fun i hi => by rw [w1_h, up_sn (by omega)], fun i hi => ?_⟩
    have hi : i < 1 := hi
    have e : i = 0 := by omega
    subst e
    rw [w1_h, show k + 0 = k from rfl, up_ss]
    rfl
  · by_cases b : n < 100
    · rw [if_neg a, if_pos b, dgs2 a b]
      refine ⟨rfl, rfl, fun o ho => by rw [w1_h, up_o ho, w1_h, up_o ho], fun i hi => by rw [w1_h, up_sn (by omega), w1_h, up_sn (by omega)], fun i hi => ?_⟩
      have hi : i < 2 := hi
      rcases (show i = 0 ∨ i = 1 by omega) with rfl | rfl
      · rw [w1_h, show k + 0 = k from rfl, up_ss]; rfl
      · rw [w1_h, up_sn (by omega), w1_h, up_ss]; rfl
    · rw [if_neg a, if_neg b, dgs3 b]
      refine ⟨rfl, rfl, fun o ho => by rw [w1_h, up_o ho, w1_h, up_o ho, w1_h, up_o ho], fun i hi => by rw [w1_h, up_sn (by omega), w1_h, up_sn (by omega), w1_h, up_sn (by omega)], fun i hi => ?_⟩
      have hi : i < 3 := hi
      rcases (show i = 0 ∨ i = 1 ∨ i = 2 by omega) with rfl | rfl | rfl
      · rw [w1_h, show k + 0 = k from rfl, up_ss]; rfl
      · rw [w1_h, up_sn (by omega), w1_h, up_ss]; rfl
      · rw [w1_h, up_sn (by omega), w1_h, up_sn (by omega), w1_h, up_ss, show n % 100 % 10 = n % 10 by omega]; rfl
/-- a number behind what the builder holds -/
theorem sb_num {n0 : Nat} {g : PL} {o v n : Nat} {bs : List Nat} (s : SB n0 g o v bs) (hp : g.1 ≤ 700000) (hn : n < 1000) (hl : bs.length + 3 ≤ 300) : Wp (fp_J4_append_bf812 g o (nI n)) (fun u => u.1 = o ∧ ∃ v', SB n0 u.2 o v' (bs ++ dgs n) ∧ Fr n0 1 g u.2) := by
  have ko := gk_i s.o s.k
  have hd := dgs_l (n := n)
  unfold fp_J4_append_bf812 fp_J5_append_c97b9
  rw [ck_of (rkb_i s.o), ck_of ko, ck_of ko, s.l, stp_eq, j_size hn, bnd_some, nI_add, stp_eq, ck_of (rkb_i s.o), ck_of ko]
  refine wp_bnd_of (P := fun u1 => u1.1 = o ∧ ∃ v', SB n0 u1.2 o v' (bs ++ dgs n) ∧ Fr n0 1 g u1.2) ?_ (fun u1 h => wp_some.mpr ⟨rfl, h.2⟩)
  refine wp_bnd_of (sb_ens s (by omega) (by omega) (by omega)) ?_
  rintro g1 ⟨v', s1, hm, f1⟩
  have k1 := gk_i s1.o s1.k
  have kv := gk_i s1.vl s1.vk
  have hp1 := f1.b
  have hcap := s1.c6
  have hvl := s1.vl
  have el : fp_J5_isLatin1_aae02 g1 o = some (nI 1) := by
    unfold fp_J5_isLatin1_aae02
    rw [if_neg (show ¬ (1 : Int32) = 0 by decide), ck_of k1, if_pos (show g1.2.2 o 1 = 0 from s1.c)]
    rfl
  obtain ⟨a1, a2, a3, a4, a5⟩ := wD_all (g := g1) (v := v') (k := bs.length) hn
  rw [ck_of k1, el, bnd_some, if_neg (show ¬ (nI 1 : Int32) = 0 by decide), ckn_of k1 s1.w (by omega), j_getChars kv hn hm hcap, bnd_some]
  have k2 : gk (wD g1 v' bs.length n) o 2 = true := gk_i (by rw [a1]; exact s1.o) (by rw [a2]; exact s1.k)
  rw [ck_of (decide_eq_true a1), ck_of k2, stp_eq]
  have ne : ¬ o = v' := fun e => s1.vo e.symm
  refine wp_some.mpr ⟨rfl, v', ⟨s1.n, by show o < (wD g1 v' bs.length n).1; rw [a1]; exact s1.o, by rw [gu_s, a2]; exact s1.k, by rw [gu_h, up_sn (by decide), a3 o ne]; exact s1.c, by rw [gu_h, up_ss, List.length_append], by rw [gu_h, up_sn (by decide), a3 o ne]; exact s1.w, s1.vn, s1.vo, by show v' < (wD g1 v' bs.length n).1; rw [a1]; exact hvl, by rw [gu_s, a2]; exact s1.vk, by rw [gu_s, a2, List.length_append]; exact hm, by rw [gu_s, a2]; exact hcap, fun i hi => ?_⟩, (f1.tr (⟨by rw [a1]; exact Nat.le_refl _, by rw [a1]; exact Nat.le_refl _, fun q _ => by rw [a2], fun q hq => a3 q (by have := s1.vn; omega)⟩ : Fr n0 0 g1 (wD g1 v' bs.length n)) (k := 1) (by omega)).tr (Fr.gu s1.n) (by omega)⟩
  rw [List.length_append] at hi
  rw [gu_h, up_o s1.vo]
  by_cases q : i < bs.length
  · rw [a4 i q, getD_app1 q]
    exact s1.b i q
  · have r := a5 (i - bs.length) (by omega)
    rw [show bs.length + (i - bs.length) = i by omega] at r
    rw [r, getD_app2 (by omega)]
