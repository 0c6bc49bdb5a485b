/-! the builder's text; numbers as texts -/
theorem cpRange {g : PL} {v n : Nat} (hv : v < g.1) (hk : (g.2.1 v).1 = 6) (hn : n ≤ (g.2.1 v).2) (h6 : (g.2.1 v).2 ≤ 600) (hp : g.1 ≤ 800000) : ∃ g', fp_J7_copyOfRange_39247 g v (nI 0) (nI n) = some (g.1, g') ∧ g'.1 = g.1 + 1 ∧ (∀ o, o < g.1 → g'.2.1 o = g.2.1 o ∧ g'.2.2 o = g.2.2 o) ∧ g'.2.1 g.1 = (6, n) ∧ ∀ i, i < n → g'.2.2 g.1 i = g.2.2 v i := by
  have kv := gk_i hv hk
  have hgl : gl g v = (g.2.1 v).2 := rfl
  unfold fp_J7_copyOfRange_39247
  rw [if_pos (show nI 0 = 0 from rfl), ck_of kv, hgl]
  by_cases q : n = (g.2.1 v).2
  · rw [if_pos (by rw [q]), ck_of (by rw [kv, ngw_i (by omega) h6]; rfl), stp_eq, ck_of (gk_i (by show g.1 < g.1 + 1; omega) (by rw [nw_k]))]
    exact ⟨_, rfl, rfl, fun o ho => ⟨nw_ko ho, nw_ho ho⟩, by rw [nw_k, q], fun i hi => by rw [nw_h]⟩
  · have k1 : gk (gnew g 6 n (fun _ => 0)) v 6 = true := gk_i (by show v < g.1 + 1; omega) (by rw [nw_ko hv]; exact hk)
    have k2 : gk (gnew g 6 n (fun _ => 0)) g.1 6 = true := gk_i (by show g.1 < g.1 + 1; omega) (by rw [nw_k])
    have l1 : gl (gnew g 6 n (fun _ => 0)) v = (g.2.1 v).2 := by show ((gnew g 6 n (fun _ => 0)).2.1 v).2 = _; rw [nw_ko hv]
    have l2 : gl (gnew g 6 n (fun _ => 0)) g.1 = n := by show ((gnew g 6 n (fun _ => 0)).2.1 g.1).2 = _; rw [nw_k]
    rw [if_neg (eqo q (by omega) (by omega))]
    unfold Jp_J7_copyOfRange_39247_10 fp_J7_copyOfRangeByte_39247 fp_J7_checkLength_df160
    rw [if_neg (ltn (by omega) (by omega)), bnd_some, sub_n (by omega), Nat.sub_zero, stp_eq, ck_of (rkb_i hv), ix_n (by omega), ck_of (by rw [decide_eq_true (nI_pos' (by omega)), ngw_i (by omega) (by omega)]; rfl), stp_eq, ck_of k1, l1, l2, sub_n (by omega), Nat.sub_zero, imin_n (by omega) (by omega), Nat.min_eq_right (by omega), ck_of (by rw [k1, k2]; exact cpok_i (a := 0) (b := 0) (by omega) (by omega) (by omega) (by omega) (by omega)), stp_eq, bnd_some]
    refine ⟨_, rfl, rfl, fun o ho => ⟨nw_ko (f := fun _ => 0) ho, ?_⟩, nw_k (f := fun _ => 0), fun i hi => ?_⟩
    · show (if o = g.1 then _ else (gnew g 6 n (fun _ => 0)).2.2 o) = _
      rw [if_neg (by omega), nw_ho ho]
    · show (if g.1 = g.1 then va_cpy ((gnew g 6 n (fun _ => 0)).2.2 v) ((gnew g 6 n (fun _ => 0)).2.2 g.1) (ix (nI 0)) (ix (nI 0)) (ix (nI n)) else _) i = _
      rw [if_pos rfl, ix_n (by omega), ix_n (by omega), pk_cpy_in (by omega) (by omega), nw_ho hv]
      exact congrArg (g.2.2 v) (show 0 + (i - 0) = i by omega)
/-- toString -/
theorem sb_txt {n0 : Nat} {g : PL} {o v : Nat} {bs : List Nat} (s : SB n0 g o v bs) (hn0 : n0 ≤ g.1) (hp : g.1 ≤ 700000) : Wp (fp_J4_toString_0e30d g o) (fun u => u.1 = g.1 ∧ ST (g.1 + 2) u.2 g.1 bs ∧ Fr n0 2 g u.2 ∧ u.2.1 = g.1 + 2) := by
  have ho := s.o
  have hvl := s.vl
  have hcap := s.cap
  have h6 := s.c6
  have e0 : gnew g 3 0 (dfl 3) = gnew g 3 0 (dfl 3) := rfl
  generalize hg1 : gnew g 3 0 (dfl 3) = g1 at e0
  have n1 : g1.1 = g.1 + 1 := by rw [← hg1]; rfl
  have sh : ∀ q, q < g.1 → g1.2.1 q = g.2.1 q := fun q hq => by rw [← hg1]; exact nw_ko hq
  have hh : ∀ q, q < g.1 → g1.2.2 q = g.2.2 q := fun q hq => by rw [← hg1]; exact nw_ho hq
  have kx : g1.2.1 g.1 = (3, 0) := by rw [← hg1]; exact nw_k
  have k1 : gk g1 o 2 = true := gk_i (by omega) (by rw [sh o ho]; exact s.k)
  have k3 : gk g1 g.1 3 = true := gk_i (by omega) (by rw [kx])
  unfold fp_J4_toString_0e30d
  rw [ck_of (rkb_i s.o), ck_of (ngw_i (by omega) (by omega)), stp_eq, hg1, ck_of (rkb_i (by omega))]
  have el : fp_J5_isLatin1_aae02 g1 o = some (nI 1) := by
    unfold fp_J5_isLatin1_aae02
    rw [if_neg (show ¬ (1 : Int32) = 0 by decide), ck_of k1, hh o ho, if_pos (show g.2.2 o 1 = 0 from s.c)]
    rfl
  obtain ⟨g', r1, r2, r3, r4, r5⟩ := cpRange (g := gu g1 g.1 1 0) (v := v) (n := bs.length) (by show v < g1.1; omega) (by rw [gu_s, sh v hvl]; exact s.vk) (by rw [gu_s, sh v hvl]; exact hcap) (by rw [gu_s, sh v hvl]; exact h6) (by show g1.1 ≤ 800000; omega)
  rw [gu_n] at r1 r2 r3 r4 r5
  have k5 : gk g' g.1 3 = true := gk_i (by omega) (by rw [(r3 g.1 (by omega)).1, gu_s, kx])
  have ev : ∃ g8, fp_J0_init_81219 g1 g.1 o = some g8 ∧ g8 = gu g' g.1 0 (nI g1.1) := by
    unfold fp_J0_init_81219 fp_J0_init_db425 fp_J5_getValue_6d5f1 fp_J4_length_8abf5 fp_J5_length_8abf5
    rw [ck_of k1, ckn_of k1 (by rw [hh o ho]; exact s.w) (by omega), bnd_some, ck_of k1, ck_of k1, ck_of k1, bnd_some, bnd_some, ck_of k1, el, bnd_some, if_neg (show ¬ (nI 1 : Int32) = 0 by decide), ck_of k3, stp_eq, ck_of (rkb_i (show g.1 < (gu g1 g.1 1 0).1 by show g.1 < g1.1; omega)), hh o ho, s.l]
    rw [show (nI 0 : Int32) = 0 from rfl] at r1
    rw [r1, bnd_some, ck_of (by rw [k5, rkb_i (show g1.1 < g'.1 by omega), lt31 (by omega)]; rfl), stp_eq, bnd_some]
    exact ⟨_, rfl, rfl⟩
  obtain ⟨g8, e8, e9⟩ := ev
  rw [e8, bnd_some]
  have z9 : ∀ q, ¬ q = g.1 → g8.2.2 q = g'.2.2 q := fun q hq => by rw [e9, gu_h]; exact up_o hq
  have z8 : ∀ q, g8.2.1 q = g'.2.1 q := fun q => by rw [e9]; rfl
  have z1 : g8.1 = g.1 + 2 := by rw [e9, gu_n, r2, n1]
  have zb : ∀ q, q < g1.1 → ¬ q = g.1 → g'.2.2 q = g1.2.2 q := fun q hq hn => by rw [(r3 q hq).2, gu_h]; exact up_o hn
  refine wp_some.mpr ⟨rfl, Or.inr ⟨g1.1, by omega, by omega, by show g.1 < g8.1; omega, by show g1.1 < g8.1; omega, ?_, ?_, ?_, ?_, fun i hi => ?_⟩, ⟨by show g.1 ≤ g8.1; omega, by show g8.1 ≤ _; omega, fun q hq => ?_, fun q hq => ?_⟩, z1⟩
  · show (g8.2.1 g.1).1 = 3
    rw [z8, (r3 g.1 (by omega)).1, gu_s, kx]
  · show g8.2.2 g.1 0 = nI g1.1
    rw [e9, gu_h, up_ss]
  · show g8.2.2 g.1 1 = nI 0
    rw [e9, gu_h, up_sn (by decide), (r3 g.1 (by omega)).2, gu_h, up_ss]
    rfl
  · show g8.2.1 g1.1 = _
    rw [z8, r4]
  · show g8.2.2 g1.1 i = _
    rw [z9 _ (by omega), r5 i hi, gu_h, up_o (by omega), hh v hvl]
    exact s.b i hi
  · show g8.2.1 q = _
    rw [z8, (r3 q (by omega)).1, gu_s, sh q hq]
  · show g8.2.2 q = _
    rw [z9 q (by omega), zb q (by omega) (by omega), hh q (by omega)]
