/-! the law's cut points and its first film -/
/-- only object o0 has changed -/
def O1 (o0 : Nat) (g g' : PL) : Prop := g'.1 = g.1 ∧ g'.2.1 = g.2.1 ∧ ∀ o, ¬ o = o0 → g'.2.2 o = g.2.2 o
theorem O1.rf (o0 : Nat) (g : PL) : O1 o0 g g := ⟨rfl, rfl, fun _ _ => rfl⟩
theorem O1.tr {o0 : Nat} {a b c : PL} (p : O1 o0 a b) (q : O1 o0 b c) : O1 o0 a c := ⟨q.1.trans p.1, q.2.1.trans p.2.1, fun o h => (q.2.2 o h).trans (p.2.2 o h)⟩
theorem O1.up (o0 : Nat) (g : PL) (j : Nat) (v : Int32) : O1 o0 g (gu g o0 j v) := ⟨rfl, rfl, fun o h => by rw [gu_h, up_o h]⟩
theorem WB.o1 {g g' : PL} {R : Nat → Nat → Nat} {wid bid : Nat → Nat} {n nb T o0 : Nat} (q : WB g R wid bid n nb T) (h4 : 4 ≤ o0) (h12 : o0 < 12) (f : O1 o0 g g') : WB g' R wid bid n nb T := by
  obtain ⟨f1, f2, f4⟩ := f
  refine ⟨q.d.cg (by omega) (by rw [f1]; exact q.d.p) (fun o _ => by rw [f2]) (fun j a1 a2 a3 a4 a5 a6 => by rw [f4 1 (by omega)]), fun w hw => ?_, by rw [f4 1 (by omega)]; exact q.n5, q.rn, fun w hw => ?_, q.inj, by rw [f4 1 (by omega)]; exact q.n6, q.rb, fun i hi => ?_, by rw [f4 1 (by omega)]; exact q.n0⟩
  · have := (q.w w hw).2.1
    rw [f1, f2, f4 2 (by omega), f4 _ (by omega)]
    exact q.w w hw
  · have := (q.w w hw).2.1
    rw [f4 _ (by omega)]
    exact q.wx w hw
  · have := (q.b i hi).2.1
    rw [f1, f2, f4 3 (by omega), f4 _ (by omega)]
    exact q.b i hi
/-- the rows of the blocks -/
def LX (g : PL) (S : Nat → Nat → Nat) (wid : Nat → Nat) (n : Nat) : Prop :=
  (g.2.2 1 7 = nI (S 0 13)) ∧
  (∀ b, b ≤ S 0 13 → g.2.2 4 b = nI (S 9 b)) ∧
  (∀ b, b < S 0 13 → g.2.2 5 b = nI (S 10 b)) ∧
  (∀ b, b < S 0 13 → g.2.2 6 b = nI (S 11 b)) ∧
  (∀ v, v < n → 12 ≤ wid v ∧ g.2.2 (wid v) 4 = nI (S 6 v))
theorem LX.n7 {g : PL} {S : Nat → Nat → Nat} {wid : Nat → Nat} {n : Nat} (q : LX g S wid n) : g.2.2 1 7 = nI (S 0 13) := q.1
theorem LX.f {g : PL} {S : Nat → Nat → Nat} {wid : Nat → Nat} {n : Nat} (q : LX g S wid n) : ∀ b, b ≤ S 0 13 → g.2.2 4 b = nI (S 9 b) := q.2.1
theorem LX.b {g : PL} {S : Nat → Nat → Nat} {wid : Nat → Nat} {n : Nat} (q : LX g S wid n) : ∀ b, b < S 0 13 → g.2.2 5 b = nI (S 10 b) := q.2.2.1
theorem LX.e {g : PL} {S : Nat → Nat → Nat} {wid : Nat → Nat} {n : Nat} (q : LX g S wid n) : ∀ b, b < S 0 13 → g.2.2 6 b = nI (S 11 b) := q.2.2.2.1
theorem LX.k {g : PL} {S : Nat → Nat → Nat} {wid : Nat → Nat} {n : Nat} (q : LX g S wid n) : ∀ v, v < n → 12 ≤ wid v ∧ g.2.2 (wid v) 4 = nI (S 6 v) := q.2.2.2.2
theorem LX.o1 {g g' : PL} {S : Nat → Nat → Nat} {wid : Nat → Nat} {n : Nat} (q : LX g S wid n) (f : O1 7 g g') : LX g' S wid n := by
  obtain ⟨f1, f2, f4⟩ := f
  refine ⟨by rw [f4 1 (by decide)]; exact q.n7, by rw [f4 4 (by decide)]; exact q.f, by rw [f4 5 (by decide)]; exact q.b, by rw [f4 6 (by decide)]; exact q.e, fun v hv => ?_⟩
  have := (q.k v hv).1
  rw [f4 _ (by omega)]
  exact q.k v hv
section
variable {g : PL} {P S : Nat → Nat → Nat} {wid bid : Nat → Nat} {n nb T b : Nat}
theorem WB.rdb (q : WB g P wid bid n nb T) (h12 : nb ≤ 12) {i : Nat} (hi : i < nb) {α : Type} (K : Nat → Option α) : ckn (gk g 1 0) (g.2.2 1 4) (fun q => ckn (gk g q 7 && inb (nI i) (gl g q)) (g.2.2 q (ix (nI i))) K) = K (bid i) := by
  obtain ⟨w1, w2, w3, -⟩ := q.b i hi
  have := q.d.p
  rw [ckn_of q.d.g1 q.d.f4 (by omega), ix_n (by omega), ckn_of (by rw [q.d.g3, q.d.l3, inb_t (by omega) (by omega)]; rfl) w1 (by omega)]
theorem d_cut {Q : PL → Prop} (q : WB g P wid bid n nb T) (l : LX g S wid n) (h12 : nb ≤ 12) (s7 : ∀ i, S 7 i = P 7 i) (s8 : ∀ i, S 8 i = P 8 i) (hk : S 0 13 ≤ 40) (hb : b + 1 < S 0 13) (ho : S 11 b ≤ S 10 (b + 1)) (hs : S 10 (b + 1) < 1000) (r : Int32 × PL → Option PL) (fin : ∀ g', O1 7 g g' → g'.2.2 7 b = nI (cpS S b nb).2.1 → (∀ j, ¬ j = b → g'.2.2 7 j = g.2.2 7 j) → Wp (r (nI (b + 1), g')) Q) : Wp (Fp_X11_layBlocks_163 1 r (nI b, g)) Q := by
  have p6 : g.2.2 1 10 = nI 6 := q.d.f8 10 (by decide) (by decide)
  have p5 : g.2.2 1 9 = nI 5 := q.d.f8 9 (by decide) (by decide)
  have p7 : g.2.2 1 11 = nI 7 := q.d.f8 11 (by decide) (by decide)
  have i0 : ix (0 : Int32) = 0 := ix_n (a := 0) (by decide)
  have i1 : ix (1 : Int32) = 1 := ix_n (a := 1) (by decide)
  unfold Fp_X11_layBlocks_163
  dsimp only
  rw [ck_of q.d.g1, l.n7, show nI b + (1 : Int32) = nI (b + 1) from nI_add b 1, if_pos (lty hb (by omega)), ckn_of q.d.g1 p7 (by omega), ckn_of q.d.g1 p6 (by omega), ck_of (q.d.i41 (p := 6) (by decide) (by decide) (by omega)), ckn_of q.d.g1 p5 (by omega), ck_of (q.d.i41 (p := 5) (by decide) (by decide) (by omega)), ck_of (q.d.i41 (p := 7) (by decide) (by decide) (by omega)), ix_n (show b < 2147483648 by omega), ix_n (show b + 1 < 2147483648 by omega), l.e b (by omega), l.b (b + 1) hb, nI_add, show nI (S 11 b + S 10 (b + 1)) / (2 : Int32) = nI ((S 11 b + S 10 (b + 1)) / 2) from pk_div (d := 2) (by omega) (by omega) (by omega), stp_eq]
  refine wp_for (i := 0) nb (fun i s => ∃ g1, s = (nI (cpS S b i).1, nI i, g1) ∧ O1 7 g g1 ∧ g1.2.2 7 b = nI (cpS S b i).2.1 ∧ ∀ j, ¬ j = b → g1.2.2 7 j = g.2.2 7 j) (by omega) (Nat.zero_le _) ⟨_, rfl, O1.up _ _ _ _, by rw [gu_h, up_ss]; rfl, fun j hj => by rw [gu_h, up_sn hj]⟩ ?_
  rintro i s k hi ⟨g1, rfl, f1, v1, r1⟩ kk
  have q1 := q.o1 (by decide) (by decide) f1
  have l1 := l.o1 f1
  obtain ⟨c1, c2, c3, c4⟩ := cpS_b S b ho i
  have p61 : g1.2.2 1 10 = nI 6 := q1.d.f8 10 (by decide) (by decide)
  have p51 : g1.2.2 1 9 = nI 5 := q1.d.f8 9 (by decide) (by decide)
  have p71 : g1.2.2 1 11 = nI 7 := q1.d.f8 11 (by decide) (by decide)
  unfold Fp_X11_layBlocks_200
  dsimp only
  rw [ck_of q1.d.g1, q1.n6]
  by_cases z : i < nb
  · obtain ⟨w1, w2, w3, w4, w5, w6, w7, w8⟩ := q1.b i z
    have B0 : (gk g1 (bid i) 4 && inb (0 : Int32) (gl g1 (bid i))) = true := in2 w3 w4 (by decide)
    have B1 : (gk g1 (bid i) 4 && inb (1 : Int32) (gl g1 (bid i))) = true := in2 w3 w4 (by decide)
    rw [if_pos (lty z (by omega)), i0, i1, ckn_of q1.d.g1 p61 (by omega), ck_of (q1.d.i41 (p := 6) (by decide) (by decide) (by omega)), q1.rdb h12 z, ck_of B0, ix_n (show b < 2147483648 by omega), l1.e b (by omega), w5, ← s7 i, imax_n (by omega) (by rw [s7]; omega), stp_eq, ckn_of q1.d.g1 p51 (by omega), show nI b + (1 : Int32) = nI (b + 1) from nI_add b 1, ck_of (q1.d.i41 (p := 5) (by decide) (by decide) (by omega)), q1.rdb h12 z, ck_of B1, ix_n (show b + 1 < 2147483648 by omega), l1.b (b + 1) hb, w6, ← s8 i, imin_n (by omega) (by rw [s8]; omega), stp_eq]
    have b7 : S 7 i < 1000 := by rw [s7]; exact w7
    have b8 : S 8 i < 1000 := by rw [s8]; exact w8
    unfold Jp_X11_layBlocks_279
    by_cases y : max (S 11 b) (S 7 i) + (cpS S b i).1 < min (S 10 (b + 1)) (S 8 i)
    · rw [if_pos ((lt_sub (by omega) (by omega) (by omega)).mpr y), sub_n (by omega), stp_eq, ckn_of q1.d.g1 p71 (by omega), ck_of (q1.d.i41 (p := 7) (by decide) (by decide) (by omega)), nI_add, show nI (max (S 11 b) (S 7 i) + min (S 10 (b + 1)) (S 8 i)) / (2 : Int32) = nI ((max (S 11 b) (S 7 i) + min (S 10 (b + 1)) (S 8 i)) / 2) from pk_div (d := 2) (by omega) (by omega) (by omega), stp_eq, show nI i + (1 : Int32) = nI (i + 1) from nI_add i 1, stp_eq]
      refine kk _ z ⟨gu g1 7 b (nI ((max (S 11 b) (S 7 i) + min (S 10 (b + 1)) (S 8 i)) / 2)), ?_, f1.tr (O1.up 7 g1 b _), ?_, fun j hj => by rw [gu_h, up_sn hj]; exact r1 j hj⟩
      · rw [cpS_s, if_pos y]
      · rw [cpS_s, if_pos y, gu_h, up_ss]
    · rw [if_neg (fun v => y ((lt_sub (by omega) (by omega) (by omega)).mp v)), show nI i + (1 : Int32) = nI (i + 1) from nI_add i 1, stp_eq]
      refine kk _ z ⟨g1, ?_, f1, ?_, r1⟩
      · rw [cpS_s, if_neg y]
      · rw [cpS_s, if_neg y]; exact v1
  · have e : i = nb := by omega
    subst e
    rw [if_neg (ltn (by omega) (by omega))]
    unfold Jp_X11_layBlocks_285
    rw [show nI b + (1 : Int32) = nI (b + 1) from nI_add b 1, stp_eq]
    exact fin g1 f1 v1 r1
theorem d_cuts {Q : PL → Prop} (q : WB g P wid bid n nb T) (l : LX g S wid n) (h12 : nb ≤ 12) (s7 : ∀ i, S 7 i = P 7 i) (s8 : ∀ i, S 8 i = P 8 i) (hk0 : 1 ≤ S 0 13) (hk : S 0 13 ≤ 40) (ho : ∀ b, b + 1 < S 0 13 → S 11 b ≤ S 10 (b + 1) ∧ S 10 (b + 1) < 1000) (fin : ∀ g', O1 7 g g' → (∀ b, b + 1 < S 0 13 → g'.2.2 7 b = nI (cpS S b nb).2.1) → Wp (Jp_X11_layBlocks_291 1 g') Q) : Wp (Lp (Fp_X11_layBlocks_163 1) FU ((0 : Int32), g)) Q := by
  refine wp_for (i := 0) (S 0 13 - 1) (fun b s => ∃ g1, s = (nI b, g1) ∧ O1 7 g g1 ∧ ∀ b', b' < b → g1.2.2 7 b' = nI (cpS S b' nb).2.1) (by omega) (Nat.zero_le _) ⟨g, rfl, O1.rf _ _, fun b' h => absurd h (Nat.not_lt_zero _)⟩ ?_
  rintro b s r hb ⟨g1, rfl, f1, v1⟩ kk
  have q1 := q.o1 (by decide) (by decide) f1
  have l1 := l.o1 f1
  by_cases z : b < S 0 13 - 1
  · obtain ⟨h1, h2⟩ := ho b (by omega)
    refine d_cut q1 l1 h12 s7 s8 hk (by omega) h1 h2 r (fun g2 f2 v2 r2 => ?_)
    refine kk _ z ⟨g2, rfl, f1.tr f2, fun b' h => ?_⟩
    by_cases e : b' = b
    · rw [e]; exact v2
    · rw [r2 b' e]; exact v1 b' (by omega)
  · unfold Fp_X11_layBlocks_163
    dsimp only
    rw [ck_of q1.d.g1, l1.n7, show nI b + (1 : Int32) = nI (b + 1) from nI_add b 1, if_neg (ltn (by omega) (by omega))]
    exact fin g1 f1 (fun b' h => v1 b' (by omega))
end
