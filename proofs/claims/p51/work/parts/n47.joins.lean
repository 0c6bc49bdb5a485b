/-! a word joins the latest block just where an earlier word is still spoken -/
section
variable {P : Nat → Nat → Nat}
theorem wd_st (hD : WD P) : ∀ d v, v + d < P 0 4 → P 4 v ≤ P 4 (v + d) := by
  intro d
  induction d with
  | zero => intro v _; exact Nat.le_refl _
  | succ d ih =>
    intro v h
    exact Nat.le_trans (ih v (by omega)) (hD.srt (v + d) (by omega))
def AT (P S : Nat → Nat → Nat) (i : Nat) : Prop := ∀ b, b < S 0 13 → ∃ v, v < i ∧ P 5 v = S 11 b
theorem AT.all (hD : WD P) (hh : holds P (P 0 4)) : ∀ w, w ≤ P 0 4 → AT P (bS P w) w := by
  intro w
  induction w with
  | zero =>
    intro _ b hb
    have e : bS P 0 = P := rfl
    rw [e, hD.b0] at hb
    exact absurd hb (Nat.not_lt_zero _)
  | succ w ih =>
    intro hw b hb
    have q := ih (by omega)
    have ib := IB.all hD hh w (by omega)
    have e5 := ib.s 5 w (by decide) (by decide) (by decide) (by decide) (by omega)
    rw [bS_s] at hb ⊢
    unfold stB at hb ⊢
    by_cases e : newB (bS P w) w
    · rw [if_pos e] at hb ⊢
      rw [nw_n] at hb
      rw [nw_11]
      by_cases z : b = bS P w 0 13
      · rw [if_pos z]
        exact ⟨w, by omega, e5.symm⟩
      · obtain ⟨v, h1, h2⟩ := q b (by omega)
        rw [if_neg z]
        exact ⟨v, by omega, h2⟩
    · rw [if_neg e] at hb ⊢
      rw [ex_0 (by decide) (by decide)] at hb
      rw [ex_11]
      obtain ⟨v, h1, h2⟩ := q b hb
      by_cases z : b = bS P w 0 13 - 1
      · rw [if_pos z, ← z, e5]
        by_cases y : bS P w 11 b ≤ P 5 w
        · exact ⟨w, by omega, by omega⟩
        · exact ⟨v, by omega, by omega⟩
      · rw [if_neg z]
        exact ⟨v, by omega, h2⟩
theorem joins_iff (hD : WD P) (hh : holds P (P 0 4)) {w : Nat} (hw : w < P 0 4) : (∃ v, v < w ∧ P 4 w < P 5 v) ↔ ¬ newB (bS P w) w := by
  have q := IB.all hD hh w (by omega)
  have e4 := q.s 4 w (by decide) (by decide) (by decide) (by decide) (by omega)
  unfold newB
  rw [e4]
  constructor
  · rintro ⟨v, h1, h2⟩ hn
    obtain ⟨a1, a2, a3⟩ := q.wb v h1
    obtain ⟨-, -, c3⟩ := q.blk _ v a1 a2 h1 a3
    rcases hn with hn | hn
    · omega
    · by_cases z : bS P w 6 v + 1 = bS P w 0 13
      · rw [show bS P w 0 13 - 1 = bS P w 6 v by omega] at hn
        omega
      · have o := q.ord _ (show bS P w 6 v + 1 < bS P w 0 13 by omega)
        have f1 := q.f1 (bS P w 6 v + 1) (by omega)
        obtain ⟨-, d2, -⟩ := q.blk (bS P w 6 v + 1) (bS P w 9 (bS P w 6 v + 1)) (by omega) (Nat.le_refl _) f1 (fun y => q.f2 _ y)
        have m := wd_st hD (w - bS P w 9 (bS P w 6 v + 1)) (bS P w 9 (bS P w 6 v + 1)) (by omega)
        rw [show bS P w 9 (bS P w 6 v + 1) + (w - bS P w 9 (bS P w 6 v + 1)) = w by omega] at m
        omega
  · intro hn
    have z : ¬ bS P w 0 13 = 0 := fun y => hn (Or.inl y)
    obtain ⟨v, h1, h2⟩ := AT.all hD hh w (by omega) (bS P w 0 13 - 1) (by omega)
    refine ⟨v, h1, ?_⟩
    rw [h2]
    apply Classical.byContradiction
    intro y
    exact hn (Or.inr y)
end
/-! the law's blocks, word by word -/
/-- only first, begin, end, the number of blocks and the words' blocks have changed -/
def LZ (wid : Nat → Nat) (n : Nat) (g g' : PL) : Prop := g'.1 = g.1 ∧ g'.2.1 = g.2.1 ∧ (∀ j, ¬ j = 7 → g'.2.2 1 j = g.2.2 1 j) ∧ (∀ o, ¬ o = 1 → ¬ (4 ≤ o ∧ o ≤ 6) → (∀ v, v < n → ¬ o = wid v) → g'.2.2 o = g.2.2 o) ∧ ∀ v, v < n → ∀ j, ¬ j = 4 → g'.2.2 (wid v) j = g.2.2 (wid v) j
theorem LZ.rf (wid : Nat → Nat) (n : Nat) (g : PL) : LZ wid n g g := ⟨rfl, rfl, fun _ _ => rfl, fun _ _ _ _ => rfl, fun _ _ _ _ => rfl⟩
theorem LZ.tr {wid : Nat → Nat} {n : Nat} {a b c : PL} (p : LZ wid n a b) (q : LZ wid n b c) : LZ wid n a c := ⟨q.1.trans p.1, q.2.1.trans p.2.1, fun j h => (q.2.2.1 j h).trans (p.2.2.1 j h), fun o h1 h2 h3 => (q.2.2.2.1 o h1 h2 h3).trans (p.2.2.2.1 o h1 h2 h3), fun v hv j hj => (q.2.2.2.2 v hv j hj).trans (p.2.2.2.2 v hv j hj)⟩
theorem WB.lz {g g' : PL} {R : Nat → Nat → Nat} {wid bid : Nat → Nat} {n nb T : Nat} (q : WB g R wid bid n nb T) (f : LZ wid n g g') : WB g' R wid bid n nb T := by
  obtain ⟨f1, f2, f3, f4, f5⟩ := f
  have hx : ∀ v, v < n → 12 ≤ wid v := fun v hv => (q.w v hv).2.1
  refine ⟨q.d.cg (by omega) (by rw [f1]; exact q.d.p) (fun o _ => by rw [f2]) (fun j a1 a2 a3 a4 a5 a6 => f3 j a4), fun w hw => ?_, by rw [f3 5 (by decide)]; exact q.n5, q.rn, fun w hw => ?_, q.inj, by rw [f3 6 (by decide)]; exact q.n6, q.rb, fun i hi => ?_, by rw [f3 0 (by decide)]; exact q.n0⟩
  · rw [f1, f2, f4 2 (by decide) (by omega) (fun v hv => by have := hx v hv; omega), f5 w hw 0 (by decide), f5 w hw 2 (by decide)]
    exact q.w w hw
  · rw [f5 w hw 3 (by decide)]
    exact q.wx w hw
  · obtain ⟨w1, w2, w3, w4, w5⟩ := q.b i hi
    have hb : ∀ v, v < n → ¬ bid i = wid v := fun v hv e => by
      have := (q.w v hv).2.2.2.1
      rw [← e, w4] at this
      cases this
    rw [f1, f2, f4 3 (by decide) (by omega) (fun v hv => by have := hx v hv; omega), f4 _ (by omega) (by omega) hb]
    exact ⟨w1, w2, w3, w4, w5⟩
def LY (g : PL) (P : Nat → Nat → Nat) (S : Nat → Nat → Nat) (wid : Nat → Nat) (i : Nat) : Prop :=
  (g.2.2 1 7 = nI (S 0 13)) ∧
  (∀ b, b < S 0 13 → g.2.2 4 b = nI (S 9 b)) ∧
  (∀ b, b < S 0 13 → g.2.2 5 b = nI (S 10 b)) ∧
  (∀ b, g.2.2 6 b = nI (if b < S 0 13 then S 11 b else 0)) ∧
  (∀ v, v < i → g.2.2 (wid v) 4 = nI (S 6 v))
theorem LY.n7 {g : PL} {P : Nat → Nat → Nat} {S : Nat → Nat → Nat} {wid : Nat → Nat} {i : Nat} (q : LY g P S wid i) : g.2.2 1 7 = nI (S 0 13) := q.1
theorem LY.f {g : PL} {P : Nat → Nat → Nat} {S : Nat → Nat → Nat} {wid : Nat → Nat} {i : Nat} (q : LY g P S wid i) : ∀ b, b < S 0 13 → g.2.2 4 b = nI (S 9 b) := q.2.1
theorem LY.b {g : PL} {P : Nat → Nat → Nat} {S : Nat → Nat → Nat} {wid : Nat → Nat} {i : Nat} (q : LY g P S wid i) : ∀ b, b < S 0 13 → g.2.2 5 b = nI (S 10 b) := q.2.2.1
theorem LY.e {g : PL} {P : Nat → Nat → Nat} {S : Nat → Nat → Nat} {wid : Nat → Nat} {i : Nat} (q : LY g P S wid i) : ∀ b, g.2.2 6 b = nI (if b < S 0 13 then S 11 b else 0) := q.2.2.2.1
theorem LY.k {g : PL} {P : Nat → Nat → Nat} {S : Nat → Nat → Nat} {wid : Nat → Nat} {i : Nat} (q : LY g P S wid i) : ∀ v, v < i → g.2.2 (wid v) 4 = nI (S 6 v) := q.2.2.2.2
theorem in41 {u : PL} {p i : Nat} (h1 : p < u.1) (h2 : u.2.1 p = (4, 41)) (hi : i < 41) : (gk u p 4 && inb (nI i) (gl u p)) = true := by
  have e : gl u p = 41 := by show (u.2.1 p).2 = 41; rw [h2]
  rw [gk_i h1 (by rw [h2]), e, inb_t hi (by omega)]
  rfl
theorem DK.i41 {u : PL} (d : DK u) {p i : Nat} (h1 : 4 ≤ p) (h2 : p ≤ 9) (hi : i < 41) : (gk u p 4 && inb (nI i) (gl u p)) = true := in41 (by have := d.n; omega) (d.kn p h1 h2) hi
section
variable {g : PL} {P S : Nat → Nat → Nat} {wid bid : Nat → Nat} {n nb T w : Nat}
/-- reading a word's row -/
theorem WB.rd (q : WB g P wid bid n nb T) (h40 : n ≤ 40) (hw : w < n) {α : Type} (K : Nat → Option α) : ckn (gk g 1 0) (g.2.2 1 3) (fun q => ckn (gk g q 7 && inb (nI w) (gl g q)) (g.2.2 q (ix (nI w))) K) = K (wid w) := by
  obtain ⟨w1, w2, w3, -⟩ := q.w w hw
  have := q.d.p
  rw [ckn_of q.d.g1 q.d.f3 (by omega), ix_n (by omega), ckn_of (by rw [q.d.g2, q.d.l2, inb_t (by omega) (by omega)]; rfl) w1 (by omega)]
theorem WB.i5 (q : WB g P wid bid n nb T) (hw : w < n) {i : Int32} (hi : inb i 5 = true) : (gk g (wid w) 4 && inb i (gl g (wid w))) = true := in5 (q.w w hw).2.2.1 (q.w w hw).2.2.2.1 hi
theorem d_j95 (q : WB g P wid bid n nb T) (h40 : n ≤ 40) (hw : w < n) (hT : T < 1000) (hb : 0 < S 0 13) (hb2 : S 0 13 ≤ 40) (h7 : g.2.2 1 7 = nI (S 0 13)) (h4 : ∀ b, b < S 0 13 → g.2.2 4 b = nI (S 9 b)) (h5 : ∀ b, b < S 0 13 → g.2.2 5 b = nI (S 10 b)) {m : Nat} (h6 : ∀ b, g.2.2 6 b = nI (if b < S 0 13 - 1 then S 11 b else if b = S 0 13 - 1 then m else 0)) (hm : m < 100000) (hme : max m (P 5 w) = max (S 11 (S 0 13 - 1)) (S 5 w)) (hk : ∀ v, v < w → g.2.2 (wid v) 4 = nI (S 6 v)) (r : Int32 × PL → Option PL) : ∃ g', Jp_X11_layBlocks_95 1 g r (nI w) = r (nI (w + 1), g') ∧ WB g' P wid bid n nb T ∧ LY g' P (exB S w) wid (w + 1) ∧ LZ wid n g g' := by
  obtain ⟨w1, w2, w3, w4, w5, w6, w7, w8⟩ := q.w w hw
  obtain ⟨x1, x2, x3⟩ := q.wx w hw
  have i4 : ix (4 : Int32) = 4 := ix_n (a := 4) (by decide)
  have i3 : ix (3 : Int32) = 3 := ix_n (a := 3) (by decide)
  obtain ⟨g1, hg1⟩ : ∃ u, u = gu g (wid w) 4 (nI (S 0 13 - 1)) := ⟨_, rfl⟩
  have f1 : LZ wid n g g1 := by
    rw [hg1]
    refine ⟨rfl, rfl, fun j _ => by rw [gu_h, up_o (by omega)], fun o _ _ h => by rw [gu_h, up_o (h w hw)], fun v hv j hj => ?_⟩
    rw [gu_h]
    by_cases z : wid v = wid w
    · rw [z, up_sn hj]
    · rw [up_o z]
  have q1 := q.lz f1
  have c7 : g1.2.2 1 7 = nI (S 0 13) := by rw [hg1, gu_h, up_o (by omega)]; exact h7
  have c6 : ∀ b, g1.2.2 6 b = nI (if b < S 0 13 - 1 then S 11 b else if b = S 0 13 - 1 then m else 0) := fun b => by rw [hg1, gu_h, up_o (by omega)]; exact h6 b
  have y3 : g1.2.2 (wid w) 3 = nI (P 5 w) := (q1.wx w hw).1
  obtain ⟨g2, hg2⟩ : ∃ u, u = gu g1 6 (S 0 13 - 1) (nI (max m (P 5 w))) := ⟨_, rfl⟩
  have f2 : LZ wid n g1 g2 := by
    rw [hg2]
    exact ⟨rfl, rfl, fun j _ => by rw [gu_h, up_o (by decide)], fun o _ h _ => by rw [gu_h, up_o (by omega)], fun v hv j hj => by rw [gu_h, up_o (by have := (q.w v hv).2.1; omega)]⟩
  refine ⟨g2, ?_, q1.lz f2, ⟨?_, fun b hb => ?_, fun b hb => ?_, fun b => ?_, fun v hv => ?_⟩, f1.tr f2⟩
  · unfold Jp_X11_layBlocks_95
    rw [i4, i3, q.rd h40 hw, ck_of q.d.g1, ck_of (q.i5 hw (by decide)), h7, show nI (S 0 13) - (1 : Int32) = nI (S 0 13 - 1) from sub_n hb, ← hg1, stp_eq, ckn_of q1.d.g1 (q1.d.f8 10 (by decide) (by decide)) (by omega), ck_of q1.d.g1, ckn_of q1.d.g1 (q1.d.f8 10 (by decide) (by decide)) (by omega), ck_of q1.d.g1, c7, show nI (S 0 13) - (1 : Int32) = nI (S 0 13 - 1) from sub_n hb, ck_of (q1.d.i41 (p := 6) (by decide) (by decide) (by omega)), q1.rd h40 hw, ck_of (q1.i5 hw (by decide)), ck_of (q1.d.i41 (p := 6) (by decide) (by decide) (by omega)), ix_n (show S 0 13 - 1 < 2147483648 by omega)]
    rw [show imax (g1.2.2 (10 - 4) (S 0 13 - 1)) (g1.2.2 (wid w) 3) = nI (max m (P 5 w)) from by rw [show g1.2.2 (10 - 4) (S 0 13 - 1) = nI m from by rw [c6, if_neg (by omega), if_pos rfl], y3, imax_n (by omega) (by omega)]]
    rw [show gu g1 (10 - 4) (S 0 13 - 1) (nI (max m (P 5 w))) = g2 from hg2.symm, stp_eq, show nI w + (1 : Int32) = nI (w + 1) from nI_add w 1, stp_eq]
  · rw [ex_0 (by decide) (by decide), hg2, gu_h, up_o (by decide)]; exact c7
  · rw [ex_0 (by decide) (by decide)] at hb
    rw [ex_0 (by decide) (by decide), hg2, gu_h, up_o (by decide), hg1, gu_h, up_o (by omega)]; exact h4 b hb
  · rw [ex_0 (by decide) (by decide)] at hb
    rw [ex_0 (by decide) (by decide), hg2, gu_h, up_o (by decide), hg1, gu_h, up_o (by omega)]; exact h5 b hb
  · rw [ex_0 (by decide) (by decide), ex_11, hg2, gu_h]
    by_cases z : b = S 0 13 - 1
    · rw [z, up_ss, if_pos (by omega), if_pos rfl, hme]
    · rw [up_sn z, c6]
      by_cases y : b < S 0 13 - 1
      · rw [if_pos y, if_pos (by omega), if_neg z]
      · rw [if_neg y, if_neg z, if_neg (by omega)]
  · rw [ex_6, hg2, gu_h, up_o (by have := (q.w v (by omega)).2.1; omega), hg1, gu_h]
    by_cases z : v = w
    · rw [if_pos z, z, up_ss]
    · rw [if_neg z, up_o (fun y => z (q.inj v w (by omega) hw y))]
      exact hk v (by omega)
end
