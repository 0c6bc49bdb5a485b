/-! the recording that the law draws, whole -/
/-- what the law keeps of recording and film: R and E as the class's, f the film's row -/
def DG (g : PL) (R : Nat → Nat → Nat) (E : Nat → Nat → Nat) (wid : Nat → Nat) (f : Nat) : Prop :=
  (DK g) ∧
  (g.2.2 1 5 = nI (R 0 4)) ∧
  (g.2.2 1 7 = nI (R 0 13)) ∧
  (g.2.2 1 0 = nI (R 0 0)) ∧
  (g.2.2 1 1 = nI (R 0 1)) ∧
  (∀ w, w < R 0 4 → g.2.2 2 w = nI (wid w) ∧ 12 ≤ wid w ∧ wid w < g.1 ∧ g.2.1 (wid w) = (4, 5) ∧ g.2.2 (wid w) 0 = nI (R 3 w) ∧ g.2.2 (wid w) 2 = nI (R 4 w) ∧ g.2.2 (wid w) 3 = nI (R 5 w) ∧ g.2.2 (wid w) 4 = nI (R 6 w)) ∧
  (∀ b, b ≤ R 0 13 → g.2.2 4 b = nI (R 9 b)) ∧
  (∀ b, b < R 0 13 → g.2.2 5 b = nI (R 10 b)) ∧
  (∀ b, b < R 0 13 → g.2.2 6 b = nI (R 11 b)) ∧
  (∀ b, b + 1 < R 0 13 → g.2.2 7 b = nI (R 12 b)) ∧
  (∀ b, b < 40 → g.2.2 8 b = nI (E 3 b)) ∧
  (∀ b, b < 40 → g.2.2 9 b = nI (E 4 b)) ∧
  (∀ w, w < 40 → g.2.2 10 w = nI (1 - E 1 w)) ∧
  (g.2.2 1 15 = nI f) ∧
  (12 ≤ f ∧ f < g.1) ∧
  (g.2.1 f = (4, E 0 1)) ∧
  (∀ s, s < E 0 1 → g.2.2 f s = nI (E 2 s)) ∧
  (E 5 0 = 0)
theorem DG.d {g : PL} {R : Nat → Nat → Nat} {E : Nat → Nat → Nat} {wid : Nat → Nat} {f : Nat} (q : DG g R E wid f) : DK g := q.1
theorem DG.n {g : PL} {R : Nat → Nat → Nat} {E : Nat → Nat → Nat} {wid : Nat → Nat} {f : Nat} (q : DG g R E wid f) : g.2.2 1 5 = nI (R 0 4) := q.2.1
theorem DG.bn {g : PL} {R : Nat → Nat → Nat} {E : Nat → Nat → Nat} {wid : Nat → Nat} {f : Nat} (q : DG g R E wid f) : g.2.2 1 7 = nI (R 0 13) := q.2.2.1
theorem DG.len {g : PL} {R : Nat → Nat → Nat} {E : Nat → Nat → Nat} {wid : Nat → Nat} {f : Nat} (q : DG g R E wid f) : g.2.2 1 0 = nI (R 0 0) := q.2.2.2.1
theorem DG.han {g : PL} {R : Nat → Nat → Nat} {E : Nat → Nat → Nat} {wid : Nat → Nat} {f : Nat} (q : DG g R E wid f) : g.2.2 1 1 = nI (R 0 1) := q.2.2.2.2.1
theorem DG.w {g : PL} {R : Nat → Nat → Nat} {E : Nat → Nat → Nat} {wid : Nat → Nat} {f : Nat} (q : DG g R E wid f) : ∀ w, w < R 0 4 → g.2.2 2 w = nI (wid w) ∧ 12 ≤ wid w ∧ wid w < g.1 ∧ g.2.1 (wid w) = (4, 5) ∧ g.2.2 (wid w) 0 = nI (R 3 w) ∧ g.2.2 (wid w) 2 = nI (R 4 w) ∧ g.2.2 (wid w) 3 = nI (R 5 w) ∧ g.2.2 (wid w) 4 = nI (R 6 w) := q.2.2.2.2.2.1
theorem DG.first {g : PL} {R : Nat → Nat → Nat} {E : Nat → Nat → Nat} {wid : Nat → Nat} {f : Nat} (q : DG g R E wid f) : ∀ b, b ≤ R 0 13 → g.2.2 4 b = nI (R 9 b) := q.2.2.2.2.2.2.1
theorem DG.beg {g : PL} {R : Nat → Nat → Nat} {E : Nat → Nat → Nat} {wid : Nat → Nat} {f : Nat} (q : DG g R E wid f) : ∀ b, b < R 0 13 → g.2.2 5 b = nI (R 10 b) := q.2.2.2.2.2.2.2.1
theorem DG.ends {g : PL} {R : Nat → Nat → Nat} {E : Nat → Nat → Nat} {wid : Nat → Nat} {f : Nat} (q : DG g R E wid f) : ∀ b, b < R 0 13 → g.2.2 6 b = nI (R 11 b) := q.2.2.2.2.2.2.2.2.1
theorem DG.cut {g : PL} {R : Nat → Nat → Nat} {E : Nat → Nat → Nat} {wid : Nat → Nat} {f : Nat} (q : DG g R E wid f) : ∀ b, b + 1 < R 0 13 → g.2.2 7 b = nI (R 12 b) := q.2.2.2.2.2.2.2.2.2.1
theorem DG.head {g : PL} {R : Nat → Nat → Nat} {E : Nat → Nat → Nat} {wid : Nat → Nat} {f : Nat} (q : DG g R E wid f) : ∀ b, b < 40 → g.2.2 8 b = nI (E 3 b) := q.2.2.2.2.2.2.2.2.2.2.1
theorem DG.tail {g : PL} {R : Nat → Nat → Nat} {E : Nat → Nat → Nat} {wid : Nat → Nat} {f : Nat} (q : DG g R E wid f) : ∀ b, b < 40 → g.2.2 9 b = nI (E 4 b) := q.2.2.2.2.2.2.2.2.2.2.2.1
theorem DG.out {g : PL} {R : Nat → Nat → Nat} {E : Nat → Nat → Nat} {wid : Nat → Nat} {f : Nat} (q : DG g R E wid f) : ∀ w, w < 40 → g.2.2 10 w = nI (1 - E 1 w) := q.2.2.2.2.2.2.2.2.2.2.2.2.1
theorem DG.film {g : PL} {R : Nat → Nat → Nat} {E : Nat → Nat → Nat} {wid : Nat → Nat} {f : Nat} (q : DG g R E wid f) : g.2.2 1 15 = nI f := q.2.2.2.2.2.2.2.2.2.2.2.2.2.1
theorem DG.fo {g : PL} {R : Nat → Nat → Nat} {E : Nat → Nat → Nat} {wid : Nat → Nat} {f : Nat} (q : DG g R E wid f) : 12 ≤ f ∧ f < g.1 := q.2.2.2.2.2.2.2.2.2.2.2.2.2.2.1
theorem DG.fk {g : PL} {R : Nat → Nat → Nat} {E : Nat → Nat → Nat} {wid : Nat → Nat} {f : Nat} (q : DG g R E wid f) : g.2.1 f = (4, E 0 1) := q.2.2.2.2.2.2.2.2.2.2.2.2.2.2.2.1
theorem DG.fv {g : PL} {R : Nat → Nat → Nat} {E : Nat → Nat → Nat} {wid : Nat → Nat} {f : Nat} (q : DG g R E wid f) : ∀ s, s < E 0 1 → g.2.2 f s = nI (E 2 s) := q.2.2.2.2.2.2.2.2.2.2.2.2.2.2.2.2.1
theorem DG.fl {g : PL} {R : Nat → Nat → Nat} {E : Nat → Nat → Nat} {wid : Nat → Nat} {f : Nat} (q : DG g R E wid f) : E 5 0 = 0 := q.2.2.2.2.2.2.2.2.2.2.2.2.2.2.2.2.2
theorem Rds.wd : ∀ {ls : List Ln} {R R' : Nat → Nat → Nat}, Rds ls R R' → WD R → WD R' := by
  intro ls
  induction ls with
  | nil => intro R R' h d; cases h; exact d
  | cons l ls ih => intro R R' ⟨R1, h1, h2⟩ d; exact ih h2 (h1.wd d)
section
variable {g : PL} {P S : Nat → Nat → Nat} {wid bid : Nat → Nat} {n nb T : Nat}
theorem d_film {Q : PL → Prop} {k : Nat} (d : DK g) (hp : g.1 ≤ 500000) (h7 : g.2.2 1 7 = nI k) (hk : k ≤ 40) (fin : ∀ g', g'.1 = g.1 + 1 → (∀ o, o < g.1 → g'.2.1 o = g.2.1 o) → (∀ o, o < g.1 → ¬ o = 1 → g'.2.2 o = g.2.2 o) → (∀ j, ¬ j = 15 → g'.2.2 1 j = g.2.2 1 j) → g'.2.2 1 15 = nI g.1 → g'.2.1 g.1 = (4, k) → (∀ j, j < k → g'.2.2 g.1 j = nI j) → Q g') : Wp (Jp_X11_layBlocks_291 1 g) Q := by
  have h12 := d.n
  obtain ⟨u1, hu1⟩ : ∃ u, u = gu (gnew g 4 k (fun _ => 0)) 1 15 (nI g.1) := ⟨_, rfl⟩
  have n1 : u1.1 = g.1 + 1 := by rw [hu1]; rfl
  have k1 : ∀ o, o < g.1 → u1.2.1 o = g.2.1 o := fun o ho => by
    rw [hu1]
    show (gnew g 4 k (fun _ => 0)).2.1 o = _
    rw [nw_ko ho]
  have kf : u1.2.1 g.1 = (4, k) := by
    rw [hu1]
    show (gnew g 4 k (fun _ => 0)).2.1 g.1 = _
    rw [nw_k]
  have v1 : ∀ o, o < g.1 → ¬ o = 1 → u1.2.2 o = g.2.2 o := fun o ho h => by rw [hu1, gu_h, up_o h, nw_ho ho]
  have f1 : ∀ j, ¬ j = 15 → u1.2.2 1 j = g.2.2 1 j := fun j h => by rw [hu1, gu_h, up_sn h, nw_ho (by omega)]
  have f15 : u1.2.2 1 15 = nI g.1 := by rw [hu1, gu_h, up_ss]
  unfold Jp_X11_layBlocks_291
  rw [ck_of d.g1, ck_of (rkb_i (show 1 < g.1 by omega)), h7, ix_n (show k < 2147483648 by omega), ck_of (by rw [ngw_i (by omega) (by omega), decide_eq_true (nI_pos' (show k < 2147483648 by omega))]; rfl), stp_eq, ck_of (by rw [show gk (gnew g 4 k (fun _ => 0)) 1 0 = true from gk_i (by show 1 < g.1 + 1; omega) (by rw [nw_ko (by omega), d.k1]), rkb_i (show g.1 < (gnew g 4 k (fun _ => 0)).1 from Nat.lt_succ_self _), lt31 (by omega)]; rfl), ← hu1, stp_eq]
  refine wp_for (i := 0) k (fun i s => ∃ g1, s = (nI i, g1) ∧ O1 g.1 u1 g1 ∧ ∀ j, j < i → g1.2.2 g.1 j = nI j) (by omega) (Nat.zero_le _) ⟨u1, rfl, O1.rf _ _, fun j h => absurd h (Nat.not_lt_zero _)⟩ ?_
  rintro i s r hi ⟨g1, rfl, ⟨a1, a2, a3⟩, v⟩ kk
  have G1 : gk g1 1 0 = true := gk_i (by omega) (by rw [a2, k1 1 (by omega), d.k1])
  have F7 : g1.2.2 1 7 = nI k := by rw [a3 1 (by omega), f1 7 (by decide)]; exact h7
  have F15 : g1.2.2 1 15 = nI g.1 := by rw [a3 1 (by omega)]; exact f15
  unfold Fp_X11_layBlocks_303
  dsimp only
  rw [ck_of G1, F7]
  by_cases z : i < k
  · have e : gl g1 g.1 = k := by show (g1.2.1 g.1).2 = k; rw [a2, kf]
    rw [if_pos (lty z (by omega)), ckn_of G1 F15 (by omega), ck_of (by rw [gk_i (show g.1 < g1.1 by omega) (by rw [a2, kf]), e, inb_t z (by omega)]; rfl), ix_n (show i < 2147483648 by omega), stp_eq, show nI i + (1 : Int32) = nI (i + 1) from nI_add i 1, stp_eq]
    refine kk _ z ⟨gu g1 g.1 i (nI i), rfl, (show O1 g.1 u1 g1 from ⟨a1, a2, a3⟩).tr (O1.up _ _ _ _), fun j hj => ?_⟩
    rw [gu_h]
    by_cases y : j = i
    · rw [y, up_ss]
    · rw [up_sn y]; exact v j (by omega)
  · have e : i = k := by omega
    subst e
    rw [if_neg (ltn (by omega) (by omega))]
    refine wp_some.mpr (fin g1 (by omega) (fun o ho => by rw [a2, k1 o ho]) (fun o ho h => by rw [a3 o (by omega), v1 o ho h]) (fun j h => by rw [a3 1 (by omega), f1 j h]) F15 (by rw [a2]; exact kf) v)
theorem d_lay {H x : Nat} {ts : List Nat} (q : WB g P wid bid n nb T) (hD : WD P) (hh : holds P (P 0 4)) (h3 : 1 ≤ n) (hT : T < 1000) (hPT : P 0 0 = T) (hPH : P 0 1 = H) (hnb : nb ≤ 12) (hp : g.1 ≤ 1600) (h1 : g.2.2 1 1 = nI H) (h7 : g.2.2 1 7 = nI 0) (hz : ∀ o, 4 ≤ o → o < 12 → g.2.2 o = fun _ => 0) (hx : ST g.1 g x ts) (hx16 : g.2.2 1 16 = nI x) : Wp (bnd (fp_X11_layBlocks g 1) (fun u => some u)) (fun G => (∃ f, DG G (fR P) (eE (fR P 0 13)) wid f) ∧ ST G.1 G x ts ∧ G.2.2 1 16 = nI x ∧ G.1 = g.1 + 1) := by
  have h40 := hD.w40
  have hn := q.rn
  have ib := IB.all hD hh (P 0 4) (Nat.le_refl _)
  have W := fR_WR hD hh
  refine wp_bnd.mpr (d_bl q hD hh hT hPT h7 hz (fun g1 q1 l1 f1 => ?_))
  rw [← hn] at l1
  have Bn : fB P 0 13 = bS P (P 0 4) 0 13 := fB_o (by decide)
  have B7 : ∀ i, fB P 7 i = P 7 i := fun i => by rw [fB_o (by decide)]; exact ib.s 7 i (by decide) (by decide) (by decide) (by decide) (by omega)
  have B8 : ∀ i, fB P 8 i = P 8 i := fun i => by rw [fB_o (by decide)]; exact ib.s 8 i (by decide) (by decide) (by decide) (by decide) (by omega)
  have hk0 : 1 ≤ fB P 0 13 := by rw [Bn]; exact ib.pos (by omega)
  have hk : fB P 0 13 ≤ 40 := by rw [Bn]; have := ib.bw; omega
  have en : fR P 0 13 = fB P 0 13 := fR_o (by decide)
  have e9 : ∀ b, fR P 9 b = fB P 9 b := fun b => fR_o (by decide)
  have e10 : ∀ b, fR P 10 b = fB P 10 b := fun b => fR_o (by decide)
  have e11 : ∀ b, fR P 11 b = fB P 11 b := fun b => fR_o (by decide)
  have e6 : ∀ b, fR P 6 b = fB P 6 b := fun b => fR_o (by decide)
  have s04 : fR P 0 4 = P 0 4 := fR_s hD hh (by decide) (by decide) (by decide) (by decide) (by decide) (by decide)
  have s00 : fR P 0 0 = P 0 0 := fR_s hD hh (by decide) (by decide) (by decide) (by decide) (by decide) (by decide)
  have s01 : fR P 0 1 = P 0 1 := fR_s hD hh (by decide) (by decide) (by decide) (by decide) (by decide) (by decide)
  have s3 : ∀ j, fR P 3 j = P 3 j := fun j => fR_s hD hh (by decide) (by decide) (by decide) (by decide) (by omega) (by decide)
  have s4 : ∀ j, fR P 4 j = P 4 j := fun j => fR_s hD hh (by decide) (by decide) (by decide) (by decide) (by omega) (by decide)
  have s5 : ∀ j, fR P 5 j = P 5 j := fun j => fR_s hD hh (by decide) (by decide) (by decide) (by decide) (by omega) (by decide)
  -- behind the last block stands the number of words
  obtain ⟨g2, hg2⟩ : ∃ u, u = gu g1 4 (bS P (P 0 4) 0 13) (nI n) := ⟨_, rfl⟩
  have o2 : O1 4 g1 g2 := by rw [hg2]; exact O1.up _ _ _ _
  have q2 := q1.o1 (by decide) (by decide) o2
  have hwd : ∀ v, v < n → 12 ≤ wid v := fun v hv => (q.w v hv).2.1
  have l2 : LX g2 (fB P) wid n := by
    refine ⟨by rw [o2.2.2 1 (by decide), Bn]; exact l1.n7, fun b hb => ?_, fun b hb => ?_, fun b hb => ?_, fun v hv => ⟨hwd v hv, ?_⟩⟩
    · rw [Bn] at hb
      rw [hg2, gu_h]
      unfold fB
      by_cases z : b = bS P (P 0 4) 0 13
      · rw [z, up_ss, setE_s, hn]
      · rw [up_sn z, setE_n z]; exact l1.f b (by omega)
    · rw [Bn] at hb
      rw [o2.2.2 5 (by decide), fB_o (by decide)]; exact l1.b b hb
    · rw [Bn] at hb
      rw [o2.2.2 6 (by decide), fB_o (by decide), l1.e, if_pos hb]
    · rw [o2.2.2 _ (by have := hwd v hv; omega), fB_o (by decide)]; exact l1.k v (by omega)
  have ho : ∀ b, b + 1 < fB P 0 13 → fB P 11 b ≤ fB P 10 (b + 1) ∧ fB P 10 (b + 1) < 1000 := fun b hb => by
    rw [Bn] at hb
    rw [fB_o (show ¬ 11 = 9 by decide), fB_o (show ¬ 10 = 9 by decide)]
    have h1 := ib.ord b hb
    have h2 := ib.bse (b + 1) hb
    omega
  have p4 : g1.2.2 1 8 = nI 4 := q1.d.f8 8 (by decide) (by decide)
  unfold Jp_X11_layBlocks_148
  rw [ckn_of q1.d.g1 p4 (by omega), ck_of q1.d.g1, ck_of q1.d.g1, l1.n7, ck_of (q1.d.i41 (p := 4) (by decide) (by decide) (by omega)), ix_n (show bS P (P 0 4) 0 13 < 2147483648 by omega), q1.n5, ← hg2, stp_eq]
  refine d_cuts q2 l2 hnb B7 B8 hk0 hk ho (fun g3 o3 v3 => ?_)
  have q3 := q2.o1 (by decide) (by decide) o3
  have l3 := l2.o1 o3
  have n3 : g3.1 = g.1 := by rw [o3.1, o2.1, f1.1]
  refine d_film q3.d (by omega) l3.n7 hk (fun g4 n4 k4 v4 f4 f15 kf vf => wp_some.mpr ?_)
  have q3d := q3.d.n
  -- what has changed from the first pool on
  have K : ∀ o, o < g.1 → g4.2.1 o = g.2.1 o := fun o ho => by rw [k4 o (by omega), o3.2.1, o2.2.1, f1.2.1]
  have V : ∀ o, o < g.1 → ¬ o = 1 → ¬ (4 ≤ o ∧ o ≤ 7) → (∀ v, v < n → ¬ o = wid v) → g4.2.2 o = g.2.2 o := fun o ho a1 a4 a => by
    rw [v4 o (by omega) a1, o3.2.2 o (by omega), o2.2.2 o (by omega), f1.2.2.2.1 o a1 (by omega) a]
  have F : ∀ j, ¬ j = 7 → ¬ j = 15 → g4.2.2 1 j = g.2.2 1 j := fun j a7 a15 => by
    rw [f4 j a15, o3.2.2 1 (by decide), o2.2.2 1 (by decide), f1.2.2.1 j a7]
  refine ⟨⟨g3.1, ?_⟩, ?_, by rw [F 16 (by decide) (by decide)]; exact hx16, by omega⟩
  · refine ⟨q3.d.cg (by omega) (by omega) k4 (fun j a1 a2 a3 a4 a5 a6 => f4 j a5), ?_, ?_, ?_, ?_, fun w hw => ?_, fun b hb => ?_, fun b hb => ?_, fun b hb => ?_, fun b hb => ?_, fun b hb => ?_, fun b hb => ?_, fun b hb => ?_, f15, ⟨q3d, by omega⟩, ?_, fun s hs => ?_, rfl⟩
    · rw [s04, hn, f4 5 (by decide)]; exact q3.n5
    · rw [f4 7 (by decide), en]; exact l3.n7
    · rw [s00, hPT, f4 0 (by decide)]; exact q3.n0
    · rw [s01, hPH, F 1 (by decide) (by decide)]; exact h1
    · rw [s04, hn] at hw
      obtain ⟨w1, w2, w3, w4, w5, w6, -⟩ := q3.w w hw
      obtain ⟨x1, -⟩ := q3.wx w hw
      have x2 := (l3.k w hw).2
      rw [s3, s4, s5, e6, v4 2 (by omega) (by decide), k4 _ w3, v4 _ w3 (by omega)]
      exact ⟨w1, w2, by omega, w4, w5, w6, x1, x2⟩
    · rw [en] at hb
      rw [e9, v4 4 (by omega) (by decide)]; exact l3.f b hb
    · rw [en] at hb
      rw [e10, v4 5 (by omega) (by decide)]; exact l3.b b hb
    · rw [en] at hb
      rw [e11, v4 6 (by omega) (by decide)]; exact l3.e b hb
    · rw [en] at hb
      rw [v4 7 (by omega) (by decide), v3 b hb]
      have := (cS_v (R := fB P) (j := b) (fB P 0 13) (by omega)).1 hb
      have e10' : fB P 0 10 = nb := by
        rw [fB_o (by decide), ← q.rb]
        exact ib.s 0 10 (by decide) (by decide) (by decide) (by decide) (by decide)
      rw [e10'] at this
      exact congrArg nI this.1.symm
    · rw [V 8 (by omega) (by decide) (by decide) (fun v hv => by have := hwd v hv; omega), hz 8 (by decide) (by decide)]; rfl
    · rw [V 9 (by omega) (by decide) (by decide) (fun v hv => by have := hwd v hv; omega), hz 9 (by decide) (by decide)]; rfl
    · rw [V 10 (by omega) (by decide) (by decide) (fun v hv => by have := hwd v hv; omega), hz 10 (by decide) (by decide)]; rfl
    · show g4.2.1 g3.1 = (4, fR P 0 13)
      rw [en]; exact kf
    · have hs : s < fR P 0 13 := hs
      rw [en] at hs
      exact vf s hs
  · have d := q.d
    refine hx.cg (by omega) (by omega) K (fun o ho h => V o ho ?_ ?_ ?_)
    · intro z
      rw [z, d.k1] at h; revert h; decide
    · intro z
      rw [d.kn o z.1 (by omega)] at h; revert h; decide
    · intro v hv z
      rw [z, (q.w v hv).2.2.2.1] at h; revert h; decide
end
theorem d_drawn {P : Nat → Nat → Nat} {v : Int32} : Wp (fp_X11_init (gnew (gD v) 0 0 (dfl 0)) 1 0) (fun G => ∃ R ls x wid f, WD R ∧ holds R (R 0 4) ∧ Rds ls (clR P) R ∧ 1 ≤ R 0 4 ∧ R 0 4 ≤ 10 ∧ R 0 0 < 1000 ∧ DG G (fR R) (eE (fR R 0 13)) wid f ∧ G.2.2 1 16 = nI x ∧ x < 4000 ∧ ST G.1 G x (flt ls) ∧ (flt ls).length ≤ 290 ∧ ls.length ≤ 18 ∧ G.1 ≤ 1601) := by
  refine d_init (P := P) (fun g x R ls wid bid n nb T H hn3 hn10 hH e1 e2 e3 e4 e5 e6 e7 e8 e9 e10 e11 e12 e13 e14 e15 e16 e17 => ?_)
  have hD := e9.wd cl_WD
  have hn := e1.rn
  have hh : holds R (R 0 4) := fun w hw => by
    have := (e1.wx w (by omega)).2.1
    omega
  refine Wp.mono (d_lay e1 hD hh (by omega) e3 e2 e4 (by omega) e12 e13 e14 e15 e8 e6) (fun G hG => ?_)
  obtain ⟨⟨f, a1⟩, a2, a3, a4⟩ := hG
  exact ⟨R, ls, x, wid, f, hD, hh, e9, by omega, by omega, by omega, a1, a3, e7, a2, e10, e11, by omega⟩
