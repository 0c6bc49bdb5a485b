/-! all speakers, drawn -/
theorem FT.tr {a b k : Nat} {g1 g2 g3 : PL} (p : FT a g1 g2) (q : FT b g2 g3) (h : a + b ≤ k) : FT k g1 g3 := by
  obtain ⟨p1, p2, p3, p4, p5⟩ := p
  obtain ⟨q1, q2, q3, q4, q5⟩ := q
  exact ⟨by omega, by omega, fun o ho => (q3 o (by omega)).trans (p3 o ho), fun o ho h1 => (q4 o (by omega) h1).trans (p4 o ho h1), fun j hj => (q5 j hj).trans (p5 j hj)⟩
theorem FT.rf (g : PL) : FT 0 g g := ⟨Nat.le_refl _, Nat.le_refl _, fun _ _ => rfl, fun _ _ _ => rfl, fun _ _ => rfl⟩
theorem spk_l (a : Nat) : (lnB (spkL a)).length = 11 := rfl
/-- a draft with s speakers and no more -/
def SD (R : Nat → Nat → Nat) (s : Nat) : Prop := R 0 2 = s ∧ (∀ i, i < s → R 1 i = 609 + i) ∧ R 0 4 = 0 ∧ R 0 10 = 0
theorem SD.next {R : Nat → Nat → Nat} {s : Nat} (d : SD R s) (hs : s < 4) : LStp (spkL (97 + s)) R (spkR R (609 + s)) ∧ SD (spkR R (609 + s)) (s + 1) := by
  obtain ⟨d1, d2, d3, d4⟩ := d
  refine ⟨⟨by omega, ⟨by show 97 ≤ 97 + s; omega, by show 97 + s ≤ 122; omega⟩, fun i hi => ?_, ?_⟩, ?_, fun i hi => ?_, ?_, ?_⟩
  · show ¬ R 1 i = 608 + (97 + s - 96)
    rw [d2 i (by omega)]
    omega
  · show spkR R (609 + s) = spkR R (608 + (97 + s - 96))
    rw [show 608 + (97 + s - 96) = 609 + s by omega]
  · unfold spkR
    rw [setE_s, d1]
  · unfold spkR
    rw [setE_o (by omega)]
    by_cases e : i = s
    · rw [d1, e, setE_s]
    · rw [setE_n (by rw [d1]; exact e)]
      exact d2 i (by omega)
  · unfold spkR
    rw [setE_n (by omega), setE_o (by omega)]
    exact d3
  · unfold spkR
    rw [setE_n (by omega), setE_o (by omega)]
    exact d4
theorem cl_SD (P : Nat → Nat → Nat) : SD (clR P) 0 := by
  obtain ⟨-, -, v2, v4, v10, -⟩ := cl_v (R := P)
  exact ⟨v2, fun i hi => absurd hi (Nat.not_lt_zero _), v4, v10⟩
theorem d_spks {P : Nat → Nat → Nat} {g0 : PL} {n : Nat} {Q : PL → Prop} (d : DK g0) (hp : g0.1 ≤ 1000) (h16 : g0.2.2 1 16 = nI 1000000) (hS : g0.2.2 1 2 = nI n) (hn : n ≤ 3) (fin : ∀ g x R ls, DK g → g.2.2 1 16 = nI x → x < 2000000 → ST g.1 g x (flt ls) → (flt ls).length = 11 * n → ls.length = n → Rds ls (clR P) R → SD R n → FT (8 * n) g0 g → Wp (Jp_X11_init_167 1 0 g) Q) : Wp (Lp (Fp_X11_init_114 1 0) FU (0, g0, 10)) Q := by
  refine wp_for (i := 0) n (fun i s => s.1 = nI i ∧ s.2.2 = 10 + 8 * i ∧ ∃ x R ls, DK s.2.1 ∧ s.2.1.2.2 1 16 = nI x ∧ x < 2000000 ∧ ST s.2.1.1 s.2.1 x (flt ls) ∧ (flt ls).length = 11 * i ∧ ls.length = i ∧ Rds ls (clR P) R ∧ SD R i ∧ FT (8 * i) g0 s.2.1) (by omega) (Nat.zero_le _) ⟨rfl, rfl, 1000000, clR P, [], d, h16, by omega, Or.inl ⟨by decide, by decide +kernel, fun i hi => absurd hi (Nat.not_lt_zero _)⟩, rfl, rfl, rfl, cl_SD P, FT.rf g0⟩ ?_
  rintro i ⟨x2, g, k⟩ r hi ⟨e1, e2, x, R, ls, dg, hx, hx2, hT, hl, hll, hr, sd, ft⟩ kk
  have e1 : x2 = nI i := e1
  have e2 : k = 10 + 8 * i := e2
  subst e1
  subst e2
  have dg : DK g := dg
  have hx : g.2.2 1 16 = nI x := hx
  have hT : ST g.1 g x (flt ls) := hT
  have ft : FT (8 * i) g0 g := ft
  have hS2 : g.2.2 1 2 = nI n := by rw [ft.2.2.2.2 2 (by decide)]; exact hS
  have hg := ft.2.1
  by_cases q : i < n
  · obtain ⟨g', x', e, d', h', hx', T', F'⟩ := d_spk dg (by omega) hx hx2 hT (by omega) (show i < 3 by omega) (k := 10 + 8 * i) (by omega) hS2 q (by omega) r
    obtain ⟨st, sd'⟩ := sd.next (by omega)
    rw [e]
    refine kk _ q ⟨rfl, by show 10 + 8 * i + 8 = _; omega, x', spkR R (609 + i), ls ++ [spkL (97 + i)], d', h', hx', ?_, ?_, ?_, hr.app ⟨_, st, rfl⟩, sd', ft.tr F' (by omega)⟩
    · rw [flt_app]
      show ST g'.1 g' x' (flt ls ++ (lnB (spkL (97 + i)) ++ []))
      rw [List.append_nil]
      exact T'
    · rw [flt_app, List.length_append, hl]
      show 11 * i + (lnB (spkL (97 + i)) ++ []).length = _
      rw [List.append_nil, spk_l]
      omega
    · rw [List.length_append, hll]
      rfl
  · have ei : i = n := by omega
    subst ei
    unfold Fp_X11_init_114
    dsimp only
    rw [ck_of dg.g1, hS2, if_neg (ltn (by omega) (by omega))]
    exact fin g x R ls dg hx hx2 hT hl hll hr sd ft
