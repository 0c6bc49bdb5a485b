/-! the acts; one recording; the law -/
theorem l_acts {c : Nat} {R : Nat → Nat → Nat} {wid : Nat → Nat} (hw0 : 1 ≤ R 0 4) : ∀ (n : Nat) (h : Hp) (g : PL) (E : Nat → Nat → Nat) (f : Nat), KH h c R E → DG g R E wid f → g.1 + 14 * n ≤ 200000 → ∃ q, f_acts n h g = some q ∧ gk q.2 0 1 = true := by
  intro n
  induction n with
  | zero =>
    intro h g E f p q hp
    exact ⟨(h, g), rfl, q.d.g0⟩
  | succ n ih =>
    intro h g E f p q hp
    obtain ⟨u, e2, n2, k2, v2⟩ := l_areWords p.1 q (by omega)
    have q2 : DG u R E wid f := q.cg (by omega) (by omega) k2 (fun o ho _ => v2 o ho)
    obtain ⟨⟨z, h3, g3⟩, e3, a1, E', f', a2, a3, a4⟩ := l_does p q2 hw0 (by omega)
    have a1 : z = 1 := a1
    have a2 : KH h3 c R E' := a2
    have a3 : DG g3 R E' wid f' := a3
    have a4 : g3.1 ≤ u.1 + 12 := a4
    subst a1
    obtain ⟨q4, e4, b4⟩ := ih h3 g3 E' f' a2 a3 (by omega)
    refine ⟨q4, ?_, b4⟩
    unfold f_acts
    rw [l_isAs p.1 q, bnd_some, ck_of (by rfl), e2, bnd_some]
    (try dsimp only)
    rw [ck_of (by rfl), e3, bnd_some]
    (try dsimp only)
    rw [ck_of (by rfl)]
    exact e4
theorem dgs_b {n : Nat} (h : n < 1000) : ∀ b ∈ dgs n, b < 128 := by
  intro b hb
  unfold dgs at hb
  split at hb
  · simp at hb; omega
  · split at hb <;> (simp at hb; omega)
theorem lnB_b {l : Ln} {R R' : Nat → Nat → Nat} (h : LStp l R R') : ∀ b ∈ lnB l, b < 128 := by
  obtain ⟨tag, a, b, sp, st, en⟩ := l
  rcases tag with _ | _ | _ | _ | tag
  · obtain ⟨-, hl, -⟩ := h
    intro x hx
    simp [lnB, kS] at hx
    have hl : 97 ≤ a ∧ a ≤ 122 := hl
    omega
  · obtain ⟨-, hl, ht, -, -, -, hse, hen, -⟩ := h
    intro x hx
    have d1 := dgs_b (n := st) (by have hse : st < en := hse; have hen : en < 1000 := hen; omega) x
    have d2 := dgs_b (n := en) hen x
    have hl : 97 ≤ a ∧ a ≤ 122 := hl
    have ht : 97 ≤ b ∧ b ≤ 122 := ht
    simp [lnB, kW] at hx
    rcases hx with hx | hx | hx | hx | hx | hx | hx | hx | hx | hx | hx | hx | hx | hx | hx <;> first | omega | exact d1 hx | exact d2 hx
  · obtain ⟨-, hab, hb, -⟩ := h
    intro x hx
    have d1 := dgs_b (n := a) (by have hab : a < b := hab; have hb : b < 1000 := hb; omega) x
    have d2 := dgs_b (n := b) hb x
    simp [lnB, kB] at hx
    rcases hx with hx | hx | hx | hx | hx | hx | hx | hx | hx | hx | hx <;> first | omega | exact d1 hx | exact d2 hx
  · obtain ⟨-, h2, -⟩ := h
    intro x hx
    have d1 := dgs_b (n := a) h2 x
    simp [lnB, kL] at hx
    rcases hx with hx | hx | hx | hx | hx | hx | hx | hx | hx <;> first | omega | exact d1 hx
  · obtain ⟨h2, -⟩ := h
    intro x hx
    have d1 := dgs_b (n := a) h2 x
    simp [lnB, kH] at hx
    rcases hx with hx | hx | hx | hx | hx | hx | hx | hx | hx <;> first | omega | exact d1 hx
theorem flt_b : ∀ {ls : List Ln} {R R' : Nat → Nat → Nat}, Rds ls R R' → ∀ b ∈ flt ls, b < 128 := by
  intro ls
  induction ls with
  | nil => intro R R' _ b hb; exact absurd hb List.not_mem_nil
  | cons l ls ih =>
    intro R R' ⟨R1, h1, h2⟩ b hb
    rcases List.mem_append.mp (show b ∈ lnB l ++ flt ls from hb) with y | y
    · exact lnB_b h1 b y
    · exact ih h2 b y
theorem flt_g {ls : List Ln} {R R' : Nat → Nat → Nat} (h : Rds ls R R') (i : Nat) : (flt ls).getD i 0 < 128 := by
  by_cases z : i < (flt ls).length
  · rw [List.getD_eq_getElem?_getD, List.getElem?_eq_getElem z]
    exact flt_b h _ (List.getElem_mem z)
  · rw [List.getD_eq_getElem?_getD, List.getElem?_eq_none (by omega)]
    decide
def P0C : Nat → Nat → Nat := fun o j => if o = 0 then (if j = 0 then 1000 else if j = 1 then 12 else 0) else 0
theorem h0C_97 : CR h0C 97 P0C := by
  have z : ∀ j, h0C 97 j = nI (P0C 0 j) := fun j => by
    show rcI j = nI (if j = 0 then 1000 else if j = 1 then 12 else 0)
    unfold rcI
    by_cases a : j = 0
    · rw [if_pos a, if_pos a]; rfl
    · rw [if_neg a, if_neg a]
      by_cases b : j = 1
      · rw [if_pos b, if_pos b]; rfl
      · rw [if_neg b, if_neg b]; rfl
  refine ⟨z, fun o j ho => ?_⟩
  by_cases a : o = 0
  · rw [a]; exact z j
  · have e : P0C o j = 0 := if_neg a
    rw [e]
    unfold h0C
    rw [if_neg (by omega), if_neg (by omega), if_neg (by omega), if_neg (by omega), if_neg (by omega), if_neg (by omega)]
    rfl
theorem one_ok (v : Int32) : ∃ w, f_one v = some w := by
  obtain ⟨G, eG, R, ls, x, wid, f, hD, hh, hr, hn1, hn10, hT, q, hx16, hx, hS, hlen, hls, hG⟩ := d_drawn (P := P0C) (v := v)
  have hd := q.d.n
  obtain ⟨s1, s2, s3, s4⟩ := hS.ok (by omega)
  obtain ⟨⟨b1, h1⟩, e1, c1, B1⟩ := l_text (h := h0C) hS (by omega) (by omega) (flt_g hr) (by omega) rfl
  have c1 : b1 = nI 1 := c1
  have B1 : BH h0C h1 (flt ls) (flt ls).length := B1
  subst c1
  obtain ⟨B2, B3, B4, B5⟩ := B1
  have B4 : ∀ k, ¬ k = 1 → ¬ k = 2 → h1 k = h0C k := B4
  have hC : CR h1 97 P0C := h0C_97.fr (fun o ho => B4 _ (by omega) (by omega))
  obtain ⟨h2, e2, -, C2, D2, F2, p2, hd2, he2, -, hx2⟩ := rd_load (c := 83) (c' := 97) (P := P0C) (R := R) ⟨by decide, Or.inl rfl⟩ ⟨by decide, Or.inr rfl⟩ hC (by rw [B4 0 (by decide) (by decide)]; rfl) (by rw [B4 3 (by decide) (by decide)]; rfl) B2 (by omega) (fun j hj => B3 j hj) (ls := ls) rfl (by omega) hr hh
  have W := fR_WR hD hh
  have hH : HC h2 0 0 (fun _ _ _ => 0) := ⟨by rw [hx2, B4 13 (by decide) (by decide)]; rfl, hd2, by decide, by decide, fun i hi => absurd hi (Nat.not_lt_zero _)⟩
  have p : KH h2 97 (fR R) (eE (fR R 0 13)) := ⟨⟨W, eE_WE, eE_WX W, C2, D2, F2, p2, ⟨by decide, Or.inr rfl⟩⟩, _, _, _, hH⟩
  have s04 : fR R 0 4 = R 0 4 := fR_s hD hh (by decide) (by decide) (by decide) (by decide) (by decide) (by decide)
  obtain ⟨q4, e4, g4⟩ := l_acts (by rw [s04]; exact hn1) 18 h2 G _ f p q (by omega)
  refine ⟨q4.2.2.2 0 0, ?_⟩
  unfold f_one
  rw [stp_eq, eG, bnd_some, ckn_of q.d.g1 hx16 (by omega), s1, s2, ck_of (by rw [decide_eq_true (show (flt ls).length < 2147483648 by omega)]; rfl), if_neg (show ¬ (400 : Int32) < nI (flt ls).length from ltn (b := (flt ls).length) (a := 400) (by omega) (by omega)), e1, bnd_some]
  (try dsimp only)
  rw [ck_of (by rfl)]
  unfold ask0
  rw [e2, bnd_some]
  (try dsimp only)
  rw [ck_of (by rfl), bnd_some]
  (try dsimp only)
  rw [ck_of (by rfl), q.n, s04, ck_of (decide_eq_true (show xcode 0 (nI (R 0 4)) = nI (R 0 4) from rfl))]
  unfold f_X10_errorKind
  rw [he2, bnd_some, ck_of (by rfl), e4, bnd_some, ck_of g4]
theorem law_ok (n : Nat) : ∀ v, f_law n v = some () := by
  induction n with
  | zero => intro v; rfl
  | succ n ih =>
    intro v
    obtain ⟨w, e⟩ := one_ok v
    show bnd (f_one v) (f_law n) = some ()
    rw [e, bnd_some]
    exact ih w
