/-! all lines of a text -/
abbrev Ln : Type := Nat × (Nat × (Nat × (Nat × (Nat × Nat))))
def spkL (a : Nat) : Ln := (0, (a, (0, (0, (0, 0)))))
def wrdL (a t sp st en : Nat) : Ln := (1, (a, (t, (sp, (st, en)))))
def breL (a b : Nat) : Ln := (2, (a, (b, (0, (0, 0)))))
def lenL (n : Nat) : Ln := (3, (n, (0, (0, (0, 0)))))
def hanL (n : Nat) : Ln := (4, (n, (0, (0, (0, 0)))))
def lnB (l : Ln) : List Nat := match l.1 with
  | 0 => kS ++ 32 :: 115 :: l.2.1 :: [59]
  | 1 => kW ++ 32 :: 115 :: l.2.1 :: 32 :: 116 :: l.2.2.1 :: 32 :: (dgs l.2.2.2.2.1 ++ 32 :: (dgs l.2.2.2.2.2 ++ [59]))
  | 2 => kB ++ 32 :: (dgs l.2.1 ++ 32 :: (dgs l.2.2.1 ++ [59]))
  | 3 => kL ++ 32 :: (dgs l.2.1 ++ [59])
  | _ => kH ++ 32 :: (dgs l.2.1 ++ [59])
def StW (a t sp st en : Nat) (R R' : Nat → Nat → Nat) : Prop := R 0 4 < 40 ∧ (97 ≤ a ∧ a ≤ 122) ∧ (97 ≤ t ∧ t ≤ 122) ∧ sp < R 0 2 ∧ R 1 sp = 608 + (a - 96) ∧ (∀ i, i < sp → ¬ R 1 i = 608 + (a - 96)) ∧ st < en ∧ en < 1000 ∧ (∀ w, w < R 0 4 → R 3 w = sp → R 5 w ≤ st) ∧ ∃ i, insAt R st sp i ∧ R' = insR R i (640 + (t - 96)) sp st en
/-- what a line makes of a recording, and when it may stand -/
def LStp (l : Ln) (R R' : Nat → Nat → Nat) : Prop := match l.1 with
  | 0 => R 0 2 < 4 ∧ (97 ≤ l.2.1 ∧ l.2.1 ≤ 122) ∧ (∀ i, i < R 0 2 → ¬ R 1 i = 608 + (l.2.1 - 96)) ∧ R' = spkR R (608 + (l.2.1 - 96))
  | 1 => StW l.2.1 l.2.2.1 l.2.2.2.1 l.2.2.2.2.1 l.2.2.2.2.2 R R'
  | 2 => R 0 10 < 12 ∧ l.2.1 < l.2.2.1 ∧ l.2.2.1 < 1000 ∧ R' = breR R l.2.1 l.2.2.1
  | 3 => 1 ≤ l.2.1 ∧ l.2.1 < 1000 ∧ R' = setE R 0 0 l.2.1
  | _ => l.2.1 < 1000 ∧ R' = setE R 0 1 l.2.1
def Rds : List Ln → (Nat → Nat → Nat) → (Nat → Nat → Nat) → Prop
  | [], R, R' => R' = R
  | l :: ls, R, R' => ∃ R1, LStp l R R1 ∧ Rds ls R1 R'
theorem Rds.app {l1 l2 : List Ln} {R1 R2 R3 : Nat → Nat → Nat} (h1 : Rds l1 R1 R2) (h2 : Rds l2 R2 R3) : Rds (l1 ++ l2) R1 R3 := by
  induction l1 generalizing R1 with
  | nil => cases h1; exact h2
  | cons l ls ih =>
    obtain ⟨R, a, b⟩ := h1
    exact ⟨R, a, ih b⟩
def flt : List Ln → List Nat
  | [] => []
  | l :: ls => lnB l ++ flt ls
theorem flt_app (a b : List Ln) : flt (a ++ b) = flt a ++ flt b := by
  induction a with
  | nil => rfl
  | cons l ls ih =>
    show lnB l ++ flt (ls ++ b) = lnB l ++ flt ls ++ flt b
    rw [ih, List.append_assoc]
theorem LStp.wd {l : Ln} {R R' : Nat → Nat → Nat} (h : LStp l R R') (hD : WD R) : WD R' := by
  obtain ⟨tag, a, b, sp, st, en⟩ := l
  rcases tag with _ | _ | _ | _ | tag
  · -- a speaker
    obtain ⟨h4, hl, -, rfl⟩ := h
    exact hD.spk (isNm2 _ (by omega) (by omega) (by omega) (by omega) (by omega)) h4
  · -- a word
    obtain ⟨h40, -, ht, hsp, -, -, hse, hen, -, i, hi, rfl⟩ := h
    exact hD.ins hi h40 (isNm2 _ (by omega) (by omega) (by omega) (by omega) (by omega)) hsp hse (by omega)
  · -- a breath
    obtain ⟨h12, hab, hb, rfl⟩ := h
    exact hD.bre hab (by omega) h12
  · -- the length
    obtain ⟨h1, h2, rfl⟩ := h
    exact hD.p0 (Or.inl ⟨rfl, h1, by omega⟩)
  · -- the handle
    obtain ⟨h1, rfl⟩ := h
    exact hD.p0 (Or.inr ⟨rfl, by omega⟩)
theorem lnB_c (l : Ln) : ∃ d ds, lnB l = d :: ds ∧ 97 ≤ d ∧ d ≤ 122 := by
  obtain ⟨tag, a, b, sp, st, en⟩ := l
  rcases tag with _ | _ | _ | _ | tag
  · exact ⟨115, _, rfl, by omega, by omega⟩
  · exact ⟨119, _, rfl, by omega, by omega⟩
  · exact ⟨98, _, rfl, by omega, by omega⟩
  · exact ⟨108, _, rfl, by omega, by omega⟩
  · exact ⟨104, _, rfl, by omega, by omega⟩
section
variable {ts : List Nat} {q c : Nat} {h : Hp} {R R' : Nat → Nat → Nat}
theorem rd_line (hc : 14 ≤ c) (s : RS ts c h q R) (hD : WD R) {l : Ln} (hs : LStp l R R') (ha : At ts q (lnB l)) : ∃ h' q', f_X8_readLine h c = some (nI 1, h') ∧ q' + 1 = q + (lnB l).length ∧ At ts q' [59] ∧ RS ts c h' q' R' ∧ FC c h h' := by
  have sg : ∀ bs : List Nat, lnB l = bs ++ [59] → At ts (q + bs.length) [59] ∧ q + bs.length + 1 = q + (lnB l).length := fun bs e => by
    rw [e] at ha ⊢
    exact ⟨ha.r, by rw [List.length_append]; rfl⟩
  obtain ⟨tag, a, b, sp, st, en⟩ := l
  rcases tag with _ | _ | _ | _ | tag
  · -- a speaker
    obtain ⟨h4, hl, hno, rfl⟩ := hs
    obtain ⟨h', e, s', f⟩ := rl_spk hc s hD h4 hl hno ha
    obtain ⟨b1, b2⟩ := sg (kS ++ 32 :: 115 :: a :: []) rfl
    exact ⟨h', q + 10, e, b2, b1, s', f⟩
  · -- a word
    obtain ⟨h40, hl, ht, hsp, hnm, hno, hse, hen, hfree, i, hi, rfl⟩ := hs
    obtain ⟨h', i', e, hi', s', f⟩ := rl_wrd hc s hD h40 hl ht hsp hnm hno hse hen hfree ha
    have ei := insAt_u hi' hi
    subst ei
    obtain ⟨b1, b2⟩ := sg (kW ++ 32 :: 115 :: a :: 32 :: 116 :: b :: 32 :: (dgs st ++ 32 :: dgs en)) (by show _ ++ _ = _; simp)
    have el : (kW ++ 32 :: 115 :: a :: 32 :: 116 :: b :: 32 :: (dgs st ++ 32 :: dgs en)).length = 11 + (dgs st).length + 1 + (dgs en).length := by unfold kW; simp; omega
    rw [el] at b1 b2
    refine ⟨h', q + (11 + (dgs st).length + 1 + (dgs en).length), e, b2, b1, ?_, f⟩
    rw [show q + (11 + (dgs st).length + 1 + (dgs en).length) = q + 11 + (dgs st).length + 1 + (dgs en).length by omega]
    exact s'
  · -- a breath
    obtain ⟨h12, hab, hb, rfl⟩ := hs
    obtain ⟨h', e, s', f⟩ := rl_bre hc s h12 hab hb ha
    obtain ⟨b1, b2⟩ := sg (kB ++ 32 :: (dgs a ++ 32 :: dgs b)) (by show _ ++ _ = _; simp)
    have el : (kB ++ 32 :: (dgs a ++ 32 :: dgs b)).length = 7 + (dgs a).length + 1 + (dgs b).length := by unfold kB; simp; omega
    rw [el] at b1 b2
    refine ⟨h', q + (7 + (dgs a).length + 1 + (dgs b).length), e, b2, b1, ?_, f⟩
    rw [show q + (7 + (dgs a).length + 1 + (dgs b).length) = q + 7 + (dgs a).length + 1 + (dgs b).length by omega]
    exact s'
  · -- the length
    obtain ⟨h1, h2, rfl⟩ := hs
    obtain ⟨h', e, s', f⟩ := rl_len hc s h2 h1 ha
    obtain ⟨b1, b2⟩ := sg (kL ++ 32 :: dgs a) (by show _ ++ _ = _; simp)
    have el : (kL ++ 32 :: dgs a).length = 7 + (dgs a).length := by unfold kL; simp; omega
    rw [el] at b1 b2
    refine ⟨h', q + (7 + (dgs a).length), e, b2, b1, ?_, f⟩
    rw [show q + (7 + (dgs a).length) = q + 7 + (dgs a).length by omega]
    exact s'
  · -- the handle
    obtain ⟨h1, rfl⟩ := hs
    obtain ⟨h', e, s', f⟩ := rl_han hc s h1 ha
    obtain ⟨b1, b2⟩ := sg (kH ++ 32 :: dgs a) (by show _ ++ _ = _; simp)
    have el : (kH ++ 32 :: dgs a).length = 7 + (dgs a).length := by unfold kH; simp; omega
    rw [el] at b1 b2
    refine ⟨h', q + (7 + (dgs a).length), e, b2, b1, ?_, f⟩
    rw [show q + (7 + (dgs a).length) = q + 7 + (dgs a).length by omega]
    exact s'
theorem rd_all (hc : 14 ≤ c) : ∀ (ls : List Ln) (i N q : Nat) (h : Hp) (R : Nat → Nat → Nat), ls.length < N → i + ls.length < 900 → RS ts c h q R → WD R → Rds ls R R' → At ts q (flt ls) → q + (flt ls).length = ts.length → ∃ h', Lp (F_X8_read_10 c) N (nI i, h) = J_X8_read_49 c h' ∧ RS ts c h' ts.length R' ∧ WD R' ∧ FC c h h' := by
  intro ls
  induction ls with
  | nil =>
    intro i N q h R hN hi s hD hr ha hq
    cases hr
    obtain ⟨N, rfl⟩ : ∃ M, N = M + 1 := ⟨N - 1, by have : 0 < N := hN; omega⟩
    have hq : q = ts.length := hq
    subst hq
    refine ⟨h, ?_, s, hD, ⟨fun _ _ _ => rfl, fun _ _ => rfl⟩⟩
    rw [Lp_s]
    unfold F_X8_read_10
    dsimp only
    have hi : i < 900 := by have : i + 0 < 900 := hi; omega
    rw [if_pos (show nI i < 900 from lty (b := 900) hi (by omega)), c_isEnd s.1, bo_y rfl, bnd_some, if_neg (show ¬ (nI 1 : Int32) = 0 by decide)]
  | cons l ls ih =>
    intro i N q h R hN hi s hD hr ha hq
    obtain ⟨R1, hs, hr⟩ := hr
    have hN : ls.length + 1 < N := hN
    have hi : i + (ls.length + 1) < 900 := hi
    obtain ⟨N, rfl⟩ : ∃ M, N = M + 1 := ⟨N - 1, by omega⟩
    have ha : At ts q (lnB l ++ flt ls) := ha
    have hq : q + (lnB l ++ flt ls).length = ts.length := hq
    rw [List.length_append] at hq
    obtain ⟨h1, q', e1, eq1, a59, s1, f1⟩ := rd_line hc s hD hs ha.l
    have hr1 := ha.r
    obtain ⟨u, e2, w2, t2⟩ := sg_take s1.1 a59 (fun hl => by
      rw [eq1] at hl ⊢
      cases ls with
      | nil =>
        have : (flt []).length = 0 := rfl
        omega
      | cons l2 ls2 =>
        obtain ⟨d, ds, ed, hd⟩ := lnB_c l2
        have : At ts (q + (lnB l).length) (lnB l2 ++ flt ls2) := hr1
        rw [ed] at this
        have := At.c (cs := ds ++ flt ls2) this
        exact ⟨d, this.2, by omega, by omega⟩)
    obtain ⟨ee1, ee2⟩ := t2.e s1.2.2.1 s1.2.2.2
    have s2 : RS ts c u (q + (lnB l).length) R1 := by
      rw [← eq1]
      exact ⟨w2, tfr_cr hc t2 s1.2.1, ee1, ee2⟩
    obtain ⟨h', e3, s3, d3, f3⟩ := ih (i + 1) N (q + (lnB l).length) u R1 (by omega) (by omega) s2 (hs.wd hD) hr hr1 (by omega)
    refine ⟨h', ?_, s3, d3, (f1.tr t2.1.fc).tr f3⟩
    obtain ⟨d, ds, ed, hd⟩ := lnB_c l
    have hlt : q < ts.length := by
      have := (ha.l) 
      rw [ed] at this
      exact this.c.1
    rw [Lp_s]
    unfold F_X8_read_10
    dsimp only
    rw [if_pos (show nI i < 900 from lty (b := 900) (by omega) (by omega)), c_isEnd s.1, bo_n (by omega), bnd_some, if_pos (show (nI 0 : Int32) = 0 from rfl), e1, bnd_some]
    show (if (nI 1 : Int32) = 0 then _ else bnd (f_X9_takeSign h1 59) _) = _
    rw [if_neg (show ¬ (nI 1 : Int32) = 0 by decide), e2, bnd_some]
    show (if (nI 1 : Int32) = 0 then _ else stp (nI i + 1) _) = _
    rw [if_neg (show ¬ (nI 1 : Int32) = 0 by decide), stp_eq, show nI i + (1 : Int32) = nI (i + 1) from nI_add i 1]
    exact e3
end
