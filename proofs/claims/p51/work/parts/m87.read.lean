/-! any line, both sides -/
theorem kwp (t t' : Nat) (h : tl t = tl t' ∧ ∀ j, j < tl t → tb t j = tb t' j) (B : Nat → Int32) (L q : Nat) : isK B L q t ↔ isK B L q t' := by
  obtain ⟨h1, h2⟩ := h
  unfold isK
  rw [h1]
  constructor
  · rintro ⟨a, b⟩
    exact ⟨a, fun j hj => (b j hj).trans (h2 j (by omega))⟩
  · rintro ⟨a, b⟩
    exact ⟨a, fun j hj => (b j hj).trans (h2 j (by omega)).symm⟩
theorem kw_2 : (tl 2 = tl 34 ∧ ∀ j, j < tl 2 → tb 2 j = tb 34 j) ∧ 0 < tl 2 ∧ tl 2 ≤ 9 := by decide +kernel
theorem kw_3 : (tl 3 = tl 35 ∧ ∀ j, j < tl 3 → tb 3 j = tb 35 j) ∧ 0 < tl 3 ∧ tl 3 ≤ 9 := by decide +kernel
theorem kw_4 : (tl 4 = tl 36 ∧ ∀ j, j < tl 4 → tb 4 j = tb 36 j) ∧ 0 < tl 4 ∧ tl 4 ≤ 9 := by decide +kernel
theorem kw_5 : (tl 5 = tl 37 ∧ ∀ j, j < tl 5 → tb 5 j = tb 37 j) ∧ 0 < tl 5 ∧ tl 5 ≤ 9 := by decide +kernel
theorem kw_6 : (tl 6 = tl 38 ∧ ∀ j, j < tl 6 → tb 6 j = tb 38 j) ∧ 0 < tl 6 ∧ tl 6 ≤ 9 := by decide +kernel
section
variable {h g : Hp} {B : Nat → Int32} {L q p b o k c : Nat} {R : Nat → Nat → Nat}
theorem RLn.zw {X : Option (Int32 × Hp)} {Y : Option Hp} (r : RLn X Y h g c B L) : RLn (bnd X (fun u => ck (zb u.1) (some (u.1, u.2)))) (bnd Y (fun u => some u)) h g c B L := by
  rcases r with ⟨h', g', i, R, e1, e2, r⟩ | ⟨h', g', e1, e2, r⟩
  · exact Or.inl ⟨h', g', i, R, by rw [e1, bnd_some, zb_n1 (by omega), ck_true], by rw [e2, bnd_some], r⟩
  · exact Or.inr ⟨h', g', by rw [e1, bnd_some, zb_n1 (by omega), ck_true], by rw [e2, bnd_some], r⟩
theorem RLn.zx {X : Option (Int32 × Hp)} {Y : Option Hp} (r : RLn X Y h g c B L) : RLn (bnd X (fun u => ck (zb u.1) (some (u.1, u.2)))) Y h g c B L := by
  rcases r with ⟨h', g', i, R, e1, e2, r⟩ | ⟨h', g', e1, e2, r⟩
  · exact Or.inl ⟨h', g', i, R, by rw [e1, bnd_some, zb_n1 (by omega), ck_true], e2, r⟩
  · exact Or.inr ⟨h', g', by rw [e1, bnd_some, zb_n1 (by omega), ck_true], e2, r⟩
theorem RLn.fm {X : Option (Int32 × Hp)} {Y : Option Hp} {g1 : Hp} (r : RLn X Y h g1 c B L) (f : MFr g g1) : RLn X Y h g c B L := by
  rcases r with ⟨h', g', i, R, e1, e2, r1, r2, r3, r4⟩ | ⟨h', g', e1, e2, r1, r2, r3⟩
  · exact Or.inl ⟨h', g', i, R, e1, e2, r1, r2, f.fm.tr r3, r4⟩
  · exact Or.inr ⟨h', g', e1, e2, r1, r2, f.fm.tr r3⟩
theorem l_line (hc : 14 ≤ c) (w : TS h B L q) (m : MT g B L q q) (hq : rn wsB B L q = q) (e1 : h 1 2 = -nI 1) (e2 : h 1 3 = nI 0) (hC : CR h c R) (hD : WD R) (hG : GD g R) : RLn (f_X8_readLine h c) (f_X11_readLine g) h g c B L := by
  have l900 := w.l
  obtain ⟨h1, ha, wa, aa⟩ := c_advance w
  have key : ∀ t, 0 < tl t → isK B L q t → TS h1 B L (rn wsB B L (q + tl t)) ∧ q + tl t ≤ L := by
    intro t h0 hk
    rw [k_adv w.i h0 hk] at wa
    have := (lz_f (B := B) w.i).1
    have := hk.1
    exact ⟨wa, by omega⟩
  have ge : ∀ t, 0 < tl t → isK B L q t → ∀ j, j ≤ 900 → h 1 5 = nI j → j ≤ rn wsB B L (q + tl t) := by
    intro t h0 hk j hj he
    rw [w.s] at he
    have hi := w.i
    have := (nI_eq (by omega) (by omega)).mp he
    have := (rn_s wsB B (key t h0 hk).2).1
    omega
  unfold f_X8_readLine f_X11_readLine
  rw [m.s, stp_eq, c_isKey w kw_2.2.1 kw_2.2.2, bnd_some]
  obtain ⟨⟨v2, g2⟩, x2, f2, y2⟩ := ta0 m hq (t := 34) (by rw [← kw_2.1.1]; exact kw_2.2.1) (by rw [← kw_2.1.1]; exact kw_2.2.2)
  rw [x2, bnd_some]
  by_cases z2 : isK B L q 2
  · rcases y2 with ⟨-, y3, y4⟩ | ⟨y3, -⟩
    case inr => exact absurd ((kwp 2 34 kw_2.1 B L q).mp z2) y3
    have y3 : v2 = nI 1 := y3
    rw [← kw_2.1.1] at y4
    have r := l_field (j := 0) (lo := 1) (hi := 99999) hc (ge 2 kw_2.2.1 z2) ha aa (key 2 kw_2.2.1 z2).1 y4 rfl e1 e2 hC hD (hG.fr (f2.1 127 (by decide))) (by omega)
    rw [bo_y z2, if_neg (show ¬ (nI 1 : Int32) = 0 by decide), y3, if_neg (show ¬ (nI 1 : Int32) = 0 by decide)]
    exact (RLn.zx r).fm f2
  rcases y2 with ⟨y3, -⟩ | ⟨-, y3, y4⟩
  case inl => exact absurd ((kwp 2 34 kw_2.1 B L q).mpr y3) z2
  have y3 : v2 = nI 0 := y3
  rw [bo_n z2, if_pos (show (nI 0 : Int32) = 0 from rfl), y3, if_pos (show (nI 0 : Int32) = 0 from rfl)]
  refine RLn.fm ?_ f2
  have G2 := hG.fr (f2.1 127 (by decide))
  have m2 : MT g2 B L q q := y4
  clear x2 y3 y4
  rw [c_isKey w kw_3.2.1 kw_3.2.2, bnd_some]
  obtain ⟨⟨v3, g3⟩, x3, f3, y3⟩ := ta0 m2 hq (t := 35) (by rw [← kw_3.1.1]; exact kw_3.2.1) (by rw [← kw_3.1.1]; exact kw_3.2.2)
  show RLn _ (bnd (f_X11_takes g2 35) _) h g2 c B L
  rw [x3, bnd_some]
  by_cases z3 : isK B L q 3
  · rcases y3 with ⟨-, y5, y4⟩ | ⟨y5, -⟩
    case inr => exact absurd ((kwp 3 35 kw_3.1 B L q).mp z3) y5
    have y5 : v3 = nI 1 := y5
    rw [← kw_3.1.1] at y4
    have r := l_speaker hc (ge 3 kw_3.2.1 z3) w ha aa (key 3 kw_3.2.1 z3).1 y4 rfl e1 e2 hC hD (G2.fr (f3.1 127 (by decide)))
    rw [bo_y z3, if_neg (show ¬ (nI 1 : Int32) = 0 by decide), y5, if_neg (show ¬ (nI 1 : Int32) = 0 by decide)]
    exact (RLn.zw r).fm f3
  rcases y3 with ⟨y5, -⟩ | ⟨-, y5, y4⟩
  case inl => exact absurd ((kwp 3 35 kw_3.1 B L q).mpr y5) z3
  have y5 : v3 = nI 0 := y5
  rw [bo_n z3, if_pos (show (nI 0 : Int32) = 0 from rfl), y5, if_pos (show (nI 0 : Int32) = 0 from rfl)]
  refine RLn.fm ?_ f3
  have G3 := G2.fr (f3.1 127 (by decide))
  have m3 : MT g3 B L q q := y4
  clear x3 y5 y4
  rw [c_isKey w kw_4.2.1 kw_4.2.2, bnd_some]
  obtain ⟨⟨v4, g4⟩, x4, f4, y4⟩ := ta0 m3 hq (t := 36) (by rw [← kw_4.1.1]; exact kw_4.2.1) (by rw [← kw_4.1.1]; exact kw_4.2.2)
  show RLn _ (bnd (f_X11_takes g3 36) _) h g3 c B L
  rw [x4, bnd_some]
  by_cases z4 : isK B L q 4
  · rcases y4 with ⟨-, y5, y6⟩ | ⟨y5, -⟩
    case inr => exact absurd ((kwp 4 36 kw_4.1 B L q).mp z4) y5
    have y5 : v4 = nI 1 := y5
    rw [← kw_4.1.1] at y6
    have r := l_word hc (ge 4 kw_4.2.1 z4) w ha aa (key 4 kw_4.2.1 z4).1 y6 rfl e1 e2 hC hD (G3.fr (f4.1 127 (by decide)))
    rw [bo_y z4, if_neg (show ¬ (nI 1 : Int32) = 0 by decide), y5, if_neg (show ¬ (nI 1 : Int32) = 0 by decide)]
    exact (RLn.zw r).fm f4
  rcases y4 with ⟨y5, -⟩ | ⟨-, y5, y6⟩
  case inl => exact absurd ((kwp 4 36 kw_4.1 B L q).mpr y5) z4
  have y5 : v4 = nI 0 := y5
  rw [bo_n z4, if_pos (show (nI 0 : Int32) = 0 from rfl), y5, if_pos (show (nI 0 : Int32) = 0 from rfl)]
  refine RLn.fm ?_ f4
  have G4 := G3.fr (f4.1 127 (by decide))
  have m4 : MT g4 B L q q := y6
  clear x4 y5 y6
  rw [c_isKey w kw_5.2.1 kw_5.2.2, bnd_some]
  obtain ⟨⟨v5, g5⟩, x5, f5, y5⟩ := ta0 m4 hq (t := 37) (by rw [← kw_5.1.1]; exact kw_5.2.1) (by rw [← kw_5.1.1]; exact kw_5.2.2)
  show RLn _ (bnd (f_X11_takes g4 37) _) h g4 c B L
  rw [x5, bnd_some]
  by_cases z5 : isK B L q 5
  · rcases y5 with ⟨-, y7, y6⟩ | ⟨y7, -⟩
    case inr => exact absurd ((kwp 5 37 kw_5.1 B L q).mp z5) y7
    have y7 : v5 = nI 1 := y7
    rw [← kw_5.1.1] at y6
    have r := l_breath hc (ge 5 kw_5.2.1 z5) w ha aa (key 5 kw_5.2.1 z5).1 y6 rfl e1 e2 hC hD (G4.fr (f5.1 127 (by decide)))
    rw [bo_y z5, if_neg (show ¬ (nI 1 : Int32) = 0 by decide), y7, if_neg (show ¬ (nI 1 : Int32) = 0 by decide)]
    exact (RLn.zw r).fm f5
  rcases y5 with ⟨y7, -⟩ | ⟨-, y7, y6⟩
  case inl => exact absurd ((kwp 5 37 kw_5.1 B L q).mpr y7) z5
  have y7 : v5 = nI 0 := y7
  rw [bo_n z5, if_pos (show (nI 0 : Int32) = 0 from rfl), y7, if_pos (show (nI 0 : Int32) = 0 from rfl)]
  refine RLn.fm ?_ f5
  have G5 := G4.fr (f5.1 127 (by decide))
  have m5 : MT g5 B L q q := y6
  clear x5 y7 y6
  rw [c_isKey w kw_6.2.1 kw_6.2.2, bnd_some]
  obtain ⟨⟨v6, g6⟩, x6, f6, y6⟩ := ta0 m5 hq (t := 38) (by rw [← kw_6.1.1]; exact kw_6.2.1) (by rw [← kw_6.1.1]; exact kw_6.2.2)
  show RLn _ (bnd (f_X11_takes g5 38) _) h g5 c B L
  rw [x6, bnd_some]
  by_cases z6 : isK B L q 6
  · rcases y6 with ⟨-, y7, y8⟩ | ⟨y7, -⟩
    case inr => exact absurd ((kwp 6 38 kw_6.1 B L q).mp z6) y7
    have y7 : v6 = nI 1 := y7
    rw [← kw_6.1.1] at y8
    have r := l_field (j := 1) (lo := 0) (hi := 999) hc (ge 6 kw_6.2.1 z6) ha aa (key 6 kw_6.2.1 z6).1 y8 rfl e1 e2 hC hD (G5.fr (f6.1 127 (by decide))) (by omega)
    rw [bo_y z6, if_neg (show ¬ (nI 1 : Int32) = 0 by decide), y7, if_neg (show ¬ (nI 1 : Int32) = 0 by decide)]
    exact (RLn.zx r).fm f6
  rcases y6 with ⟨y7, -⟩ | ⟨-, y7, y8⟩
  case inl => exact absurd ((kwp 6 38 kw_6.1 B L q).mpr y7) z6
  have y7 : v6 = nI 0 := y7
  rw [bo_n z6, if_pos (show (nI 0 : Int32) = 0 from rfl), y7, if_pos (show (nI 0 : Int32) = 0 from rfl)]
  have m6 : MT g6 B L q q := y8
  refine l_no (kd := 1) w m6 f6 hD G5 ?_ (fun g7 e7 w7 => ?_)
  · rw [show f_X9_fail h 1 = _ from c_fail w 1, bnd_some, zb0, ck_true]
  · show bnd (f_X11_must g6 0 1) _ = _
    rw [show f_X11_must g6 0 1 = _ from e7, bnd_some]
end
