/-! a phrase is read, both sides -/
def FSc (s : Nat) (h h' : Hp) : Prop := (∀ k, ¬ k = 1 → ¬ (s ≤ k ∧ k ≤ s + 6) → h' k = h k) ∧ ∀ j, ¬ (2 ≤ j ∧ j ≤ 6) → h' 1 j = h 1 j
def FDm (g g' : Hp) : Prop := (∀ k, ¬ k = 125 → ¬ k = 140 → g' k = g k) ∧ ∀ j, ¬ (j = 17 ∨ j = 18 ∨ j = 20 ∨ j = 21 ∨ j = 27 ∨ j = 28 ∨ j = 29) → g' 125 j = g 125 j
theorem FSc.rf (s : Nat) (h : Hp) : FSc s h h := ⟨fun _ _ _ => rfl, fun _ _ => rfl⟩
theorem FDm.rf (g : Hp) : FDm g g := ⟨fun _ _ _ => rfl, fun _ _ => rfl⟩
theorem FSc.tr {s : Nat} {a b c : Hp} (h1 : FSc s a b) (h2 : FSc s b c) : FSc s a c := ⟨fun k p q => (h2.1 k p q).trans (h1.1 k p q), fun j p => (h2.2 j p).trans (h1.2 j p)⟩
theorem FDm.tr {a b c : Hp} (h1 : FDm a b) (h2 : FDm b c) : FDm a c := ⟨fun k p q => (h2.1 k p q).trans (h1.1 k p q), fun j p => (h2.2 j p).trans (h1.2 j p)⟩
theorem TFr.fs {s : Nat} {h h' : Hp} (a : TFr h h') : FSc s h h' := ⟨fun k p _ => a.1 k p, a.2⟩
theorem MFr.fd {g g' : Hp} (a : MFr g g') : FDm g g' := ⟨fun k p _ => a.1 k p, fun j p => a.2 j (by omega)⟩
theorem FSc.up {s : Nat} (hs : 14 ≤ s) (h : Hp) {o j : Nat} {v : Int32} (ho : o ≤ 6) : FSc s h (up h (s + o) j v) := ⟨fun k _ q => up_o (by omega), fun i _ => by rw [up_o (by omega)]⟩
theorem FDm.up0 (g : Hp) {j : Nat} {v : Int32} : FDm g (up g 140 j v) := ⟨fun k _ q => up_o q, fun i _ => by rw [up_o (by decide)]⟩
theorem FDm.up5 (g : Hp) {j : Nat} {v : Int32} (hj : j = 17 ∨ j = 18 ∨ j = 20 ∨ j = 21 ∨ j = 27 ∨ j = 28 ∨ j = 29) : FDm g (up g 125 j v) := ⟨fun k q _ => up_o q, fun i e => up_sn (fun y => by subst y; exact e hj)⟩
def MD (g : Hp) (n k d : Nat) : Prop := g 125 27 = nI n ∧ g 125 28 = nI k ∧ g 125 29 = nI d
theorem MD.fr {g g' : Hp} {n k d : Nat} (w : MD g n k d) (f : MFr g g') : MD g' n k d := by
  unfold MD
  rw [f.2 27 (by omega), f.2 28 (by omega), f.2 29 (by omega)]
  exact w
theorem MD.o {g : Hp} {n k d j : Nat} {v : Int32} (w : MD g n k d) : MD (up g 140 j v) n k d := by
  unfold MD
  rw [up_o (by decide)]
  exact w
def GA (g g' : Hp) (n : Nat) : Prop := ∀ j, j < n → g' 140 j = g 140 j
def HP (h h' : Hp) (s ph : Nat) : Prop := ∀ o j, o ≤ 6 → ¬ (o = 5 ∧ j = ph) → ¬ (o = 6 ∧ 6 * ph ≤ j ∧ j < 6 * ph + 6) → h' (s + o) j = h (s + o) j
theorem GA.rf (g : Hp) (n : Nat) : GA g g n := fun _ _ => rfl
theorem GA.tr {a b c : Hp} {n m : Nat} (h1 : GA a b n) (h2 : GA b c m) (h : n ≤ m) : GA a c n := fun j hj => (h2 j (by omega)).trans (h1 j hj)
theorem HP.rf (h : Hp) (s ph : Nat) : HP h h s ph := fun _ _ _ _ _ => rfl
theorem HP.tr {a b c : Hp} {s ph : Nat} (h1 : HP a b s ph) (h2 : HP b c s ph) : HP a c s ph := fun o j x y z => (h2 o j x y z).trans (h1 o j x y z)
theorem MFr.ga {g g' : Hp} (f : MFr g g') (n : Nat) : GA g g' n := fun j _ => by rw [f.1 140 (by decide)]
theorem TFr.hp {h h' : Hp} {s : Nat} (f : TFr h h') (hs : 14 ≤ s) (ph : Nat) : HP h h' s ph := fun o j _ _ _ => by rw [f.1 (s + o) (by omega)]
def dra (g : Hp) (n : Nat) (v : Int32) : Hp := up (up g 140 n v) 125 27 (nI (n + 1))
section
variable {h g : Hp} {B : Nat → Int32} {L q p b o e n k d j i s ph at' : Nat} {v : Int32}
theorem m_drafts (w : g 125 27 = nI n) (hn : n < 700) (v : Int32) : f_X11_drafts g v = some (dra g n v) := by
  unfold f_X11_drafts dra
  rw [w, inb_t hn (by omega), ck_true, ix_n (by omega), stp_eq, up_o (by decide), w, show nI n + 1 = nI (n + 1) from nI_add n 1, stp_eq]
theorem MT.o4 (w : MT g B L p b) : MT (up g 140 j v) B L p b := by
  unfold MT
  rw [up_o (show ¬ 125 = 140 by decide), up_o (show ¬ 137 = 140 by decide)]
  exact w
theorem MF.o4 (w : MF g B L o e) : MF (up g 140 j v) B L o e := by
  unfold MF
  rw [up_o (show ¬ 125 = 140 by decide), up_o (show ¬ 137 = 140 by decide)]
  exact w
theorem MT.f5 (w : MT g B L p b) (h1 : ¬ j = 17) (h2 : ¬ j = 18) (h3 : ¬ j = 19) (h4 : ¬ j = 20) (h5 : ¬ j = 21) : MT (up g 125 j v) B L p b := by
  unfold MT
  rw [up_sn (fun e => h1 e.symm), up_sn (fun e => h2 e.symm), up_sn (fun e => h3 e.symm), up_sn (fun e => h4 e.symm), up_sn (fun e => h5 e.symm), up_o (show ¬ 137 = 125 by decide)]
  exact w
theorem MF.f5 (w : MF g B L o e) (h1 : ¬ j = 17) (h2 : ¬ j = 18) (h3 : ¬ j = 19) (h4 : ¬ j = 20) (h5 : ¬ j = 21) : MF (up g 125 j v) B L o e := by
  unfold MF
  rw [up_sn (fun e => h1 e.symm), up_sn (fun e => h3 e.symm), up_sn (fun e => h4 e.symm), up_sn (fun e => h5 e.symm), up_o (show ¬ 137 = 125 by decide)]
  exact w
theorem MT.dr (w : MT g B L p b) : MT (dra g n v) B L p b := by
  unfold dra
  exact w.o4.f5 (by decide) (by decide) (by decide) (by decide) (by decide)
theorem MF.dr (w : MF g B L o e) : MF (dra g n v) B L o e := by
  unfold dra
  exact w.o4.f5 (by decide) (by decide) (by decide) (by decide) (by decide)
theorem MD.dr (w : MD g n k d) (v : Int32) : MD (dra g n v) (n + 1) k d := by
  unfold MD dra
  refine ⟨up_ss, ?_, ?_⟩
  · rw [up_sn (by decide), up_o (by decide)]; exact w.2.1
  · rw [up_sn (by decide), up_o (by decide)]; exact w.2.2
theorem dra_at : (dra g n v) 140 n = v := by
  unfold dra
  rw [up_o (by decide), up_ss]
theorem dra_ga : GA g (dra g n v) n := by
  intro j hj
  unfold dra
  rw [up_o (by decide), up_sn (by omega)]
theorem dra_fd : FDm g (dra g n v) := by
  unfold dra
  exact (FDm.up0 g).tr (FDm.up5 _ (by omega))
theorem TS.ao {h' : Hp} (w : TS h B L q) (e1 : h' 1 = h 1) (e2 : h' 2 = h 2) : TS h' B L q := by
  unfold TS
  rw [e1, e2]
  exact w
/-- a phrase behind a failure -/
theorem ph1 (w : MF g B L o e) (hn : g 125 27 = nI n) (h7 : n < 700) : f_X11_readPhrase g = some (dra g n 0) := by
  have w2 : MF (dra g n 0) B L o e := w.dr
  unfold f_X11_readPhrase
  rw [ne1 w, bnd_some, stp_eq, m_drafts hn h7, bnd_some]
  show F_X11_readPhrase_18 _ _ (1, dra g n 0) = _
  unfold F_X11_readPhrase_18 J_X11_readPhrase_107
  show (if (1 : Int32) = 0 then _ else bnd (f_X11_hasFailed (dra g n 0)) _) = _
  rw [if_neg (show ¬ (1 : Int32) = 0 by decide), hf1 w2, bnd_some, if_neg (show ¬ (nI 1 : Int32) = 0 by decide), ne1 w2, bnd_some]
end
def PHR (X : Option (Int32 × Hp)) (Y : Option Hp) (h g : Hp) (s : Nat) (B : Nat → Int32) (L ph a k d : Nat) : Prop := (∃ h' g' p b n', X = some (nI 1, h') ∧ Y = some g' ∧ TS h' B L (rn wsB B L p) ∧ MT g' B L p b ∧ h' 1 2 = -nI 1 ∧ h' 1 3 = nI 0 ∧ MD g' n' k d ∧ n' = a + 1 + Td g' a ∧ PH (Sd h' s) (Td g') n' ph a ∧ FSc s h h' ∧ FDm g g' ∧ HP h h' s ph ∧ GA g g' a) ∨ (∃ h' g' o e n', X = some (nI 0, h') ∧ Y = some g' ∧ MF g' B L o e ∧ h' 1 2 = nI o ∧ h' 1 3 = nI e ∧ MD g' n' k d ∧ n' ≤ a + 7 ∧ FSc s h h' ∧ FDm g g')
theorem PHR.tr {X : Option (Int32 × Hp)} {Y : Option Hp} {h g h1 g1 : Hp} {s : Nat} {B : Nat → Int32} {L ph a k d : Nat} (w : PHR X Y h1 g1 s B L ph a k d) (f1 : FSc s h h1) (f2 : FDm g g1) (f3 : HP h h1 s ph) (f4 : GA g g1 a) : PHR X Y h g s B L ph a k d := by
  rcases w with ⟨h', g', p, b, n', a1, a2, a3, a4, a5, a6, a7, a8, a9, b1, b2, b3, b4⟩ | ⟨h', g', o, e, n', a1, a2, a3, a4, a5, a6, a7, b1, b2⟩
  · exact Or.inl ⟨h', g', p, b, n', a1, a2, a3, a4, a5, a6, a7, a8, a9, f1.tr b1, f2.tr b2, f3.tr b3, f4.tr b4 (Nat.le_refl _)⟩
  · exact Or.inr ⟨h', g', o, e, n', a1, a2, a3, a4, a5, a6, a7, f1.tr b1, f2.tr b2⟩
section
variable {h g : Hp} {B : Nat → Int32} {L q p b o e n k d j i s ph a : Nat} {v : Int32}
theorem sg_lz {c : Int32} (hq : q ≤ L) (hc : ¬ ltB c) (hz : 1 ≤ lz B L q) : ¬ isS B L q c := by
  rintro ⟨x1, x2⟩
  obtain ⟨a1, a2⟩ := lz_f (B := B) hq
  have := a2 0 (by omega)
  rw [Nat.add_zero, x2] at this
  exact hc this
theorem l_ph (hs : 14 ≤ s) (hph : ph < 60) (ha : a + 8 ≤ 700) : ∀ t j, j + t = 6 → ∀ N M, t + 1 < N → t + 1 < M → ∀ h g p b q, TS h B L q → MT g B L p b → rn wsB B L p = q → h 1 2 = -nI 1 → h 1 3 = nI 0 → MD g (a + 1 + j) k d → g 140 a = nI j → (∀ x, x < j → isName (Sd h s 6 (6 * ph + x)) ∧ g 140 (a + 1 + x) = nI (n27 (Sd h s 6 (6 * ph + x)))) → (j = 0 ∨ 1 ≤ lz B L q) → PHR (Lp (F_X7_readPhrase_16 s (nI ph)) N (nI j, nI j, h)) (Lp (F_X11_readPhrase_18 (nI a)) M (1, g)) h g s B L ph a k d := by
  intro t
  induction t with
  | zero =>
    intro j hj N M hN hM h g p b q w m hq e1 e2 hD hA hnm hlz
    have ej : j = 6 := by omega
    subst ej
    obtain ⟨N, rfl⟩ : ∃ N', N = N' + 1 := ⟨N - 1, by omega⟩
    obtain ⟨M, rfl⟩ : ∃ M', M = M' + 1 := ⟨M - 1, by omega⟩
    have hz : 1 ≤ lz B L q := by omega
    have ns := sg_lz (c := nI 41) w.i sg41.1 hz
    have eX : Lp (F_X7_readPhrase_16 s (nI ph)) (N + 1) (nI 6, nI 6, h) = J_X7_readPhrase_37 s (nI ph) h (Lp (F_X7_readPhrase_16 s (nI ph)) N) (nI 6) (nI 6) := by
      show F_X7_readPhrase_16 s (nI ph) (Lp (F_X7_readPhrase_16 s (nI ph)) N) (nI 6, nI 6, h) = _
      unfold F_X7_readPhrase_16
      show (if (6 : Int32) < nI 6 then _ else (if nI 6 = 0 then _ else bnd (f_X9_isSign h (nI 41)) _)) = _
      rw [if_neg (show ¬ (6 : Int32) < nI 6 by decide), if_neg (show ¬ (nI 6 : Int32) = 0 by decide), c_isSign w sg41.1 sg41.2, bnd_some, bo_n ns, if_pos (show (nI 0 : Int32) = 0 from rfl)]
    have eY : Lp (F_X11_readPhrase_18 (nI a)) (M + 1) (1, g) = bnd (f_X11_seesName g) (fun u10 => ck (inb (nI a) 700) (if u10.2 140 (ix (nI a)) < (6 : Int32) then J_X11_readPhrase_51 u10.2 (Lp (F_X11_readPhrase_18 (nI a)) M) (nI a) u10.1 (1 : Int32) else J_X11_readPhrase_51 u10.2 (Lp (F_X11_readPhrase_18 (nI a)) M) (nI a) u10.1 (0 : Int32))) := by
      show F_X11_readPhrase_18 (nI a) (Lp (F_X11_readPhrase_18 (nI a)) M) (1, g) = _
      unfold F_X11_readPhrase_18
      show (if (1 : Int32) = 0 then _ else bnd (f_X11_hasFailed g) _) = _
      rw [if_neg (show ¬ (1 : Int32) = 0 by decide), hf0 m, bnd_some, if_pos (show (nI 0 : Int32) = 0 from rfl)]
    rw [eX, eY]
    unfold J_X7_readPhrase_37
    rcases j_name w m hq with ⟨nm, h', g1, g2, p', n1, n2, n3, n4, -, n6, n7, -, n9, n10, -, -⟩ | ⟨g1, -, n1, n2, -, n4, -, n6, -⟩
    · right
      have hnl := nm_lt n1
      obtain ⟨g3, r1, r2, r3⟩ := mu_no n7 4
      obtain ⟨c1, c2, c3⟩ := ce_fr h q 4
      refine ⟨ce h q 4, g3, q, 4, a + 1 + 6, ?_, ?_, r2, c2, c3, (hD.fr n10).fr r3, by omega, c1.fs, n10.fd.tr r3.fd⟩
      · rw [n2, bnd_some, if_neg (show ¬ nI nm = (-1 : Int32) from ng1 (by omega)), if_neg (show ¬ nI 6 < (6 : Int32) by decide)]
        unfold J_X7_readPhrase_57
        rw [show f_X9_fail h 4 = _ from c_fail w 4, bnd_some, zb0, ck_true]
      · rw [n4, bnd_some, inb_t (by omega) (by omega), ck_true, ix_n (by omega), show ((nI (n27 nm), g1) : Int32 × Hp).2 140 a = nI 6 from (congrFun (n10.1 140 (by decide)) a).trans hA, if_neg (show ¬ nI 6 < (6 : Int32) by decide)]
        unfold J_X11_readPhrase_51
        rw [show f_X11_must g1 0 4 = _ from r1, bnd_some, hf1 r2, bnd_some, if_neg (show ¬ (nI 1 : Int32) = 0 by decide)]
    · right
      obtain ⟨c1, c2, c3⟩ := ce_fr h q 1
      refine ⟨ce h q 1, g1, q, 1, a + 1 + 6, ?_, ?_, n4, c2, c3, hD.fr n6, by omega, c1.fs, n6.fd⟩
      · rw [n1, bnd_some, if_pos (show (-nI 1 : Int32) = -1 from rfl)]
        rfl
      · rw [n2, bnd_some, inb_t (by omega) (by omega), ck_true, ix_n (by omega), show ((nI 0, g1) : Int32 × Hp).2 140 a = nI 6 from (congrFun (n6.1 140 (by decide)) a).trans hA, if_neg (show ¬ nI 6 < (6 : Int32) by decide)]
        unfold J_X11_readPhrase_51
        rw [show f_X11_must g1 0 4 = _ from mu1 n4 0 (by omega) 4, bnd_some, hf1 n4, bnd_some, if_neg (show ¬ (nI 1 : Int32) = 0 by decide)]
  | succ t ih =>
    intro j hj N M hN hM h g p b q w m hq e1 e2 hD hA hnm hlz
    obtain ⟨N, rfl⟩ : ∃ N', N = N' + 1 := ⟨N - 1, by omega⟩
    obtain ⟨M, rfl⟩ : ∃ M', M = M' + 1 := ⟨M - 1, by omega⟩
    have j6 : j < 6 := by omega
    have lt6 : nI j < (6 : Int32) := (nI_ltI (b := 6) (by omega) (by omega)).mpr j6
    have headX : ∀ N h q j, j ≤ 6 → TS h B L q → Lp (F_X7_readPhrase_16 s (nI ph)) (N + 1) (nI j, nI j, h) = if j = 0 then J_X7_readPhrase_37 s (nI ph) h (Lp (F_X7_readPhrase_16 s (nI ph)) N) (nI j) (nI j) else if nI (bo (isS B L q (nI 41))) = 0 then J_X7_readPhrase_37 s (nI ph) h (Lp (F_X7_readPhrase_16 s (nI ph)) N) (nI j) (nI j) else J_X7_readPhrase_89 s (nI ph) h (nI j) := by
      intro N h q j hj w
      show F_X7_readPhrase_16 s (nI ph) (Lp (F_X7_readPhrase_16 s (nI ph)) N) (nI j, nI j, h) = _
      unfold F_X7_readPhrase_16
      show (if (6 : Int32) < nI j then _ else (if nI j = 0 then _ else bnd (f_X9_isSign h (nI 41)) _)) = _
      rw [if_neg (show ¬ (6 : Int32) < nI j from fun y => by have := (nI_ltI (a := 6) (by omega) (by omega)).mp y; omega), c_isSign w sg41.1 sg41.2, bnd_some]
      by_cases z : j = 0
      · rw [if_pos z, if_pos (show nI j = 0 by rw [z]; rfl)]
      · rw [if_neg z, if_neg (show ¬ nI j = 0 from fun y => z ((nI_eq (b := 0) (by omega) (by omega)).mp y))]
    have headY : ∀ M g p b, MT g B L p b → Lp (F_X11_readPhrase_18 (nI a)) (M + 1) (1, g) = bnd (f_X11_seesName g) (fun u10 => ck (inb (nI a) 700) (if u10.2 140 (ix (nI a)) < (6 : Int32) then J_X11_readPhrase_51 u10.2 (Lp (F_X11_readPhrase_18 (nI a)) M) (nI a) u10.1 (1 : Int32) else J_X11_readPhrase_51 u10.2 (Lp (F_X11_readPhrase_18 (nI a)) M) (nI a) u10.1 (0 : Int32))) := by
      intro M g p b m
      show F_X11_readPhrase_18 (nI a) (Lp (F_X11_readPhrase_18 (nI a)) M) (1, g) = _
      unfold F_X11_readPhrase_18
      show (if (1 : Int32) = 0 then _ else bnd (f_X11_hasFailed g) _) = _
      rw [if_neg (show ¬ (1 : Int32) = 0 by decide), hf0 m, bnd_some, if_pos (show (nI 0 : Int32) = 0 from rfl)]
    have eX : Lp (F_X7_readPhrase_16 s (nI ph)) (N + 1) (nI j, nI j, h) = J_X7_readPhrase_37 s (nI ph) h (Lp (F_X7_readPhrase_16 s (nI ph)) N) (nI j) (nI j) := by
      rw [headX N h q j (by omega) w]
      by_cases z : j = 0
      · rw [if_pos z]
      · rw [if_neg z, bo_n (sg_lz w.i sg41.1 (by omega)), if_pos (show (nI 0 : Int32) = 0 from rfl)]
    rw [eX, headY M g p b m]
    unfold J_X7_readPhrase_37
    have e6 : nI ph * (6 : Int32) + nI j = nI (6 * ph + j) := by rw [show (6 : Int32) = nI 6 from rfl, pk_mul, nI_add, Nat.mul_comm]
    rcases j_name w m hq with ⟨nm, h', g1, g2, p', n1, n2, n3, n4, -, n6, n7, -, n9, n10, -, n12⟩ | ⟨g1, -, n1, n2, -, n4, -, n6, -⟩
    · have hnl := nm_lt n1
      -- the class takes the name
      have f0 : FSc s h (up h (s + 6) (6 * ph + j) (nI nm)) := FSc.up hs h (by omega)
      have wu : TS (up h (s + 6) (6 * ph + j) (nI nm)) B L q := w.ao (up_o (by omega)) (up_o (by omega))
      obtain ⟨h2, d1, d2, d3⟩ := c_advance wu
      have hqL := w.i
      have hzl : 1 ≤ lz B L q := by
        rcases c_name w with ⟨x1, -⟩ | ⟨-, x2⟩
        · exact (nm_isName w.i x1).2.2.1
        · rw [n2] at x2
          have := (Prod.mk.inj (Option.some.inj x2)).1
          exact absurd this (ng1 (by omega))
      have ez : tZ B L q = lz B L q := by
        rcases tk_lt (B := B) hqL with ⟨x1, x2, x3⟩ | ⟨x1, x2⟩
        · exact x3
        · omega
      rw [ez, ← n12] at d2
      -- the model takes it
      obtain ⟨g3, ⟨g3', r1, r1'⟩, r2, r3⟩ := skn n7 (by rw [← hq]; exact rr m.i)
      rw [← n12] at r2
      have D3 := (hD.fr n10).fr r3
      have D4 := (D3.dr (nI (n27 nm))).o (j := a) (v := nI (j + 1))
      have m4 : MT (up (dra g3 (a + 1 + j) (nI (n27 nm))) 140 a (nI (j + 1))) B L p' q := r2.dr.o4
      have A4 : (dra g3 (a + 1 + j) (nI (n27 nm))) 140 a = nI j := by
        rw [dra_ga a (by omega), r3.1 140 (by decide), n10.1 140 (by decide)]
        exact hA
      have f4 : FDm g (up (dra g3 (a + 1 + j) (nI (n27 nm))) 140 a (nI (j + 1))) := ((n10.fd.tr r3.fd).tr dra_fd).tr (FDm.up0 _)
      have ga4 : ∀ x, ¬ x = a → x < a + 1 + j → (up (dra g3 (a + 1 + j) (nI (n27 nm))) 140 a (nI (j + 1))) 140 x = g 140 x := fun x hx hl => by rw [up_sn hx, dra_ga x hl, r3.1 140 (by decide), n10.1 140 (by decide)]
      have at4 : (up (dra g3 (a + 1 + j) (nI (n27 nm))) 140 a (nI (j + 1))) 140 (a + 1 + j) = nI (n27 nm) := by rw [up_sn (by omega), dra_at]
      have am4 : (up (dra g3 (a + 1 + j) (nI (n27 nm))) 140 a (nI (j + 1))) 140 a = nI (j + 1) := up_ss
      have eM : ∀ r, ck (inb (nI a) 700) (if g1 140 (ix (nI a)) < (6 : Int32) then J_X11_readPhrase_51 g1 r (nI a) (nI (n27 nm)) (1 : Int32) else J_X11_readPhrase_51 g1 r (nI a) (nI (n27 nm)) (0 : Int32)) = bnd (f_X11_letters (up (dra g3 (a + 1 + j) (nI (n27 nm))) 140 a (nI (j + 1)))) (fun u8 => if u8.1 ≤ 0 then J_X11_readPhrase_103 u8.2 r (nI a) (0 : Int32) else J_X11_readPhrase_103 u8.2 r (nI a) (1 : Int32)) := by
        intro r
        rw [inb_t (by omega) (by omega), ck_true, ix_n (by omega), n10.1 140 (by decide), hA, if_pos lt6]
        unfold J_X11_readPhrase_51
        rw [show f_X11_must g1 1 4 = _ from mu_ok 4, bnd_some, hf0 n7, bnd_some, if_pos (show (nI 0 : Int32) = 0 from rfl), r1, bnd_some, n7.p, nI_add, stp_eq]
        show bnd (f_X11_drafts (up g3' 125 17 (nI (q + lz B L q))) (nI (n27 nm))) _ = _
        rw [← r1', m_drafts D3.1 (by omega), bnd_some, inb_t (by omega) (by omega), ck_true, ck_true, ix_n (by omega), A4, show nI j + 1 = nI (j + 1) from nI_add j 1, stp_eq]
      generalize up (dra g3 (a + 1 + j) (nI (n27 nm))) 140 a (nI (j + 1)) = g4 at *
      obtain ⟨⟨lv, g5⟩, t1, t2, t3, t4⟩ := le0 m4 rfl
      have t2 : lv = _ := t2
      subst t2
      replace t3 : MT g5 B L (rn wsB B L p') (rn wsB B L p') := t3
      replace t4 : MFr g4 g5 := t4
      have p'L := m4.i
      have rp := rr (B := B) p'L
      -- what both hold now
      have H2 : ∀ o x, o ≤ 6 → ¬ (o = 6 ∧ x = 6 * ph + j) → h2 (s + o) x = h (s + o) x := fun o x ho hx => by
        rw [d3.1.1 (s + o) (by omega)]
        by_cases y : o = 6
        · subst y; rw [up_sn (by omega)]
        · rw [up_o (by omega)]
      have H6 : h2 (s + 6) (6 * ph + j) = nI nm := by rw [d3.1.1 (s + 6) (by omega), up_ss]
      have E1 : h2 1 2 = -nI 1 := by rw [d3.2.1, up_o (by omega)]; exact e1
      have E2 : h2 1 3 = nI 0 := by rw [d3.2.2, up_o (by omega)]; exact e2
      have F2 : FSc s h h2 := f0.tr d3.1.fs
      have hp2 : HP h h2 s ph := fun o x ho _ y => H2 o x ho (by omega)
      have D5 := D4.fr t4
      have A5 : g5 140 a = nI (j + 1) := by rw [t4.1 140 (by decide)]; exact am4
      have F5 : FDm g g5 := f4.tr t4.fd
      have G5 : GA g g5 a := fun x hx => by rw [t4.1 140 (by decide)]; exact ga4 x (by omega) (by omega)
      have N5 : ∀ x, x < j + 1 → isName (Sd h2 s 6 (6 * ph + x)) ∧ g5 140 (a + 1 + x) = nI (n27 (Sd h2 s 6 (6 * ph + x))) := by
        intro x hx
        rw [t4.1 140 (by decide)]
        by_cases y : x = j
        · subst y
          have : Sd h2 s 6 (6 * ph + x) = nm := by
            show vn (h2 (s + 6) (6 * ph + x)) = nm
            rw [H6, vn_n (by omega)]
          rw [this, at4]
          exact ⟨n1, rfl⟩
        · have : Sd h2 s 6 (6 * ph + x) = Sd h s 6 (6 * ph + x) := by
            show vn (h2 (s + 6) (6 * ph + x)) = vn (h (s + 6) (6 * ph + x))
            rw [H2 6 _ (by omega) (by omega)]
          rw [this, ga4 _ (by omega) (by omega)]
          exact hnm x (by omega)
      have eC : bnd (some (nI nm, h)) (fun u4 : Int32 × Hp => if u4.1 = (-1 : Int32) then some ((0 : Int32), u4.2) else if nI j < (6 : Int32) then ck (inb (nI ph * (6 : Int32) + nI j) 360) (stp (up u4.2 (s + 6) (ix (nI ph * (6 : Int32) + nI j)) u4.1) (fun h5 => stp (nI j + 1) (fun v6 => bnd (f_X9_advance h5) (fun u7 => stp (nI j + 1) (fun v8 => Lp (F_X7_readPhrase_16 s (nI ph)) N (v6, v8, u7)))))) else J_X7_readPhrase_57 s (nI ph) u4.2) = Lp (F_X7_readPhrase_16 s (nI ph)) N (nI (j + 1), nI (j + 1), h2) := by
        rw [bnd_some, if_neg (show ¬ nI nm = (-1 : Int32) from ng1 (by omega)), if_pos lt6, e6, inb_t (by omega) (by omega), ck_true, ix_n (by omega), stp_eq, stp_eq, d1, bnd_some, stp_eq, show nI j + 1 = nI (j + 1) from nI_add j 1]
      rw [n2, eC, n4, bnd_some, eM, t1, bnd_some]
      by_cases z : 1 ≤ lz B L (rn wsB B L p')
      · show PHR _ (if nI (lz B L (rn wsB B L p')) ≤ 0 then _ else _) _ _ _ _ _ _ _ _ _
        have hlz900 : lz B L (rn wsB B L p') ≤ 900 := by
          have := (lz_f (B := B) d2.i).1
          have := d2.l
          omega
        rw [if_neg (show ¬ nI (lz B L (rn wsB B L p')) ≤ 0 from fun y => by have := (nI_leI (b := 0) (by omega) (by omega)).mp y; omega)]
        unfold J_X11_readPhrase_103
        exact (ih (j + 1) (by omega) N M (by omega) (by omega) h2 g5 _ _ _ d2 t3 rp E1 E2 D5 A5 N5 (Or.inr z)).tr F2 F5 hp2 G5
      · have z0 : lz B L (rn wsB B L p') = 0 := by omega
        show PHR _ (if nI (lz B L (rn wsB B L p')) ≤ 0 then _ else _) _ _ _ _ _ _ _ _ _
        rw [z0, if_pos (show (nI 0 : Int32) ≤ 0 by decide)]
        unfold J_X11_readPhrase_103
        obtain ⟨N, rfl⟩ : ∃ N', N = N' + 1 := ⟨N - 1, by omega⟩
        obtain ⟨M, rfl⟩ : ∃ M', M = M' + 1 := ⟨M - 1, by omega⟩
        have eE : Lp (F_X11_readPhrase_18 (nI a)) (M + 1) (0, g5) = bnd (f_X11_needs g5 (nI 41)) (fun u1 => some u1) := by
          show F_X11_readPhrase_18 (nI a) (Lp (F_X11_readPhrase_18 (nI a)) M) (0, g5) = _
          unfold F_X11_readPhrase_18 J_X11_readPhrase_107
          show (if (0 : Int32) = 0 then _ else _) = _
          rw [if_pos (show (0 : Int32) = 0 from rfl)]
          rfl
        show PHR _ (Lp (F_X11_readPhrase_18 (nI a)) (M + 1) (0, g5)) _ _ _ _ _ _ _ _ _
        rw [eE, headX N h2 _ (j + 1) (by omega) d2, if_neg (show ¬ j + 1 = 0 by omega)]
        obtain ⟨g6, y1, y2, yy⟩ := ne0 t3 rp (nI 41)
        rw [y1, bnd_some]
        by_cases x : isS B L (rn wsB B L p') (nI 41)
        · rcases yy with ⟨-, m6⟩ | ⟨y3, -⟩
          case inr => exact absurd x y3
          rw [bo_y x, if_neg (show ¬ (nI 1 : Int32) = 0 by decide)]
          unfold J_X7_readPhrase_89
          have w6 : TS (up h2 (s + 5) ph (nI (j + 1))) B L (rn wsB B L p') := d2.ao (up_o (by omega)) (up_o (by omega))
          rcases c_takeSign w6 sg41.1 sg41.2 with ⟨-, h3, s2, s3, s4⟩ | ⟨s1, -⟩
          case inr => exact absurd x s1
          left
          have f6 : FSc s h2 (up h2 (s + 5) ph (nI (j + 1))) := FSc.up hs h2 (by omega)
          have H3 : ∀ o x, o ≤ 6 → ¬ (o = 5 ∧ x = ph) → h3 (s + o) x = h2 (s + o) x := fun o x ho hx => by
            rw [s4.1.1 (s + o) (by omega)]
            by_cases y : o = 5
            · subst y; rw [up_sn (by omega)]
            · rw [up_o (by omega)]
          have H5 : Sd h3 s 5 ph = j + 1 := by
            show vn (h3 (s + 5) ph) = _
            rw [s4.1.1 (s + 5) (by omega), up_ss, vn_n (by omega)]
          have S6 : ∀ x, Sd h3 s 6 x = Sd h2 s 6 x := fun x => by
            show vn (h3 (s + 6) x) = vn (h2 (s + 6) x)
            rw [H3 6 x (by omega) (by omega)]
          have T6 : Td g6 a = j + 1 := by
            show vn (g6 140 a) = _
            rw [y2.1 140 (by decide), A5, vn_n (by omega)]
          refine ⟨h3, g6, _, _, a + 1 + (j + 1), ?_, rfl, s3, m6, ?_, ?_, D5.fr y2, by rw [T6], ⟨by rw [T6, H5], by omega, by omega, hph, by rw [H5]; exact Nat.le_refl _, fun i hi => ?_, fun i hi => ?_⟩, (F2.tr f6).tr s4.1.fs, F5.tr y2.fd, fun o x ho u1 u2 => ?_, G5.tr (y2.ga a) (Nat.le_refl _)⟩
          · rw [inb_t (by omega) (by omega), ck_true, ix_n (by omega), stp_eq, show f_X9_takeSign _ 41 = _ from s2, bnd_some, zb_n1 (by omega), ck_true]
          · rw [s4.2.1, up_o (by omega)]; exact E1
          · rw [s4.2.2, up_o (by omega)]; exact E2
          · rw [H5] at hi
            rw [S6]
            exact (N5 i hi).1
          · rw [H5] at hi
            rw [S6]
            show vn (g6 140 (a + 1 + i)) = _
            rw [y2.1 140 (by decide), (N5 i hi).2, vn_n (by have := n27_lt (N5 i hi).1; omega)]
          · rw [H3 o x ho u1, H2 o x ho (by omega)]
        · rcases yy with ⟨y3, -⟩ | ⟨-, m6⟩
          case inl => exact absurd y3 x
          rw [bo_n x, if_pos (show (nI 0 : Int32) = 0 from rfl)]
          unfold J_X7_readPhrase_37
          rcases c_name d2 with ⟨u1, -⟩ | ⟨-, u2⟩
          · have := (nm_isName d2.i u1).2.2.1
            omega
          · obtain ⟨c1, c2, c3⟩ := ce_fr h2 (rn wsB B L p') 1
            right
            refine ⟨ce h2 (rn wsB B L p') 1, g6, _, 1, _, ?_, rfl, m6, c2, c3, D5.fr y2, by omega, F2.tr c1.fs, F5.tr y2.fd⟩
            rw [u2, bnd_some, if_pos (show (-nI 1 : Int32) = -1 from rfl)]
            rfl
    · right
      obtain ⟨c1, c2, c3⟩ := ce_fr h q 1
      refine ⟨ce h q 1, g1, q, 1, a + 1 + j, ?_, ?_, n4, c2, c3, hD.fr n6, by omega, c1.fs, n6.fd⟩
      · rw [n1, bnd_some, if_pos (show (-nI 1 : Int32) = -1 from rfl)]
        rfl
      · rw [n2, bnd_some, inb_t (by omega) (by omega), ck_true, ix_n (by omega), show ((nI 0, g1) : Int32 × Hp).2 140 a = nI j from (congrFun (n6.1 140 (by decide)) a).trans hA, if_pos lt6]
        unfold J_X11_readPhrase_51
        rw [show f_X11_must g1 1 4 = _ from mu_ok 4, bnd_some, hf1 n4, bnd_some, if_neg (show ¬ (nI 1 : Int32) = 0 by decide)]
theorem l_phrase (hs : 14 ≤ s) (hph : ph < 60) (ha : a + 8 ≤ 700) (w : TS h B L q) (m : MT g B L p b) (hq : rn wsB B L p = q) (e1 : h 1 2 = -nI 1) (e2 : h 1 3 = nI 0) (hD : MD g a k d) : PHR (f_X7_readPhrase h s (nI ph)) (f_X11_readPhrase g) h g s B L ph a k d := by
  unfold f_X7_readPhrase f_X11_readPhrase
  obtain ⟨g1, y1, y2, yy⟩ := ne0 m hq (nI 40)
  rw [show f_X11_needs g 40 = _ from y1, bnd_some, stp_eq]
  have D1 := hD.fr y2
  rw [m_drafts D1.1 (by omega), bnd_some, D1.1]
  rcases c_takeSign w sg40.1 sg40.2 with ⟨s1, h1, s2, s3, s4⟩ | ⟨s1, s2⟩
  · rcases yy with ⟨-, m1⟩ | ⟨y3, -⟩
    case inr => exact absurd s1 y3
    rw [show f_X9_takeSign h 40 = _ from s2, bnd_some, if_neg (show ¬ (nI 1 : Int32) = 0 by decide)]
    obtain ⟨d1, d2⟩ := s4.e e1 e2
    exact (l_ph hs hph ha 6 0 (by omega) FU FU (by unfold FU; omega) (by unfold FU; omega) h1 (dra g1 a 0) _ _ _ s3 m1.dr rfl d1 d2 (D1.dr 0) dra_at (fun x hx => absurd hx (Nat.not_lt_zero _)) (Or.inl rfl)).tr s4.1.fs (y2.fd.tr dra_fd) (s4.1.hp hs ph) ((y2.ga a).tr dra_ga (Nat.le_refl _))
  · rcases yy with ⟨y3, -⟩ | ⟨-, m1⟩
    case inl => exact absurd y3 s1
    obtain ⟨c1, c2, c3⟩ := ce_fr h q 1
    have w2 : MF (dra g1 a 0) B L q 1 := m1.dr
    right
    refine ⟨ce h q 1, dra g1 a 0, q, 1, a + 1, ?_, ?_, w2, c2, c3, D1.dr 0, by omega, c1.fs, y2.fd.tr dra_fd⟩
    · rw [show f_X9_takeSign h 40 = _ from s2, bnd_some, if_pos (show (nI 0 : Int32) = 0 from rfl)]
      rfl
    · show F_X11_readPhrase_18 _ _ (1, dra g1 a 0) = _
      unfold F_X11_readPhrase_18 J_X11_readPhrase_107
      show (if (1 : Int32) = 0 then _ else bnd (f_X11_hasFailed (dra g1 a 0)) _) = _
      rw [if_neg (show ¬ (1 : Int32) = 0 by decide), hf1 w2, bnd_some, if_neg (show ¬ (nI 1 : Int32) = 0 by decide), ne1 w2, bnd_some]
end
