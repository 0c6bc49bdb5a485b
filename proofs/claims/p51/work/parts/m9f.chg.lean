/-! commands that change, both sides -/
def HR (h h' : Hp) (s a b : Nat) : Prop := (∀ o j, 1 ≤ o → o ≤ 4 → a ≤ j → j < b → h' (s + o) j = h (s + o) j) ∧ (∀ j, 2 * a ≤ j → j < 2 * b → h' (s + 5) j = h (s + 5) j) ∧ ∀ j, 12 * a ≤ j → j < 12 * b → h' (s + 6) j = h (s + 6) j
theorem HR.rf (h : Hp) (s a b : Nat) : HR h h s a b := ⟨fun _ _ _ _ _ _ => rfl, fun _ _ _ => rfl, fun _ _ _ => rfl⟩
theorem HR.tr {h1 h2 h3 : Hp} {s a b : Nat} (x : HR h1 h2 s a b) (y : HR h2 h3 s a b) : HR h1 h3 s a b := ⟨fun o j p q r t => (y.1 o j p q r t).trans (x.1 o j p q r t), fun j p q => (y.2.1 j p q).trans (x.2.1 j p q), fun j p q => (y.2.2 j p q).trans (x.2.2 j p q)⟩
theorem HR.sub {h h' : Hp} {s a b c d : Nat} (x : HR h h' s a b) (h1 : a ≤ c) (h2 : d ≤ b) : HR h h' s c d := ⟨fun o j p q r t => x.1 o j p q (by omega) (by omega), fun j p q => x.2.1 j (by omega) (by omega), fun j p q => x.2.2 j (by omega) (by omega)⟩
theorem HR.of {h h' : Hp} {s a b : Nat} (e : ∀ o, 1 ≤ o → o ≤ 6 → h' (s + o) = h (s + o)) : HR h h' s a b := ⟨fun o j p q _ _ => by rw [e o p (by omega)], fun j _ _ => by rw [e 5 (by omega) (by omega)], fun j _ _ => by rw [e 6 (by omega) (by omega)]⟩
theorem TFr.hr {h h' : Hp} {s : Nat} (f : TFr h h') (hs : 14 ≤ s) (a b : Nat) : HR h h' s a b := HR.of (fun o _ _ => f.1 _ (by omega))
theorem HR.up {h : Hp} {s a b o j : Nat} {v : Int32} (ho : o ≤ 4) (hj : j < a ∨ b ≤ j) : HR h (up h (s + o) j v) s a b := by
  refine ⟨fun o' j' p q r t => ?_, fun j' p q => by rw [up_o (by omega)], fun j' p q => by rw [up_o (by omega)]⟩
  by_cases e : o' = o
  · subst e; rw [up_sn (by omega)]
  · rw [up_o (by omega)]
theorem HP.hr {h h' : Hp} {s ph k : Nat} (f : HP h h' s ph) (hp : 2 * k ≤ ph) : HR h h' s 0 k := ⟨fun o j p q r t => f o j (by omega) (by omega) (by omega), fun j p q => f 5 j (by omega) (by omega) (by omega), fun j p q => f 6 j (by omega) (by omega) (by omega)⟩
theorem HR.sa {h h' : Hp} {s a b : Nat} (x : HR h h' s a b) : SA (Sd h s) (Sd h' s) a b := ⟨fun o j p q r t => congrArg vn (x.1 o j p q r t), fun j p q => congrArg vn (x.2.1 j p q), fun j p q => congrArg vn (x.2.2 j p q)⟩
theorem SQ_tr {h h' g g' : Hp} {s n n' m m' d k k' p p' : Nat} (w : SQ (Sd h s) (Td g) n m d k k' p p') (hm : m ≤ m') (hH : HR h h' s k k') (hG : GA g g' p') (hn : p' ≤ n') : SQ (Sd h' s) (Td g') n' m' d k k' p p' := SQ_fr m m' d k k' p p' w hm hH.sa (fun j _ y => congrArg vn (hG j y)) hn
theorem PH_tr {h h' g g' : Hp} {s n n' ph x : Nat} (w : PH (Sd h s) (Td g) n ph x) (h5 : h' (s + 5) ph = h (s + 5) ph) (h6 : ∀ i, i < 6 → h' (s + 6) (6 * ph + i) = h (s + 6) (6 * ph + i)) (hG : GA g g' (x + 1 + Td g x)) (hn : x + 1 + Td g x ≤ n') : PH (Sd h' s) (Td g') n' ph x := by
  have e := w.n
  exact w.fr (congrArg vn h5) (fun i hi => congrArg vn (h6 i hi)) (fun j _ y => congrArg vn (hG j (by omega))) (by omega)
def PC (h : Hp) (g : Hp) (s : Nat) (B : Nat → Int32) (L : Nat) (k : Nat) (n : Nat) (d : Nat) (kd : Nat) : Prop :=
  (∃ p b, TS h B L (rn wsB B L p) ∧ MT g B L p b) ∧
  (h 1 2 = -nI 1) ∧
  (h 1 3 = nI 0) ∧
  (h s 0 = nI (k + 1)) ∧
  (h (s + 1) k = nI kd) ∧
  (MD g (n + 1) (k + 1) d) ∧
  (g 140 n = nI kd) ∧
  (k < 30) ∧
  (n + 16 * (30 - k) ≤ 700) ∧
  (d ≤ 5) ∧
  (14 ≤ s) ∧
  (kd ≤ 5)
theorem PC.t {h : Hp} {g : Hp} {s : Nat} {B : Nat → Int32} {L : Nat} {k : Nat} {n : Nat} {d : Nat} {kd : Nat} (q : PC h g s B L k n d kd) : ∃ p b, TS h B L (rn wsB B L p) ∧ MT g B L p b := q.1
theorem PC.e1 {h : Hp} {g : Hp} {s : Nat} {B : Nat → Int32} {L : Nat} {k : Nat} {n : Nat} {d : Nat} {kd : Nat} (q : PC h g s B L k n d kd) : h 1 2 = -nI 1 := q.2.1
theorem PC.e2 {h : Hp} {g : Hp} {s : Nat} {B : Nat → Int32} {L : Nat} {k : Nat} {n : Nat} {d : Nat} {kd : Nat} (q : PC h g s B L k n d kd) : h 1 3 = nI 0 := q.2.2.1
theorem PC.z {h : Hp} {g : Hp} {s : Nat} {B : Nat → Int32} {L : Nat} {k : Nat} {n : Nat} {d : Nat} {kd : Nat} (q : PC h g s B L k n d kd) : h s 0 = nI (k + 1) := q.2.2.2.1
theorem PC.kd {h : Hp} {g : Hp} {s : Nat} {B : Nat → Int32} {L : Nat} {k : Nat} {n : Nat} {d : Nat} {kd : Nat} (q : PC h g s B L k n d kd) : h (s + 1) k = nI kd := q.2.2.2.2.1
theorem PC.D {h : Hp} {g : Hp} {s : Nat} {B : Nat → Int32} {L : Nat} {k : Nat} {n : Nat} {d : Nat} {kd : Nat} (q : PC h g s B L k n d kd) : MD g (n + 1) (k + 1) d := q.2.2.2.2.2.1
theorem PC.T {h : Hp} {g : Hp} {s : Nat} {B : Nat → Int32} {L : Nat} {k : Nat} {n : Nat} {d : Nat} {kd : Nat} (q : PC h g s B L k n d kd) : g 140 n = nI kd := q.2.2.2.2.2.2.1
theorem PC.k30 {h : Hp} {g : Hp} {s : Nat} {B : Nat → Int32} {L : Nat} {k : Nat} {n : Nat} {d : Nat} {kd : Nat} (q : PC h g s B L k n d kd) : k < 30 := q.2.2.2.2.2.2.2.1
theorem PC.n7 {h : Hp} {g : Hp} {s : Nat} {B : Nat → Int32} {L : Nat} {k : Nat} {n : Nat} {d : Nat} {kd : Nat} (q : PC h g s B L k n d kd) : n + 16 * (30 - k) ≤ 700 := q.2.2.2.2.2.2.2.2.1
theorem PC.d5 {h : Hp} {g : Hp} {s : Nat} {B : Nat → Int32} {L : Nat} {k : Nat} {n : Nat} {d : Nat} {kd : Nat} (q : PC h g s B L k n d kd) : d ≤ 5 := q.2.2.2.2.2.2.2.2.2.1
theorem PC.s14 {h : Hp} {g : Hp} {s : Nat} {B : Nat → Int32} {L : Nat} {k : Nat} {n : Nat} {d : Nat} {kd : Nat} (q : PC h g s B L k n d kd) : 14 ≤ s := q.2.2.2.2.2.2.2.2.2.2.1
theorem PC.k5 {h : Hp} {g : Hp} {s : Nat} {B : Nat → Int32} {L : Nat} {k : Nat} {n : Nat} {d : Nat} {kd : Nat} (q : PC h g s B L k n d kd) : kd ≤ 5 := q.2.2.2.2.2.2.2.2.2.2.2
def CMR (X : Option (Int32 × Hp)) (Y : Option Hp) (h g : Hp) (s : Nat) (B : Nat → Int32) (L k n d : Nat) : Prop := (∃ h' g' p b k' n', X = some (nI 1, h') ∧ Y = some g' ∧ TS h' B L (rn wsB B L p) ∧ MT g' B L p b ∧ h' 1 2 = -nI 1 ∧ h' 1 3 = nI 0 ∧ h' s 0 = nI k' ∧ MD g' n' k' d ∧ k < k' ∧ k' ≤ 30 ∧ n' + 16 * k ≤ n + 16 * k' ∧ Sd h' s 4 k = k' ∧ CMD (Sd h' s) (Td g') n' (SQ (Sd h' s) (Td g') n' (k' - (k + 1))) (5 - d) k n n' ∧ FSc s h h' ∧ FDm g g' ∧ HR h h' s 0 k ∧ GA g g' n) ∨ (∃ h' g' o e k' n', X = some (nI 0, h') ∧ Y = some g' ∧ MF g' B L o e ∧ h' 1 2 = nI o ∧ h' 1 3 = nI e ∧ MD g' n' k' d ∧ k ≤ k' ∧ k' ≤ 30 ∧ n' + 16 * k ≤ n + 16 * k' ∧ FSc s h h' ∧ FDm g g')
theorem CMR.tr {X : Option (Int32 × Hp)} {Y : Option Hp} {h g h1 g1 : Hp} {s : Nat} {B : Nat → Int32} {L k n d : Nat} (w : CMR X Y h1 g1 s B L k n d) (f1 : FSc s h h1) (f2 : FDm g g1) (f3 : HR h h1 s 0 k) (f4 : GA g g1 n) : CMR X Y h g s B L k n d := by
  rcases w with ⟨h', g', p, b, k', n', a1, a2, a3, a4, a5, a6, a7, a8, a9, b1, b2, b3, b4, b5, b6, b7, b8⟩ | ⟨h', g', o, e, k', n', a1, a2, a3, a4, a5, a6, a7, a8, a9, b1, b2⟩
  · exact Or.inl ⟨h', g', p, b, k', n', a1, a2, a3, a4, a5, a6, a7, a8, a9, b1, b2, b3, b4, f1.tr b5, f2.tr b6, f3.tr b7, f4.tr b8 (Nat.le_refl _)⟩
  · exact Or.inr ⟨h', g', o, e, k', n', a1, a2, a3, a4, a5, a6, a7, a8, a9, f1.tr b1, f2.tr b2⟩
section
variable {h g : Hp} {B : Nat → Int32} {L q p b o e n k d j i s ph a kd : Nat} {v : Int32}
theorem c_104 (hk : k < 30) (x : Nat) (hx : x ≤ 1) (r1 r2 r3 r4 r5) (y : Int32) (h : Hp) : J_X7_readCommand_104 r1 r2 r3 r4 r5 s y h (nI k) (nI x) = some (nI x, up h (s + 4) k (h s 0)) := by
  unfold J_X7_readCommand_104
  rw [inb_t hk (by omega), ck_true, ix_n (by omega), stp_eq, zb_n1 hx, ck_true]
def YC (kd : Nat) (g : Hp) : Option Hp := bnd (f_X11_readPhrase g) (fun u8 => if nI kd = (3 : Int32) then bnd (f_X11_takes u8 46) (fun u9 => bnd (f_X11_must u9.2 u9.1 (1 : Int32)) (fun u10 => bnd (f_X11_readPhrase u10) (fun u11 => bnd (f_X11_needs u11 (59 : Int32)) (fun u1 => some u1)))) else bnd (f_X11_needs u8 (59 : Int32)) (fun u1 => some u1))
theorem YC1 (w : MF g B L o e) (hd : MD g n k d) (hn : n < 700) : ∃ g' n', bnd (f_X11_takes g 46) (fun u9 => bnd (f_X11_must u9.2 u9.1 (1 : Int32)) (fun u10 => bnd (f_X11_readPhrase u10) (fun u11 => bnd (f_X11_needs u11 (59 : Int32)) (fun u1 => some u1)))) = some g' ∧ MF g' B L o e ∧ MD g' n' k d ∧ n' ≤ n + 1 ∧ FDm g g' := by
  refine ⟨dra g n 0, n + 1, ?_, w.dr, hd.dr 0, by omega, dra_fd⟩
  rw [ta1 w, bnd_some]
  show bnd (f_X11_must g (nI 0) 1) _ = _
  rw [mu1 w 0 (by omega), bnd_some, ph1 w hd.1 (by omega), bnd_some, ne1 w.dr, bnd_some]
theorem l_change (w : PC h g s B L k n d kd) (hkd : kd ≤ 3) (r1 r2 r3 r4 r5) (y : Int32) : CMR (bnd (f_X7_readChange h s (nI k)) (fun u7 => J_X7_readCommand_104 r1 r2 r3 r4 r5 s y u7.2 (nI k) u7.1)) (YC kd g) h g s B L k n d := by
  obtain ⟨p, b, t, m⟩ := w.t
  have hs := w.s14
  have k30 := w.k30
  have n7 := w.n7
  have e2k : (2 : Int32) * nI k = nI (2 * k) := pk_mul (a := 2) (b := k)
  have e2k1 : (2 : Int32) * nI k + 1 = nI (2 * k + 1) := by rw [e2k]; exact nI_add _ 1
  have kd3 : (nI kd = (3 : Int32)) ↔ kd = 3 := nI_eq (b := 3) (by omega) (by omega)
  -- the end: a failure on both sides
  have bad : ∀ (h' g' : Hp) (o e n' : Nat) (Y : Option Hp), f_X7_readChange h s (nI k) = some (nI 0, h') → Y = some g' → MF g' B L o e → h' 1 2 = nI o → h' 1 3 = nI e → MD g' n' (k + 1) d → n' ≤ n + 16 → FSc s h h' → FDm g g' → CMR (bnd (f_X7_readChange h s (nI k)) (fun u7 => J_X7_readCommand_104 r1 r2 r3 r4 r5 s y u7.2 (nI k) u7.1)) Y h g s B L k n d := by
    intro h' g' o e n' Y a1 a2 a3 a4 a5 a6 a7 a8 a9
    refine Or.inr ⟨up h' (s + 4) k (h' s 0), g', o, e, k + 1, n', ?_, a2, a3, ?_, ?_, a6, by omega, by omega, by omega, a8.tr (FSc.up hs _ (by omega)), a9⟩
    · rw [a1, bnd_some]
      exact c_104 k30 0 (by omega) _ _ _ _ _ _ _
    · rw [up_o (by omega)]; exact a4
    · rw [up_o (by omega)]; exact a5
  -- the end: the sign
  have last : ∀ (h' g' : Hp) (p' b' n' : Nat) (Y : Option Hp), f_X7_readChange h s (nI k) = J_X7_readChange_57 s (nI k) h' → Y = bnd (f_X11_needs g' (59 : Int32)) (fun u1 => some u1) → TS h' B L (rn wsB B L p') → MT g' B L p' b' → h' 1 2 = -nI 1 → h' 1 3 = nI 0 → h' s 0 = nI (k + 1) → h' (s + 1) k = nI kd → g' 140 n = nI kd → MD g' n' (k + 1) d → n < n' → n' ≤ n + 16 → FSc s h h' → FDm g g' → HR h h' s 0 k → GA g g' n → ((kd ≤ 2 ∧ PH (Sd h' s) (Td g') n' (2 * k) (n + 1) ∧ n' = n + 2 + Td g' (n + 1)) ∨ (kd = 3 ∧ PH (Sd h' s) (Td g') n' (2 * k) (n + 1) ∧ PH (Sd h' s) (Td g') n' (2 * k + 1) (n + 2 + Td g' (n + 1)) ∧ n' = n + 2 + Td g' (n + 1) + 1 + Td g' (n + 2 + Td g' (n + 1)))) → CMR (bnd (f_X7_readChange h s (nI k)) (fun u7 => J_X7_readCommand_104 r1 r2 r3 r4 r5 s y u7.2 (nI k) u7.1)) Y h g s B L k n d := by
    intro h' g' p' b' n' Y a1 a2 a3 a4 a5 a6 a7 a8 a9 b1 b2 b3 b4 b5 b6 b7 b8
    obtain ⟨g2, x1, x2, xx⟩ := ne0 a4 rfl (nI 59)
    have a2 : Y = some g2 := by rw [a2, show f_X11_needs g' 59 = _ from x1, bnd_some]
    rcases c_takeSign a3 sg59.1 sg59.2 with ⟨s1, h2, s2, s3, s4⟩ | ⟨s1, s2⟩
    · rcases xx with ⟨-, m2⟩ | ⟨x3, -⟩
      case inr => exact absurd s1 x3
      have e : f_X7_readChange h s (nI k) = some (nI 1, h2) := by
        rw [a1]
        unfold J_X7_readChange_57
        rw [show f_X9_takeSign h' 59 = _ from s2, bnd_some, zb_n1 (by omega), ck_true]
      have H : ∀ o j, o ≤ 6 → ¬ (o = 4 ∧ j = k) → (up h2 (s + 4) k (h2 s 0)) (s + o) j = h' (s + o) j := fun o j ho hj => by
        by_cases z : o = 4
        · subst z; rw [up_sn (by omega), s4.1.1 _ (by omega)]
        · rw [up_o (by omega), s4.1.1 _ (by omega)]
      have z0 : h2 s 0 = nI (k + 1) := by rw [s4.1.1 s (by omega)]; exact a7
      have S1 : Sd (up h2 (s + 4) k (h2 s 0)) s 1 k = kd := by
        show vn ((up h2 (s + 4) k (h2 s 0)) (s + 1) k) = _
        rw [H 1 k (by omega) (by omega), a8, vn_n (by omega)]
      have S4 : Sd (up h2 (s + 4) k (h2 s 0)) s 4 k = k + 1 := by
        show vn ((up h2 (s + 4) k (h2 s 0)) (s + 4) k) = _
        rw [up_ss, z0, vn_n (by omega)]
      have T0 : Td g2 n = kd := by
        show vn (g2 140 n) = _
        rw [x2.1 140 (by decide), a9, vn_n (by omega)]
      have Tt : ∀ j, Td g2 j = Td g' j := fun j => by
        show vn (g2 140 j) = vn (g' 140 j)
        rw [x2.1 140 (by decide)]
      refine Or.inl ⟨up h2 (s + 4) k (h2 s 0), g2, _, _, k + 1, n', ?_, a2, s3.ao (up_o (by omega)) (up_o (by omega)), m2, ?_, ?_, ?_, b1.fr x2, by omega, by omega, by omega, S4, ⟨k30, by rw [S1, T0], b2, Nat.le_refl _, by rw [S4]; omega, by rw [S4]; omega, ?_⟩, (b4.tr s4.1.fs).tr (FSc.up hs _ (by omega)), b5.tr x2.fd, (b6.tr (s4.1.hr hs 0 k)).tr (HR.up (by omega) (Or.inr (Nat.le_refl _))), b7.tr (x2.ga n) (Nat.le_refl _)⟩
      · rw [e, bnd_some]
        exact c_104 k30 1 (by omega) _ _ _ _ _ _ _
      · rw [up_o (by omega), s4.2.1]; exact a5
      · rw [up_o (by omega), s4.2.2]; exact a6
      · rw [up_o (by omega)]; exact z0
      · rw [S1]
        have P : ∀ ph x, PH (Sd h' s) (Td g') n' ph x → PH (Sd (up h2 (s + 4) k (h2 s 0)) s) (Td g2) n' ph x := fun ph x hP => by
          have := hP.e
          have := hP.n
          exact PH_tr hP (H 5 ph (by omega) (by omega)) (fun i hi => H 6 _ (by omega) (by omega)) (x2.ga _) (by omega)
        rcases b8 with ⟨c1, c2, c3⟩ | ⟨c1, c2, c3, c4⟩
        · exact Or.inl ⟨c1, P _ _ c2, by rw [Tt]; exact c3⟩
        · exact Or.inr (Or.inl ⟨c1, P _ _ c2, by rw [Tt]; exact P _ _ c3, by rw [Tt, Tt]; exact c4⟩)
    · rcases xx with ⟨x3, -⟩ | ⟨-, m2⟩
      case inl => exact absurd x3 s1
      obtain ⟨c1, c2, c3⟩ := ce_fr h' (rn wsB B L p') 1
      refine bad (ce h' (rn wsB B L p') 1) g2 _ 1 n' Y ?_ a2 m2 c2 c3 (b1.fr x2) b3 (b4.tr c1.fs) (b5.tr x2.fd)
      rw [a1]
      unfold J_X7_readChange_57
      rw [show f_X9_takeSign h' 59 = _ from s2, bnd_some, zb0, ck_true]
  have eC : f_X7_readChange h s (nI k) = bnd (f_X7_readPhrase h s (nI (2 * k))) (fun u2 => if u2.1 = 0 then some ((0 : Int32), u2.2) else if u2.2 (s + 1) k = (3 : Int32) then bnd (f_X9_isKeyword u2.2 15) (fun u3 => if u3 = 0 then bnd (f_X9_fail u2.2 (1 : Int32)) (fun u6 => ck (zb u6.1) (some (u6.1, u6.2))) else bnd (f_X9_advance u2.2) (fun u4 => bnd (f_X7_readPhrase u4 s (nI (2 * k + 1))) (fun u5 => if u5.1 = 0 then some ((0 : Int32), u5.2) else J_X7_readChange_57 s (nI k) u5.2))) else J_X7_readChange_57 s (nI k) u2.2) := by
    unfold f_X7_readChange
    rw [e2k1, e2k, inb_t k30 (by omega), ix_n (by omega)]
    rfl
  unfold YC
  rcases l_phrase (a := n + 1) hs (ph := 2 * k) (by omega) (by omega) t m rfl w.e1 w.e2 w.D with ⟨h1, g1, p1, b1, n1, a1, a2, a3, a4, a5, a6, a7, a8, a9, f1, f2, f3, f4⟩ | ⟨h1, g1, o, e, n1, a1, a2, a3, a4, a5, a6, a7, f1, f2⟩
  · have pn := a9.n
    have p6 := a9.n6
    have z1 : h1 s 0 = nI (k + 1) := (f3 0 0 (by omega) (by omega) (by omega)).trans w.z
    have kd1 : h1 (s + 1) k = nI kd := (f3 1 k (by omega) (by omega) (by omega)).trans w.kd
    have t1 : g1 140 n = nI kd := (f4 n (by omega)).trans w.T
    rw [a1, bnd_some, if_neg (show ¬ (nI 1 : Int32) = 0 by decide)] at eC
    replace eC : f_X7_readChange h s (nI k) = if h1 (s + 1) k = (3 : Int32) then _ else _ := eC
    rw [a2, bnd_some]
    rw [kd1] at eC
    by_cases c3 : kd = 3
    · rw [if_pos (kd3.mpr c3)] at eC
      rw [if_pos (kd3.mpr c3)]
      obtain ⟨⟨v2, g2⟩, x1, x2, xx⟩ := ta0 a4 rfl (t := 46) (by rw [← kw_15.1.1]; exact kw_15.2.1) (by rw [← kw_15.1.1]; exact kw_15.2.2)
      rw [x1, bnd_some]
      have x2 : MFr g1 g2 := x2
      replace eC : f_X7_readChange h s (nI k) = bnd (f_X9_isKeyword h1 15) _ := eC
      rw [c_isKey a3 kw_15.2.1 kw_15.2.2, bnd_some] at eC
      by_cases z : isK B L (rn wsB B L p1) 15
      · rcases xx with ⟨-, y1, y2⟩ | ⟨y1, -⟩
        case inr => exact absurd ((kwp 15 46 kw_15.1 B L _).mp z) y1
        have y1 : v2 = nI 1 := y1
        subst y1
        replace x2 : MFr g1 g2 := x2
        have y2 : MT g2 B L (rn wsB B L p1 + tl 46) (rn wsB B L p1) := y2
        show CMR _ (bnd (f_X11_must g2 (nI 1) 1) _) _ _ _ _ _ _ _ _
        rw [show f_X11_must g2 (nI 1) 1 = _ from mu_ok 1, bnd_some]
        rw [bo_y z, if_neg (show ¬ (nI 1 : Int32) = 0 by decide)] at eC
        obtain ⟨h2, d1, d2, d3⟩ := c_advance a3
        rw [k_adv a3.i kw_15.2.1 z, kw_15.1.1] at d2
        replace eC : f_X7_readChange h s (nI k) = bnd (f_X9_advance h1) _ := eC
        rw [d1, bnd_some] at eC
        obtain ⟨u1, u2⟩ := d3.e a5 a6
        have D2 := a7.fr x2
        rcases l_phrase (a := n1) hs (ph := 2 * k + 1) (by omega) (by omega) d2 y2 rfl u1 u2 D2 with ⟨h3, g3, p3, b3, n3, i1, i2, i3, i4, i5, i6, i7, i8, i9, j1, j2, j3, j4⟩ | ⟨h3, g3, o, e, n3, i1, i2, i3, i4, i5, i6, i7, j1, j2⟩
        · have qn := i9.n
          have q6 := i9.n6
          rw [i1, bnd_some, if_neg (show ¬ (nI 1 : Int32) = 0 by decide)] at eC
          rw [i2, bnd_some]
          have H1 : h2 (s + 1) = h1 (s + 1) := d3.1.1 _ (by omega)
          have TT : Td g3 (n + 1) = Td g1 (n + 1) := by
            show vn (g3 140 (n + 1)) = vn (g1 140 (n + 1))
            rw [j4 (n + 1) (by omega), x2.1 140 (by decide)]
          have en1 : n + 2 + Td g1 (n + 1) = n1 := by omega
          refine last h3 g3 p3 b3 n3 _ eC rfl i3 i4 i5 i6 ?_ ?_ ?_ i7 (by omega) (by omega) (((f1.tr d3.1.fs)).tr j1) ((f2.tr x2.fd).tr j2) (((f3.hr (by omega)).tr (d3.1.hr hs 0 k)).tr (j3.hr (by omega))) (fun j hj => (((f4.tr (x2.ga (n + 1)) (Nat.le_refl _)).tr j4 (by omega)) j (by omega))) (Or.inr ⟨c3, PH_tr a9 ?_ (fun i hi => ?_) (fun j hj => ?_) ?_, ?_, ?_⟩)
          · rw [show s = s + 0 from rfl, j3 0 0 (by omega) (by omega) (by omega), d3.1.1 _ (by omega)]; exact z1
          · rw [j3 1 k (by omega) (by omega) (by omega), H1]; exact kd1
          · rw [j4 n (by omega), x2.1 140 (by decide)]; exact t1
          · rw [j3 5 _ (by omega) (by omega) (by omega), d3.1.1 _ (by omega)]
          · rw [j3 6 _ (by omega) (by omega) (by omega), d3.1.1 _ (by omega)]
          · rw [j4 j (by omega), x2.1 140 (by decide)]
          · omega
          · rw [TT, en1]; exact i9
          · rw [TT, en1]; exact i8
        · rw [i1, bnd_some, if_pos (show (nI 0 : Int32) = 0 from rfl)] at eC
          rw [i2, bnd_some, ne1 i3, bnd_some]
          exact bad h3 g3 o e n3 _ eC rfl i3 i4 i5 i6 (by omega) ((f1.tr d3.1.fs).tr j1) ((f2.tr x2.fd).tr j2)
      · rcases xx with ⟨y1, -⟩ | ⟨-, y1, y2⟩
        case inl => exact absurd ((kwp 15 46 kw_15.1 B L _).mpr y1) z
        have y1 : v2 = nI 0 := y1
        subst y1
        replace x2 : MFr g1 g2 := x2
        have y2 : MT g2 B L (rn wsB B L p1) (rn wsB B L p1) := y2
        obtain ⟨g3, r1, r2, r3⟩ := mu_no y2 1
        show CMR _ (bnd (f_X11_must g2 (nI 0) 1) _) _ _ _ _ _ _ _ _
        rw [show f_X11_must g2 (nI 0) 1 = _ from r1, bnd_some]
        have D3 := (a7.fr x2).fr r3
        rw [ph1 r2 D3.1 (by omega), bnd_some, ne1 r2.dr, bnd_some]
        rw [bo_n z, if_pos (show (nI 0 : Int32) = 0 from rfl)] at eC
        obtain ⟨c1, c2, c3⟩ := ce_fr h1 (rn wsB B L p1) 1
        refine bad (ce h1 (rn wsB B L p1) 1) _ _ 1 (n1 + 1) _ ?_ rfl r2.dr c2 c3 (D3.dr 0) (by omega) (f1.tr c1.fs) (((f2.tr x2.fd).tr r3.fd).tr dra_fd)
        rw [eC]
        show bnd (f_X9_fail h1 1) _ = _
        rw [show f_X9_fail h1 1 = _ from c_fail a3 1, bnd_some, zb0, ck_true]
    · rw [if_neg (fun y => c3 (kd3.mp y))] at eC
      rw [if_neg (fun y => c3 (kd3.mp y))]
      exact last h1 g1 p1 b1 n1 _ eC rfl a3 a4 a5 a6 z1 kd1 t1 a7 (by omega) (by omega) f1 f2 (f3.hr (by omega)) (fun j hj => f4 j (by omega)) (Or.inl ⟨by omega, a9, by omega⟩)
  · rw [a1, bnd_some, if_pos (show (nI 0 : Int32) = 0 from rfl)] at eC
    rw [a2, bnd_some]
    by_cases c3 : kd = 3
    · rw [if_pos (kd3.mpr c3)]
      obtain ⟨g2, n2, y1, y2, y3, y4, y5⟩ := YC1 a3 a6 (by omega)
      exact bad h1 g2 o e n2 _ eC y1 y2 a4 a5 y3 (by omega) f1 (f2.tr y5)
    · rw [if_neg (fun y => c3 (kd3.mp y)), ne1 a3, bnd_some]
      exact bad h1 g1 o e n1 _ eC rfl a3 a4 a5 a6 (by omega) f1 f2
end
