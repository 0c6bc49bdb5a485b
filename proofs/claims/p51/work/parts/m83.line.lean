/-! a line of a text, both sides -/
def PS (h : Hp) (g : Hp) (c : Nat) (B : Nat → Int32) (L : Nat) (i : Nat) (R : Nat → Nat → Nat) : Prop :=
  (TS h B L i) ∧
  (∃ p b, MT g B L p b ∧ rn wsB B L p = i) ∧
  (h 1 2 = -nI 1) ∧
  (h 1 3 = nI 0) ∧
  (CR h c R) ∧
  (WD R) ∧
  (GD g R)
theorem PS.t {h : Hp} {g : Hp} {c : Nat} {B : Nat → Int32} {L : Nat} {i : Nat} {R : Nat → Nat → Nat} (q : PS h g c B L i R) : TS h B L i := q.1
theorem PS.m {h : Hp} {g : Hp} {c : Nat} {B : Nat → Int32} {L : Nat} {i : Nat} {R : Nat → Nat → Nat} (q : PS h g c B L i R) : ∃ p b, MT g B L p b ∧ rn wsB B L p = i := q.2.1
theorem PS.e1 {h : Hp} {g : Hp} {c : Nat} {B : Nat → Int32} {L : Nat} {i : Nat} {R : Nat → Nat → Nat} (q : PS h g c B L i R) : h 1 2 = -nI 1 := q.2.2.1
theorem PS.e2 {h : Hp} {g : Hp} {c : Nat} {B : Nat → Int32} {L : Nat} {i : Nat} {R : Nat → Nat → Nat} (q : PS h g c B L i R) : h 1 3 = nI 0 := q.2.2.2.1
theorem PS.C {h : Hp} {g : Hp} {c : Nat} {B : Nat → Int32} {L : Nat} {i : Nat} {R : Nat → Nat → Nat} (q : PS h g c B L i R) : CR h c R := q.2.2.2.2.1
theorem PS.D {h : Hp} {g : Hp} {c : Nat} {B : Nat → Int32} {L : Nat} {i : Nat} {R : Nat → Nat → Nat} (q : PS h g c B L i R) : WD R := q.2.2.2.2.2.1
theorem PS.G {h : Hp} {g : Hp} {c : Nat} {B : Nat → Int32} {L : Nat} {i : Nat} {R : Nat → Nat → Nat} (q : PS h g c B L i R) : GD g R := q.2.2.2.2.2.2
def PF (h g : Hp) (B : Nat → Int32) (L : Nat) : Prop := (∃ o k, MF g B L o k ∧ h 1 2 = nI o ∧ h 1 3 = nI k) ∧ ∃ w, w ≤ 40 ∧ g 127 3 = nI w
def FC (c : Nat) (h h' : Hp) : Prop := (∀ k, ¬ k = 1 → ¬ (c ≤ k ∧ k ≤ c + 13) → h' k = h k) ∧ ∀ j, ¬ (2 ≤ j ∧ j ≤ 6) → h' 1 j = h 1 j
def FM (g g' : Hp) : Prop := (∀ k, ¬ k = 125 → ¬ k = 127 → g' k = g k) ∧ ∀ j, ¬ (j = 17 ∨ j = 18 ∨ j = 20 ∨ j = 21) → g' 125 j = g 125 j
theorem FC.tr {c : Nat} {h1 h2 h3 : Hp} (a : FC c h1 h2) (b : FC c h2 h3) : FC c h1 h3 := ⟨fun k p q => (b.1 k p q).trans (a.1 k p q), fun j p => (b.2 j p).trans (a.2 j p)⟩
theorem FM.tr {h1 h2 h3 : Hp} (a : FM h1 h2) (b : FM h2 h3) : FM h1 h3 := ⟨fun k p q => (b.1 k p q).trans (a.1 k p q), fun j p => (b.2 j p).trans (a.2 j p)⟩
theorem TFr.fc {c : Nat} {h h' : Hp} (a : TFr h h') : FC c h h' := ⟨fun k p _ => a.1 k p, a.2⟩
theorem MFr.fm {g g' : Hp} (a : MFr g g') : FM g g' := ⟨fun k p _ => a.1 k p, a.2⟩
theorem FC.of {c : Nat} {h h' : Hp} (hc : 14 ≤ c) (e : ∀ k, ¬ (c ≤ k ∧ k ≤ c + 13) → h' k = h k) : FC c h h' := ⟨fun k _ a => e k a, fun j _ => by rw [e 1 (by omega)]⟩
theorem FM.of {g g' : Hp} (e : ∀ k, ¬ k = 127 → g' k = g k) : FM g g' := ⟨fun k _ a => e k a, fun j _ => by rw [e 125 (by decide)]⟩
theorem ce_fr (h : Hp) (q k : Nat) : TFr h (ce h q k) ∧ (ce h q k) 1 2 = nI q ∧ (ce h q k) 1 3 = nI k := by
  unfold ce
  exact ⟨(TFr.up h (by decide)).tr (TFr.up _ (by decide)), up_ss, by rw [up_sn (by decide), up_ss]⟩
def RLn (X : Option (Int32 × Hp)) (Y : Option Hp) (h g : Hp) (c : Nat) (B : Nat → Int32) (L : Nat) : Prop := (∃ h' g' i R, X = some (nI 1, h') ∧ Y = some g' ∧ PS h' g' c B L i R ∧ FC c h h' ∧ FM g g' ∧ ∀ j, j ≤ 900 → h 1 5 = nI j → j ≤ i) ∨ (∃ h' g', X = some (nI 0, h') ∧ Y = some g' ∧ PF h' g' B L ∧ FC c h h' ∧ FM g g')
section
variable {h g : Hp} {B : Nat → Int32} {L q p b o k lo hi c t : Nat} {R : Nat → Nat → Nat}
theorem TS.ad {h' : Hp} (w : TS h B L q) (hc : 14 ≤ c) (e : ∀ k, ¬ (c ≤ k ∧ k ≤ c + 13) → h' k = h k) : TS h' B L q := by
  have e1 := e 1 (by omega)
  have e2 := e 2 (by omega)
  unfold TS
  rw [e1, e2]
  exact w
theorem MT.ad {g' : Hp} (w : MT g B L p b) (e : ∀ k, ¬ k = 127 → g' k = g k) : MT g' B L p b := by
  unfold MT
  rw [e 125 (by decide), e 137 (by decide)]
  exact w
theorem k_adv (hq : q ≤ L) (h0 : 0 < tl t) (hk : isK B L q t) : tZ B L q = tl t := by
  rcases tk_lt (B := B) hq with ⟨a1, a2, a3⟩ | ⟨a1, a2⟩
  · rw [a3]; exact hk.1
  · have := hk.1
    omega
/-- a number, both sides -/
theorem j_num (w : TS h B L q) (m : MT g B L p b) (hq : rn wsB B L p = q) (hlo : lo < 2147483648) (hhi : hi < 2147483648) : (∃ v h' g' p' , lo ≤ v ∧ v ≤ hi ∧ f_X9_numberHere h (nI lo) (nI hi) = some (nI v, h) ∧ f_X9_advance h = some h' ∧ f_X11_number g (nI lo) (nI hi) = some (nI v, g') ∧ TS h' B L (rn wsB B L p') ∧ MT g' B L p' q ∧ TAd h h' ∧ MFr g g' ∧ q ≤ p') ∨ (∃ g' kd, f_X9_numberHere h (nI lo) (nI hi) = some (-nI 1, ce h q kd) ∧ f_X11_number g (nI lo) (nI hi) = some (nI lo, g') ∧ MF g' B L q kd ∧ MFr g g') := by
  obtain ⟨⟨v, g1⟩, e1, f1, mm⟩ := nu0 m hq hlo hhi
  have hqL := w.i
  rcases c_number w hlo hhi with ⟨a1, a2⟩ | ⟨a1, a2, a3⟩
  · rcases mm with ⟨-, b2, b3⟩ | ⟨b1, -⟩
    · have b2 : v = _ := b2
      subst b2
      obtain ⟨h', d1, d2, d3⟩ := c_advance w
      have hz : 1 ≤ dz B L q ∧ lo ≤ nuV B q (dz B L q) ∧ nuV B q (dz B L q) ≤ hi := by
        unfold nuE at a1
        split at a1
        · cases a1
        · split at a1
          · cases a1
          · split at a1
            · cases a1
            · omega
      have ez : tZ B L q = dz B L q := by
        rcases tk_dg (B := B) hqL with ⟨x1, x2, x3⟩ | ⟨x1, x2⟩
        · exact x3
        · omega
      rw [ez] at d2
      exact Or.inl ⟨_, h', g1, _, hz.2.1, hz.2.2, a2, d1, e1, d2, b3, d3, f1, by omega⟩
    · omega
  · rcases mm with ⟨b1, -⟩ | ⟨-, b2, b3⟩
    · omega
    · have b2 : v = _ := b2
      subst b2
      exact Or.inr ⟨g1, _, a3, e1, b3, f1⟩
/-- a name, both sides -/
theorem j_name (w : TS h B L q) (m : MT g B L p b) (hq : rn wsB B L p = q) : (∃ a h' g1 g2 p', isName a ∧ f_X9_nameHere h = some (nI a, h) ∧ f_X9_advance h = some h' ∧ f_X11_seesName g = some (nI (n27 a), g1) ∧ f_X11_takesName g = some (nI (n27 a), g2) ∧ TS h' B L (rn wsB B L p') ∧ MT g1 B L q q ∧ MT g2 B L p' q ∧ TAd h h' ∧ MFr g g1 ∧ MFr g g2 ∧ p' = q + lz B L q) ∨ (∃ g1 g2, f_X9_nameHere h = some (-nI 1, ce h q 1) ∧ f_X11_seesName g = some (nI 0, g1) ∧ f_X11_takesName g = some (nI 0, g2) ∧ MF g1 B L q 1 ∧ MF g2 B L q 1 ∧ MFr g g1 ∧ MFr g g2) := by
  obtain ⟨⟨v, g1⟩, e1, f1, mm⟩ := sn0 m hq
  obtain ⟨⟨v2, g2⟩, e2, f2, mm2⟩ := tn0 m hq
  have hqL := w.i
  rcases c_name w with ⟨a1, a2⟩ | ⟨a1, a2⟩
  · rcases mm with ⟨-, b2, b3⟩ | ⟨b1, -⟩
    · rcases mm2 with ⟨-, c2, c3⟩ | ⟨c1, -⟩
      · have b2 : v = _ := b2
        have c2 : v2 = _ := c2
        subst b2 c2
        obtain ⟨h', d1, d2, d3⟩ := c_advance w
        obtain ⟨n1, n2, n3, n4⟩ := nm_isName hqL a1
        have ez : tZ B L q = lz B L q := by
          rcases tk_lt (B := B) hqL with ⟨x1, x2, x3⟩ | ⟨x1, x2⟩
          · exact x3
          · omega
        rw [ez] at d2
        exact Or.inl ⟨_, h', g1, g2, _, n1, a2, d1, e1, e2, d2, b3, c3, d3, f1, f2, rfl⟩
      · omega
    · omega
  · rcases mm with ⟨b1, -⟩ | ⟨-, b2, b3⟩
    · omega
    · rcases mm2 with ⟨c1, -⟩ | ⟨-, c2, c3⟩
      · omega
      · have b2 : v = _ := b2
        have c2 : v2 = _ := c2
        subst b2 c2
        exact Or.inr ⟨g1, g2, a2, e1, e2, b3, c3, f1, f2⟩
theorem PF.mk2 {h' g' : Hp} {kd : Nat} (hG : GD g R) (hD : WD R) (m : MF g' B L q kd) (f : MFr g g') (e1 : h' 1 2 = nI q) (e2 : h' 1 3 = nI kd) : PF h' g' B L := ⟨⟨q, kd, m, e1, e2⟩, R 0 4, hD.w40, by rw [f.1 127 (by decide)]; exact hG.wc⟩
theorem TAd.e {h' : Hp} (a : TAd h h') (e1 : h 1 2 = -nI 1) (e2 : h 1 3 = nI 0) : h' 1 2 = -nI 1 ∧ h' 1 3 = nI 0 := ⟨a.2.1.trans e1, a.2.2.trans e2⟩
end
