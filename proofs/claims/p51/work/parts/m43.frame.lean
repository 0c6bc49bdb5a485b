/-! what the model's readings leave alone; the class's film; both sides beside each other -/
def relO (k : Nat) : Bool := k == 126 || (decide (128 ≤ k) && decide (k ≤ 135)) || k == 137 || k == 139 || k == 144
def relF (j : Nat) : Bool := j == 3 || j == 13 || j == 16 || j == 22 || j == 23 || j == 26 || j == 38 || j == 39 || j == 40 || j == 42
def GW (g g' : Hp) : Prop := (∀ k, relO k = true → g' k = g k) ∧ ∀ j, relF j = true → g' 125 j = g 125 j
theorem GW.rf (g : Hp) : GW g g := ⟨fun _ _ => rfl, fun _ _ => rfl⟩
theorem GW.tr {a b c : Hp} (h1 : GW a b) (h2 : GW b c) : GW a c := ⟨fun k q => (h2.1 k q).trans (h1.1 k q), fun j q => (h2.2 j q).trans (h1.2 j q)⟩
theorem GW.upF (g : Hp) {j : Nat} {v : Int32} (h : relF j = false) : GW g (up g 125 j v) := by
  refine ⟨fun k q => up_o (fun z => ?_), fun i q => up_sn (fun z => ?_)⟩
  · subst z; revert q; decide
  · subst z; rw [h] at q; cases q
theorem GW.upO (g : Hp) {k j : Nat} {v : Int32} (h : relO k = false) (h2 : ¬ 125 = k) : GW g (up g k j v) := by
  refine ⟨fun i q => up_o (fun z => ?_), fun i q => by rw [up_o h2]⟩
  subst z; rw [h] at q; cases q
theorem GR.fr {g g' : Hp} {R : Nat → Nat → Nat} (hG : GR g R) (w : GW g g') : GR g' R := by
  obtain ⟨h1, h2⟩ := w
  unfold GR
  rw [h1 126 (by decide), h1 128 (by decide), h1 129 (by decide), h1 130 (by decide), h1 131 (by decide), h1 132 (by decide), h1 133 (by decide), h2 3 (by decide)]
  exact hG
theorem GE.fr {g g' : Hp} {E : Nat → Nat → Nat} (hG : GE g E) (w : GW g g') : GE g' E := by
  obtain ⟨h1, h2⟩ := w
  unfold GE
  rw [h1 134 (by decide)]
  exact hG
/-! silence, frame by frame: the frames that nobody is heard in, the longest run of such, the present run -/
def hdF (R E : Nat → Nat → Nat) (b f : Nat) : Prop := ∃ w, R 9 b ≤ w ∧ w < R 9 (b + 1) ∧ E 1 w = 1 ∧ R 4 w ≤ f ∧ f < R 5 w
noncomputable def stF (R E : Nat → Nat → Nat) (b f : Nat) (t : Nat × Nat × Nat) : Nat × Nat × Nat := @ite _ (hdF R E b f) (Classical.propDecidable _) (t.1, t.2.1, 0) (t.1 + 1, max t.2.1 (t.2.2 + 1), t.2.2 + 1)
noncomputable def sF (R E : Nat → Nat → Nat) (b f : Nat) (t : Nat × Nat × Nat) (k : Nat) : Nat × Nat × Nat := Nat.rec (motive := fun _ => Nat × Nat × Nat) t (fun k r => stF R E b (f + k) r) k
noncomputable def sS (R E : Nat → Nat → Nat) (s : Nat) : Nat × Nat × Nat := Nat.rec (motive := fun _ => Nat × Nat × Nat) (0, 0, 0) (fun k r => sF R E (E 2 k) (pf R E (E 2 k)) r (plE R E (E 2 k))) s
theorem sF_s (R E : Nat → Nat → Nat) (b f : Nat) (t : Nat × Nat × Nat) (k : Nat) : sF R E b f t (k + 1) = stF R E b (f + k) (sF R E b f t k) := rfl
theorem sS_s (R E : Nat → Nat → Nat) (s : Nat) : sS R E (s + 1) = sF R E (E 2 s) (pf R E (E 2 s)) (sS R E s) (plE R E (E 2 s)) := rfl
/-- a shot that begins a clip -/
def bcl (R E : Nat → Nat → Nat) (s : Nat) : Prop := s = 0 ∨ pf R E (E 2 s) ≠ pt R E (E 2 (s - 1))
def CF (h : Hp) (R : Nat → Nat → Nat) (E : Nat → Nat → Nat) : Prop :=
  (h 3 2 = nI (fs R E (E 0 1))) ∧
  (h 3 8 = nI (trA R E).length) ∧
  (∀ s, s < E 0 1 → h 4 s = nI (pf R E (E 2 s))) ∧
  (∀ s, s < E 0 1 → h 5 s = nI (pt R E (E 2 s))) ∧
  (∀ s, s < E 0 1 → h 6 s = nI (fs R E s)) ∧
  (∀ s, s ≤ E 0 1 → h 7 s = nI (tr R E s).length) ∧
  (∀ b, b < R 0 13 → h 8 b = oI (E 0 1) (sch (fun s => E 2 s = b) (E 0 1))) ∧
  (∀ p w, (trA R E)[p]? = some w → h 9 p = nI w) ∧
  (∀ w, w < R 0 4 → h 10 w = oI (trA R E).length (sch (fun p => (trA R E)[p]? = some w) (trA R E).length)) ∧
  (h 3 11 = nI (cnt (bcl R E) (E 0 1))) ∧
  (∀ s, s < E 0 1 → bcl R E s → h 11 (cnt (bcl R E) s) = nI s) ∧
  (h 11 (cnt (bcl R E) (E 0 1)) = nI (E 0 1)) ∧
  (h 3 13 = nI (sS R E (E 0 1)).1) ∧
  (h 3 14 = nI (sS R E (E 0 1)).2.1)
theorem CF.fr {h : Hp} {R : Nat → Nat → Nat} {E : Nat → Nat → Nat} (q : CF h R E) : h 3 2 = nI (fs R E (E 0 1)) := q.1
theorem CF.pls {h : Hp} {R : Nat → Nat → Nat} {E : Nat → Nat → Nat} (q : CF h R E) : h 3 8 = nI (trA R E).length := q.2.1
theorem CF.first {h : Hp} {R : Nat → Nat → Nat} {E : Nat → Nat → Nat} (q : CF h R E) : ∀ s, s < E 0 1 → h 4 s = nI (pf R E (E 2 s)) := q.2.2.1
theorem CF.behind {h : Hp} {R : Nat → Nat → Nat} {E : Nat → Nat → Nat} (q : CF h R E) : ∀ s, s < E 0 1 → h 5 s = nI (pt R E (E 2 s)) := q.2.2.2.1
theorem CF.start {h : Hp} {R : Nat → Nat → Nat} {E : Nat → Nat → Nat} (q : CF h R E) : ∀ s, s < E 0 1 → h 6 s = nI (fs R E s) := q.2.2.2.2.1
theorem CF.place {h : Hp} {R : Nat → Nat → Nat} {E : Nat → Nat → Nat} (q : CF h R E) : ∀ s, s ≤ E 0 1 → h 7 s = nI (tr R E s).length := q.2.2.2.2.2.1
theorem CF.bs {h : Hp} {R : Nat → Nat → Nat} {E : Nat → Nat → Nat} (q : CF h R E) : ∀ b, b < R 0 13 → h 8 b = oI (E 0 1) (sch (fun s => E 2 s = b) (E 0 1)) := q.2.2.2.2.2.2.1
theorem CF.tr {h : Hp} {R : Nat → Nat → Nat} {E : Nat → Nat → Nat} (q : CF h R E) : ∀ p w, (trA R E)[p]? = some w → h 9 p = nI w := q.2.2.2.2.2.2.2.1
theorem CF.wp {h : Hp} {R : Nat → Nat → Nat} {E : Nat → Nat → Nat} (q : CF h R E) : ∀ w, w < R 0 4 → h 10 w = oI (trA R E).length (sch (fun p => (trA R E)[p]? = some w) (trA R E).length) := q.2.2.2.2.2.2.2.2.1
theorem CF.cc {h : Hp} {R : Nat → Nat → Nat} {E : Nat → Nat → Nat} (q : CF h R E) : h 3 11 = nI (cnt (bcl R E) (E 0 1)) := q.2.2.2.2.2.2.2.2.2.1
theorem CF.cl {h : Hp} {R : Nat → Nat → Nat} {E : Nat → Nat → Nat} (q : CF h R E) : ∀ s, s < E 0 1 → bcl R E s → h 11 (cnt (bcl R E) s) = nI s := q.2.2.2.2.2.2.2.2.2.2.1
theorem CF.clN {h : Hp} {R : Nat → Nat → Nat} {E : Nat → Nat → Nat} (q : CF h R E) : h 11 (cnt (bcl R E) (E 0 1)) = nI (E 0 1) := q.2.2.2.2.2.2.2.2.2.2.2.1
theorem CF.sil {h : Hp} {R : Nat → Nat → Nat} {E : Nat → Nat → Nat} (q : CF h R E) : h 3 13 = nI (sS R E (E 0 1)).1 := q.2.2.2.2.2.2.2.2.2.2.2.2.1
theorem CF.lon {h : Hp} {R : Nat → Nat → Nat} {E : Nat → Nat → Nat} (q : CF h R E) : h 3 14 = nI (sS R E (E 0 1)).2.1 := q.2.2.2.2.2.2.2.2.2.2.2.2.2
def QQ (h : Hp) (g : Hp) (c : Nat) (R : Nat → Nat → Nat) (E : Nat → Nat → Nat) : Prop :=
  (WR R) ∧
  (WE R E) ∧
  (WX R E) ∧
  (GR g R) ∧
  (GE g E) ∧
  (CR h c R) ∧
  (CE h E) ∧
  (CF h R E) ∧
  (h 3 0 = nI c) ∧
  (knd c = 4 ∧ (c = 83 ∨ c = 97))
theorem QQ.W {h : Hp} {g : Hp} {c : Nat} {R : Nat → Nat → Nat} {E : Nat → Nat → Nat} (q : QQ h g c R E) : WR R := q.1
theorem QQ.E {h : Hp} {g : Hp} {c : Nat} {R : Nat → Nat → Nat} {E : Nat → Nat → Nat} (q : QQ h g c R E) : WE R E := q.2.1
theorem QQ.X {h : Hp} {g : Hp} {c : Nat} {R : Nat → Nat → Nat} {E : Nat → Nat → Nat} (q : QQ h g c R E) : WX R E := q.2.2.1
theorem QQ.G {h : Hp} {g : Hp} {c : Nat} {R : Nat → Nat → Nat} {E : Nat → Nat → Nat} (q : QQ h g c R E) : GR g R := q.2.2.2.1
theorem QQ.M {h : Hp} {g : Hp} {c : Nat} {R : Nat → Nat → Nat} {E : Nat → Nat → Nat} (q : QQ h g c R E) : GE g E := q.2.2.2.2.1
theorem QQ.C {h : Hp} {g : Hp} {c : Nat} {R : Nat → Nat → Nat} {E : Nat → Nat → Nat} (q : QQ h g c R E) : CR h c R := q.2.2.2.2.2.1
theorem QQ.D {h : Hp} {g : Hp} {c : Nat} {R : Nat → Nat → Nat} {E : Nat → Nat → Nat} (q : QQ h g c R E) : CE h E := q.2.2.2.2.2.2.1
theorem QQ.F {h : Hp} {g : Hp} {c : Nat} {R : Nat → Nat → Nat} {E : Nat → Nat → Nat} (q : QQ h g c R E) : CF h R E := q.2.2.2.2.2.2.2.1
theorem QQ.p {h : Hp} {g : Hp} {c : Nat} {R : Nat → Nat → Nat} {E : Nat → Nat → Nat} (q : QQ h g c R E) : h 3 0 = nI c := q.2.2.2.2.2.2.2.2.1
theorem QQ.k {h : Hp} {g : Hp} {c : Nat} {R : Nat → Nat → Nat} {E : Nat → Nat → Nat} (q : QQ h g c R E) : knd c = 4 ∧ (c = 83 ∨ c = 97) := q.2.2.2.2.2.2.2.2.2
theorem QQ.fr {h g g' : Hp} {c : Nat} {R E : Nat → Nat → Nat} (q : QQ h g c R E) (w : GW g g') : QQ h g' c R E := ⟨q.W, q.E, q.X, q.G.fr w, q.M.fr w, q.C, q.D, q.F, q.p, q.k⟩
/-- what a reading does: the answer fits, the class's side as it was -/
def QA (x : Option (Hp × Hp)) (h g : Hp) : Prop := ∃ g', x = some (h, g') ∧ GW g g'
/-- the law's way to ask without a throw -/
theorem QA.of {h g : Hp} {X : Option Int32} {Y : Option (Int32 × Hp)} {v : Int32} (h1 : X = some v) (h2 : Wp Y (fun u => u.1 = v ∧ GW g u.2)) : QA (bnd X (fun u0 => bnd Y (fun u1 => if u0 = u1.1 then (some (h, u1.2)) else none))) h g := by
  obtain ⟨u, e, e1, e2⟩ := h2
  refine ⟨u.2, ?_, e2⟩
  rw [h1, e]
  show (if v = u.1 then _ else _) = _
  rw [if_pos e1.symm]
/-- the model's half of a call that may throw: c what is thrown -/
def MA (Y : Option (Int32 × Hp)) (g : Hp) (c v : Int32) : Prop := Wp Y (fun u => GW g u.2 ∧ u.2 145 = g 145 ∧ u.2 125 0 = c ∧ (c = 0 → u.1 = v))
theorem GW.out (g : Hp) (v : Int32) : GW g (up g 145 0 v) := GW.upO g (by decide) (by decide)
theorem QA.thr {h g : Hp} {X : Option (Nat × Int32)} {Y : Hp → Option (Int32 × Hp)} {t : Nat} {v w : Int32} (h1 : X = some (t, v)) (ht : t = 0 ∨ t = 1 ∧ w = 0 ∨ t = 2 ∧ w = 1) (h0 : t = 0 → MA (Y (up g 145 0 v)) (up g 145 0 v) 0 v) (h2 : t ≠ 0 → MA (Y g) g 1 0) : ∀ (k1 : Nat) , k1 = (if w = 0 then 1 else 2) → QA (bnd (bnd X (fun u => if u.1 = 0 then (some ((0 : Int32), (h, up g 145 0 u.2))) else (if u.1 = k1 then some (1, (h, g)) else none))) (fun u0 => bnd (Y u0.2.2) (fun u1 => bnd (f_X11_thrown u1.2) (fun u2 => if u2 = u0.1 then (if u0.1 = 0 then (if u1.2 145 0 = u1.1 then (some (u0.2.1, u1.2)) else none) else some (u0.2.1, u1.2)) else none)))) h g := by
  intro k1 hk
  rw [h1]
  rcases ht with rfl | ⟨rfl, rfl⟩ | ⟨rfl, rfl⟩
  · obtain ⟨u, e, e1, e2, e3, e4⟩ := h0 rfl
    refine ⟨u.2, ?_, (GW.out g v).tr e1⟩
    simp only [bnd_some, ↓reduceIte, e, f_X11_thrown, e3]
    rw [if_pos (by rw [e2, up_ss, e4 rfl])]
  · obtain ⟨u, e, e1, e2, e3, e4⟩ := h2 (by decide)
    refine ⟨u.2, ?_, e1⟩
    subst hk
    simp [bnd_some, e, f_X11_thrown, e3]
  · obtain ⟨u, e, e1, e2, e3, e4⟩ := h2 (by decide)
    refine ⟨u.2, ?_, e1⟩
    subst hk
    simp [bnd_some, e, f_X11_thrown, e3]
/-- the same for a call that answers a boolean -/
theorem QA.thz {h g : Hp} {X : Option (Nat × Int32)} {Y : Hp → Option (Int32 × Hp)} {t : Nat} {v : Int32} (h1 : X = some (t, v)) (ht : t = 0 ∧ (v = 0 ∨ v = 1) ∨ t = 1) (h0 : t = 0 → MA (Y (up g 145 0 v)) (up g 145 0 v) 0 v) (h2 : t ≠ 0 → MA (Y g) g 1 0) : QA (bnd (bnd X (fun u => if u.1 = 0 then (if u.2 = 0 then some ((0 : Int32), (h, up g 145 0 0)) else some ((0 : Int32), (h, up g 145 0 1))) else (if u.1 = 1 then some (1, (h, g)) else none))) (fun u0 => bnd (Y u0.2.2) (fun u1 => bnd (f_X11_thrown u1.2) (fun u2 => if u2 = u0.1 then (if u0.1 = 0 then (if u1.1 = 0 then (if u1.2 145 0 = 0 then some (u0.2.1, u1.2) else none) else (if u1.2 145 0 = 1 then some (u0.2.1, u1.2) else none)) else some (u0.2.1, u1.2)) else none)))) h g := by
  rw [h1]
  rcases ht with ⟨rfl, rfl | rfl⟩ | rfl
  · obtain ⟨u, e, e1, e2, e3, e4⟩ := h0 rfl
    refine ⟨u.2, ?_, (GW.out g _).tr e1⟩
    simp [bnd_some, e, f_X11_thrown, e3, e2, e4, up_ss]
  · obtain ⟨u, e, e1, e2, e3, e4⟩ := h0 rfl
    refine ⟨u.2, ?_, (GW.out g _).tr e1⟩
    simp [bnd_some, e, f_X11_thrown, e3, e2, e4, up_ss]
  · obtain ⟨u, e, e1, e2, e3, e4⟩ := h2 (by decide)
    refine ⟨u.2, ?_, e1⟩
    simp [bnd_some, e, f_X11_thrown, e3]
