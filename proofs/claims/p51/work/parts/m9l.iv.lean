/-! what both sides keep through all calls -/
def IVs (h : Hp) (g : Hp) (c : Nat) (R : Nat → Nat → Nat) (E : Nat → Nat → Nat) (d : Nat) (x : Nat) (hi : Nat → Nat → Nat → Nat) (c' : Nat) (s : Nat) (S : Nat → Nat → Nat) (T : Nat → Nat) (n : Nat) (s' : Nat) : Prop :=
  (ED h g c R E d x hi) ∧
  (TP h g) ∧
  (TT h g) ∧
  (RP h g) ∧
  (SRs h g s S T n) ∧
  (h 0 5 = nI c') ∧
  (knd c' = 4 ∧ (c' = 83 ∨ c' = 97)) ∧
  (¬ c' = c) ∧
  (h 0 6 = nI s') ∧
  (knd s' = 6 ∧ (s' = 111 ∨ s' = 118)) ∧
  (¬ s' = s)
theorem IVs.w {h : Hp} {g : Hp} {c : Nat} {R : Nat → Nat → Nat} {E : Nat → Nat → Nat} {d : Nat} {x : Nat} {hi : Nat → Nat → Nat → Nat} {c' : Nat} {s : Nat} {S : Nat → Nat → Nat} {T : Nat → Nat} {n : Nat} {s' : Nat} (q : IVs h g c R E d x hi c' s S T n s') : ED h g c R E d x hi := q.1
theorem IVs.t {h : Hp} {g : Hp} {c : Nat} {R : Nat → Nat → Nat} {E : Nat → Nat → Nat} {d : Nat} {x : Nat} {hi : Nat → Nat → Nat → Nat} {c' : Nat} {s : Nat} {S : Nat → Nat → Nat} {T : Nat → Nat} {n : Nat} {s' : Nat} (q : IVs h g c R E d x hi c' s S T n s') : TP h g := q.2.1
theorem IVs.f {h : Hp} {g : Hp} {c : Nat} {R : Nat → Nat → Nat} {E : Nat → Nat → Nat} {d : Nat} {x : Nat} {hi : Nat → Nat → Nat → Nat} {c' : Nat} {s : Nat} {S : Nat → Nat → Nat} {T : Nat → Nat} {n : Nat} {s' : Nat} (q : IVs h g c R E d x hi c' s S T n s') : TT h g := q.2.2.1
theorem IVs.r {h : Hp} {g : Hp} {c : Nat} {R : Nat → Nat → Nat} {E : Nat → Nat → Nat} {d : Nat} {x : Nat} {hi : Nat → Nat → Nat → Nat} {c' : Nat} {s : Nat} {S : Nat → Nat → Nat} {T : Nat → Nat} {n : Nat} {s' : Nat} (q : IVs h g c R E d x hi c' s S T n s') : RP h g := q.2.2.2.1
theorem IVs.s {h : Hp} {g : Hp} {c : Nat} {R : Nat → Nat → Nat} {E : Nat → Nat → Nat} {d : Nat} {x : Nat} {hi : Nat → Nat → Nat → Nat} {c' : Nat} {s : Nat} {S : Nat → Nat → Nat} {T : Nat → Nat} {n : Nat} {s' : Nat} (q : IVs h g c R E d x hi c' s S T n s') : SRs h g s S T n := q.2.2.2.2.1
theorem IVs.dp {h : Hp} {g : Hp} {c : Nat} {R : Nat → Nat → Nat} {E : Nat → Nat → Nat} {d : Nat} {x : Nat} {hi : Nat → Nat → Nat → Nat} {c' : Nat} {s : Nat} {S : Nat → Nat → Nat} {T : Nat → Nat} {n : Nat} {s' : Nat} (q : IVs h g c R E d x hi c' s S T n s') : h 0 5 = nI c' := q.2.2.2.2.2.1
theorem IVs.hk {h : Hp} {g : Hp} {c : Nat} {R : Nat → Nat → Nat} {E : Nat → Nat → Nat} {d : Nat} {x : Nat} {hi : Nat → Nat → Nat → Nat} {c' : Nat} {s : Nat} {S : Nat → Nat → Nat} {T : Nat → Nat} {n : Nat} {s' : Nat} (q : IVs h g c R E d x hi c' s S T n s') : knd c' = 4 ∧ (c' = 83 ∨ c' = 97) := q.2.2.2.2.2.2.1
theorem IVs.hne {h : Hp} {g : Hp} {c : Nat} {R : Nat → Nat → Nat} {E : Nat → Nat → Nat} {d : Nat} {x : Nat} {hi : Nat → Nat → Nat → Nat} {c' : Nat} {s : Nat} {S : Nat → Nat → Nat} {T : Nat → Nat} {n : Nat} {s' : Nat} (q : IVs h g c R E d x hi c' s S T n s') : ¬ c' = c := q.2.2.2.2.2.2.2.1
theorem IVs.ds {h : Hp} {g : Hp} {c : Nat} {R : Nat → Nat → Nat} {E : Nat → Nat → Nat} {d : Nat} {x : Nat} {hi : Nat → Nat → Nat → Nat} {c' : Nat} {s : Nat} {S : Nat → Nat → Nat} {T : Nat → Nat} {n : Nat} {s' : Nat} (q : IVs h g c R E d x hi c' s S T n s') : h 0 6 = nI s' := q.2.2.2.2.2.2.2.2.1
theorem IVs.hs {h : Hp} {g : Hp} {c : Nat} {R : Nat → Nat → Nat} {E : Nat → Nat → Nat} {d : Nat} {x : Nat} {hi : Nat → Nat → Nat → Nat} {c' : Nat} {s : Nat} {S : Nat → Nat → Nat} {T : Nat → Nat} {n : Nat} {s' : Nat} (q : IVs h g c R E d x hi c' s S T n s') : knd s' = 6 ∧ (s' = 111 ∨ s' = 118) := q.2.2.2.2.2.2.2.2.2.1
theorem IVs.sne {h : Hp} {g : Hp} {c : Nat} {R : Nat → Nat → Nat} {E : Nat → Nat → Nat} {d : Nat} {x : Nat} {hi : Nat → Nat → Nat → Nat} {c' : Nat} {s : Nat} {S : Nat → Nat → Nat} {T : Nat → Nat} {n : Nat} {s' : Nat} (q : IVs h g c R E d x hi c' s S T n s') : ¬ s' = s := q.2.2.2.2.2.2.2.2.2.2
def IV (h g : Hp) : Prop := ∃ c R E d x hi c' s S T n s', IVs h g c R E d x hi c' s S T n s'
section
variable {h h' g g' : Hp} {c c' d x s s' n : Nat} {R E S : Nat → Nat → Nat} {T : Nat → Nat} {hi : Nat → Nat → Nat → Nat} {X : Option (Hp × Hp)}
theorem TP.fr (w : TP h g) (a : h' 1 = h 1) (b : h' 2 = h 2) (e : g' 137 = g 137) (k1 : g' 125 16 = g 125 16) (k2 : g' 125 22 = g 125 22) (k3 : g' 125 23 = g 125 23) : TP h' g' := by
  unfold TP
  rw [a, b, e, k1, k2, k3]
  exact w
theorem TT.fr (w : TT h g) (a : h' 16 = h 16) (b : h' 17 = h 17) (e : g' 144 = g 144) (k1 : g' 125 42 = g 125 42) : TT h' g' := by
  obtain ⟨l, hl, h1, h2⟩ := w
  refine ⟨l, hl, ?_, ?_⟩
  · unfold CT; rw [a, b]; exact h1
  · unfold GT; rw [e, k1]; exact h2
theorem RP.fr (w : RP h g) (a : ∀ j, 1 ≤ j → j ≤ 3 → h' 15 j = h 15 j) (b : ∀ j, 38 ≤ j → j ≤ 40 → g' 125 j = g 125 j) : RP h' g' := by
  unfold RP
  rw [a 1 (by decide) (by decide), a 2 (by decide) (by decide), a 3 (by decide) (by decide), b 38 (by decide) (by decide), b 39 (by decide) (by decide), b 40 (by decide) (by decide)]
  exact w
theorem SRs.fr (w : SRs h g s S T n) (a : ∀ o, o < 7 → h' (s + o) = h (s + o)) (b : h' 15 0 = h 15 0) (e : g' 139 = g 139) (k1 : g' 125 26 = g 125 26) : SRs h' g' s S T n :=
  ⟨w.s1, w.s2, w.S.fr a, ⟨k1.trans w.T.n, w.T.n7, fun i hi => by rw [e]; exact w.T.t i hi⟩, b.trans w.p, w.z, w.m⟩
theorem ED.fr (w : ED h g c R E d x hi) (a : ∀ k, 3 ≤ k → ¬ k = 15 → k < 111 → h' k = h k) (b : ∀ k, k = 126 ∨ (128 ≤ k ∧ k ≤ 135) → g' k = g k) (k1 : g' 125 3 = g 125 3) (k2 : g' 125 13 = g 125 13) : ED h' g' c R E d x hi := by
  have q := w.Q
  have hk := q.k
  have hF : CF h' R E := by
    unfold CF
    rw [a 3 (by decide) (by decide) (by decide), a 4 (by decide) (by decide) (by decide), a 5 (by decide) (by decide) (by decide), a 6 (by decide) (by decide) (by decide), a 7 (by decide) (by decide) (by decide), a 8 (by decide) (by decide) (by decide), a 9 (by decide) (by decide) (by decide), a 10 (by decide) (by decide) (by decide), a 11 (by decide) (by decide) (by decide)]
    exact q.F
  have hG : GR g' R := by
    unfold GR
    rw [b 126 (by decide), b 128 (by decide), b 129 (by decide), b 130 (by decide), b 131 (by decide), b 132 (by decide), b 133 (by decide), k1]
    exact q.G
  have hM : GE g' E := by
    unfold GE
    rw [b 134 (by decide)]
    exact q.M
  exact ⟨⟨q.W, q.E, q.X, hG, hM, q.C.fr (fun o ho => a _ (by omega) (by omega) (by omega)), q.D.fr (fun k p r => a k (by omega) (by omega) (by omega)), hF, by rw [a 3 (by decide) (by decide) (by decide)]; exact q.p, hk⟩, w.Hc.fr (fun k p => a k (by omega) (by omega) (by omega)), w.Hg.fr k2 (b 135 (by decide)), w.Hw⟩
def KPx (X : Option (Hp × Hp)) : Prop := ∃ out, X = some out ∧ IV out.1 out.2
theorem QA.kp (q : QA X h g) (w : IV h g) : KPx X := by
  obtain ⟨g', e, k1, k2⟩ := q
  obtain ⟨c, R, E, d, x, hi, c', s, S, T, n, s', w⟩ := w
  exact ⟨(h, g'), e, c, R, E, d, x, hi, c', s, S, T, n, s', w.w.gw ⟨k1, k2⟩, w.t.fr rfl rfl (k1 137 (by decide)) (k2 16 (by decide)) (k2 22 (by decide)) (k2 23 (by decide)), w.f.fr rfl rfl (k1 144 (by decide)) (k2 42 (by decide)), w.r.fr (fun _ _ _ => rfl) (fun j a b => k2 j (by rcases (show j = 38 ∨ j = 39 ∨ j = 40 by omega) with rfl | rfl | rfl <;> decide)), w.s.fr (fun _ _ => rfl) rfl (k1 139 (by decide)) (k2 26 (by decide)), w.dp, w.hk, w.hne, w.ds, w.hs, w.sne⟩
theorem AA.kp (q : AA X h g c R) (w : IVs h g c R E d x hi c' s S T n s') : KPx X := by
  obtain ⟨h', g', e, a, ⟨k1, k2⟩, E', d', x', hi', w'⟩ := q
  have hs1 := w.s.s1
  exact ⟨(h', g'), e, c, R, E', d', x', hi', c', s, S, T, n, s', w', w.t.fr (a 1 (by omega) (by omega)) (a 2 (by omega) (by omega)) (k1 137 (by decide) (by decide) (by decide)) (k2 16 (by decide) (by decide)) (k2 22 (by decide) (by decide)) (k2 23 (by decide) (by decide)), w.f.fr (a 16 (by omega) (by omega)) (a 17 (by omega) (by omega)) (k1 144 (by decide) (by decide) (by decide)) (k2 42 (by decide) (by decide)), w.r.fr (fun j _ _ => congrFun (a 15 (by omega) (by omega)) j) (fun j a b => k2 j (by rcases (show j = 38 ∨ j = 39 ∨ j = 40 by omega) with rfl | rfl | rfl <;> decide) (by omega)), w.s.fr (fun o ho => a _ (by omega) (by omega)) (congrFun (a 15 (by omega) (by omega)) 0) (k1 139 (by decide) (by decide) (by decide)) (k2 26 (by decide) (by decide)), by show h' 0 5 = _; rw [a 0 (by omega) (by omega)]; exact w.dp, w.hk, w.hne, by show h' 0 6 = _; rw [a 0 (by omega) (by omega)]; exact w.ds, w.hs, w.sne⟩
theorem FA.kp (q : FA X h g) (w : IVs h g c R E d x hi c' s S T n s') : KPx X := by
  obtain ⟨h', g', l, e, a, ⟨k1, k2⟩, hl, t1, t2⟩ := q
  have hs1 := w.s.s1
  exact ⟨(h', g'), e, c, R, E, d, x, hi, c', s, S, T, n, s', w.w.ff a ⟨k1, k2⟩, w.t.fr (a 1 (by omega) (by omega)) (a 2 (by omega) (by omega)) (k1 137 (by decide) (by decide)) (k2 16 (by decide) (by decide)) (k2 22 (by decide) (by decide)) (k2 23 (by decide) (by decide)), ⟨l, hl, t1, t2⟩, w.r.fr (fun j _ _ => congrFun (a 15 (by omega) (by omega)) j) (fun j a b => k2 j (by rcases (show j = 38 ∨ j = 39 ∨ j = 40 by omega) with rfl | rfl | rfl <;> decide) (by omega)), w.s.fr (fun o ho => a _ (by omega) (by omega)) (congrFun (a 15 (by omega) (by omega)) 0) (k1 139 (by decide) (by decide)) (k2 26 (by decide) (by decide)), by show h' 0 5 = _; rw [a 0 (by omega) (by omega)]; exact w.dp, w.hk, w.hne, by show h' 0 6 = _; rw [a 0 (by omega) (by omega)]; exact w.ds, w.hs, w.sne⟩
theorem BA.kp (q : BA X h g) (w : IVs h g c R E d x hi c' s S T n s') : KPx X := by
  obtain ⟨h', g', e, t, a, k1, k2⟩ := q
  have hs1 := w.s.s1
  exact ⟨(h', g'), e, c, R, E, d, x, hi, c', s, S, T, n, s', w.w.fr (fun k p q r => a k (by omega) (by omega)) (fun k p => k1 k (by rcases (show k = 126 ∨ k = 128 ∨ k = 129 ∨ k = 130 ∨ k = 131 ∨ k = 132 ∨ k = 133 ∨ k = 134 ∨ k = 135 by omega) with rfl | rfl | rfl | rfl | rfl | rfl | rfl | rfl | rfl <;> decide) (by omega)) (k2 3 (by decide) (by decide)) (k2 13 (by decide) (by decide)), t, w.f.fr (a 16 (by omega) (by omega)) (a 17 (by omega) (by omega)) (k1 144 (by decide) (by decide)) (k2 42 (by decide) (by decide)), w.r.fr (fun j _ _ => congrFun (a 15 (by omega) (by omega)) j) (fun j a b => k2 j (by rcases (show j = 38 ∨ j = 39 ∨ j = 40 by omega) with rfl | rfl | rfl <;> decide) (by omega)), w.s.fr (fun o ho => a _ (by omega) (by omega)) (congrFun (a 15 (by omega) (by omega)) 0) (k1 139 (by decide) (by decide)) (k2 26 (by decide) (by decide)), by show h' 0 5 = _; rw [a 0 (by omega) (by omega)]; exact w.dp, w.hk, w.hne, by show h' 0 6 = _; rw [a 0 (by omega) (by omega)]; exact w.ds, w.hs, w.sne⟩
theorem RA.kp (q : RA X h g c R) (w : IVs h g c R E d x hi c' s S T n s') : KPx X := by
  obtain ⟨h', g', e, a, a15, k1, k2, ⟨E', d', x', hi', w'⟩, r⟩ := q
  have hs1 := w.s.s1
  exact ⟨(h', g'), e, c, R, E', d', x', hi', c', s, S, T, n, s', w', w.t.fr (a 1 (by omega) (by omega)) (a 2 (by omega) (by omega)) (k1 137 (by decide) (by decide) (by decide)) (k2 16 (by decide) (by decide) (by decide)) (k2 22 (by decide) (by decide) (by decide)) (k2 23 (by decide) (by decide) (by decide)), w.f.fr (a 16 (by omega) (by omega)) (a 17 (by omega) (by omega)) (k1 144 (by decide) (by decide) (by decide)) (k2 42 (by decide) (by decide) (by decide)), r, w.s.fr (fun o ho => a _ (by omega) (by omega)) a15 (k1 139 (by decide) (by decide) (by decide)) (k2 26 (by decide) (by decide) (by decide)), by show h' 0 5 = _; rw [a 0 (by omega) (by omega)]; exact w.dp, w.hk, w.hne, by show h' 0 6 = _; rw [a 0 (by omega) (by omega)]; exact w.ds, w.hs, w.sne⟩
theorem LA.kp (q : LA X h g c c') (w : IVs h g c R E d x hi c' s S T n s') : KPx X := by
  obtain ⟨h', g', c1, c2, R', E', d', x', hi', e, w', e5, hc, t, a, a0, k1, k2⟩ := q
  have hs1 := w.s.s1
  have hne := w.hne
  have hk := w.hk
  have hk2 := w.w.Q.k
  have hk3 : knd c2 = 4 ∧ (c2 = 83 ∨ c2 = 97) := by
    rcases hc with ⟨-, y⟩ | ⟨-, y⟩ <;> rw [y]
    · exact hk
    · exact hk2
  exact ⟨(h', g'), e, c1, R', E', d', x', hi', c2, s, S, T, n, s', w', t, w.f.fr (a 16 (by omega) (by omega) (by omega) (by omega)) (a 17 (by omega) (by omega) (by omega) (by omega)) (k1 144 (by omega) (by omega) (by omega)) (k2 42 (by omega) (by omega) (by omega) (by omega)), w.r.fr (fun j _ _ => congrFun (a 15 (by omega) (by omega) (by omega) (by omega)) j) (fun j a b => k2 j (by omega) (by omega) (by omega) (by omega)), w.s.fr (fun o ho => a _ (by omega) (by omega) (by omega) (by omega)) (congrFun (a 15 (by omega) (by omega) (by omega) (by omega)) 0) (k1 139 (by omega) (by omega) (by omega)) (k2 26 (by omega) (by omega) (by omega) (by omega)), e5, hk3, by omega, by show h' 0 6 = _; rw [a0 6 (by omega)]; exact w.ds, w.hs, w.sne⟩
theorem LSA.kp (q : LSA X h g s s') (w : IVs h g c R E d x hi c' s S T n s') : KPx X := by
  obtain ⟨h', g', s1, s2, S', T', n', e, sr, e6, hc, t, a, a0, a15, k1, k2⟩ := q
  have hs1 := w.s.s1
  have hs2 := w.s.s2
  have sne := w.sne
  have hs := w.hs
  have hk := w.hk
  have hk3 : knd s2 = 6 ∧ (s2 = 111 ∨ s2 = 118) := by
    rcases hc with ⟨-, y⟩ | ⟨-, y⟩ <;> rw [y]
    · exact hs
    · exact ⟨hs2, hs1⟩
  exact ⟨(h', g'), e, c, R, E, d, x, hi, c', s1, S', T', n', s2, w.w.fr (fun k p q r => a k (by omega) (by omega) (by omega)) (fun k p => k1 k (by omega) (by omega) (by omega) (by omega)) (k2 3 (by omega) (by omega) (by omega)) (k2 13 (by omega) (by omega) (by omega)), t, w.f.fr (a 16 (by omega) (by omega) (by omega)) (a 17 (by omega) (by omega) (by omega)) (k1 144 (by omega) (by omega) (by omega) (by omega)) (k2 42 (by omega) (by omega) (by omega)), w.r.fr (fun j _ _ => a15 j (by omega)) (fun j a b => k2 j (by omega) (by omega) (by omega)), sr, by show h' 0 5 = _; rw [a0 5 (by omega)]; exact w.dp, hk, w.hne, e6, hk3, by omega⟩
theorem IV.self (w : IV h g) : KPx (some (h, g)) := ⟨(h, g), rfl, w⟩
theorem st_all (w : IV h g) (xs : Nat → Int32) (i z : Int32) : KPx (stepz xs i z h g) := by
  have v := w
  obtain ⟨c, R, E, d, x, hi, c', s, S, T, n, s', w⟩ := w
  have q := w.w.Q
  unfold stepz
  by_cases z0 : z = 0
  · rw [if_pos z0]; exact (qa0 w.t _ _ _ _ _).kp w
  rw [if_neg z0]
  by_cases z1 : z = 1
  · rw [if_pos z1]; exact (qa1 w.t _).kp w
  rw [if_neg z1]
  by_cases z2 : z = 2
  · rw [if_pos z2]; exact (qa2 w.w w.t w.dp w.hk w.hne).kp w
  rw [if_neg z2]
  by_cases z3 : z = 3
  · rw [if_pos z3]; exact (qa3 w.s w.t w.ds w.hs w.sne).kp w
  rw [if_neg z3]
  by_cases z4 : z = 4
  · rw [if_pos z4]; exact (qa4 w.t).kp v
  rw [if_neg z4]
  by_cases z5 : z = 5
  · rw [if_pos z5]; exact (qa5 w.t).kp v
  rw [if_neg z5]
  by_cases z6 : z = 6
  · rw [if_pos z6]; exact (qa6 q _).kp v
  rw [if_neg z6]
  by_cases z7 : z = 7
  · rw [if_pos z7]; exact (qa7 q _ _).kp v
  rw [if_neg z7]
  by_cases z8 : z = 8
  · rw [if_pos z8]; exact (qa8 q _ _).kp v
  rw [if_neg z8]
  by_cases z9 : z = 9
  · rw [if_pos z9]; exact (qa9 q _ _).kp v
  rw [if_neg z9]
  by_cases z10 : z = 10
  · rw [if_pos z10]; exact (qa10 q).kp v
  rw [if_neg z10]
  by_cases z11 : z = 11
  · rw [if_pos z11]; exact (qa11 q _ _).kp v
  rw [if_neg z11]
  by_cases z12 : z = 12
  · rw [if_pos z12]; exact (qa12 q _).kp v
  rw [if_neg z12]
  by_cases z13 : z = 13
  · rw [if_pos z13]; exact (qa13 q _).kp v
  rw [if_neg z13]
  by_cases z14 : z = 14
  · rw [if_pos z14]; exact (qa14 q _).kp v
  rw [if_neg z14]
  by_cases z15 : z = 15
  · rw [if_pos z15]; exact (qa15 q).kp v
  rw [if_neg z15]
  by_cases z16 : z = 16
  · rw [if_pos z16]; exact (qa16 q _).kp v
  rw [if_neg z16]
  by_cases z17 : z = 17
  · rw [if_pos z17]; exact (qa17 q _ _).kp v
  rw [if_neg z17]
  by_cases z18 : z = 18
  · rw [if_pos z18]; exact (qa18 q).kp v
  rw [if_neg z18]
  by_cases z19 : z = 19
  · rw [if_pos z19]; exact (qa19 q).kp v
  rw [if_neg z19]
  by_cases z20 : z = 20
  · rw [if_pos z20]; exact (qa20 q _ _).kp v
  rw [if_neg z20]
  by_cases z21 : z = 21
  · rw [if_pos z21]; exact (qa21 q _).kp v
  rw [if_neg z21]
  by_cases z22 : z = 22
  · rw [if_pos z22]; exact (qa22 q _ _).kp v
  rw [if_neg z22]
  by_cases z23 : z = 23
  · rw [if_pos z23]; exact (qa23 q).kp v
  rw [if_neg z23]
  by_cases z24 : z = 24
  · rw [if_pos z24]; exact (qa24 q).kp v
  rw [if_neg z24]
  by_cases z25 : z = 25
  · rw [if_pos z25]; exact (qa25 q _).kp v
  rw [if_neg z25]
  by_cases z26 : z = 26
  · rw [if_pos z26]; exact (qa26 q).kp v
  rw [if_neg z26]
  by_cases z27 : z = 27
  · rw [if_pos z27]; exact (qa27 q _).kp v
  rw [if_neg z27]
  by_cases z28 : z = 28
  · rw [if_pos z28]; exact (qa28 q _).kp v
  rw [if_neg z28]
  by_cases z29 : z = 29
  · rw [if_pos z29]; exact (qa29 q _).kp v
  rw [if_neg z29]
  by_cases z30 : z = 30
  · rw [if_pos z30]; exact (qa30 q _).kp v
  rw [if_neg z30]
  by_cases z31 : z = 31
  · rw [if_pos z31]; exact (qa31 q).kp v
  rw [if_neg z31]
  by_cases z32 : z = 32
  · rw [if_pos z32]; exact (qa32 w.w _ _).kp w
  rw [if_neg z32]
  by_cases z33 : z = 33
  · rw [if_pos z33]; exact (qa33 w.w _).kp w
  rw [if_neg z33]
  by_cases z34 : z = 34
  · rw [if_pos z34]; exact (qa34 w.w _).kp w
  rw [if_neg z34]
  by_cases z35 : z = 35
  · rw [if_pos z35]; exact (qa35 w.w _ _).kp w
  rw [if_neg z35]
  by_cases z36 : z = 36
  · rw [if_pos z36]; exact (qa36 w.w _).kp w
  rw [if_neg z36]
  by_cases z37 : z = 37
  · rw [if_pos z37]; exact (qa37 w.w _ _).kp w
  rw [if_neg z37]
  by_cases z38 : z = 38
  · rw [if_pos z38]; exact (qa38 w.w _ _ _).kp w
  rw [if_neg z38]
  by_cases z39 : z = 39
  · rw [if_pos z39]; exact (qa39 w.w _ _ _).kp w
  rw [if_neg z39]
  by_cases z40 : z = 40
  · rw [if_pos z40]; exact (qa40 w.w w.s).kp w
  rw [if_neg z40]
  by_cases z41 : z = 41
  · rw [if_pos z41]; exact (qa41 w.r).kp v
  rw [if_neg z41]
  by_cases z42 : z = 42
  · rw [if_pos z42]; exact (qa42 w.r).kp v
  rw [if_neg z42]
  by_cases z43 : z = 43
  · rw [if_pos z43]; exact (qa43 w.w).kp w
  rw [if_neg z43]
  by_cases z44 : z = 44
  · rw [if_pos z44]; exact (qa44 w.w).kp v
  rw [if_neg z44]
  by_cases z45 : z = 45
  · rw [if_pos z45]; exact (qa45 w.w).kp w
  rw [if_neg z45]
  by_cases z46 : z = 46
  · rw [if_pos z46]; exact (qa46 w.w w.f _).kp w
  rw [if_neg z46]
  by_cases z47 : z = 47
  · rw [if_pos z47]; exact (qa47 w.f _).kp v
  rw [if_neg z47]
  exact v.self
theorem run_all (xs : Nat → Int32) (L : Nat) : ∀ n a h g, IV h g → 1 ≤ n → L < a + 6 * n → run xs L n a h g = some () := by
  intro n
  induction n with
  | zero => intro a h g w h1; omega
  | succ n ih =>
    intro a h g w h1 hl
    unfold run
    by_cases z : L < a + 6
    · rw [if_pos z]
    · rw [if_neg z]
      obtain ⟨out, e, w2⟩ := st_all w xs (nI a) (xs (ix (nI a)) &&& 63)
      unfold step
      rw [e, bnd_some]
      exact ih (a + 6) _ _ w2 (by omega) (by omega)
end
