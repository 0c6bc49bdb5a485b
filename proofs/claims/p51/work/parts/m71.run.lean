/-! a script's run: where it stands on both sides -/
def RN (h : Hp) (g : Hp) (c : Nat) (R : Nat → Nat → Nat) (s : Nat) (S : Nat → Nat → Nat) (T : Nat → Nat) (n : Nat) (E : Nat → Nat → Nat) (b : Nat) (f : Nat) (z : Nat) : Prop :=
  (QQ h g c R E) ∧
  (s = 111 ∨ s = 118) ∧
  (knd s = 6) ∧
  (CS h s S) ∧
  (GS g T n) ∧
  (h 15 0 = nI s) ∧
  (h 15 1 = nI b) ∧
  (g 125 38 = nI b) ∧
  (h 15 2 = nI f) ∧
  (g 125 39 = nI f) ∧
  (h 15 3 = nI z) ∧
  (g 125 40 = nI z) ∧
  (b ≤ 200) ∧
  (f ≤ b) ∧
  (z ≤ 1)
theorem RN.Q {h : Hp} {g : Hp} {c : Nat} {R : Nat → Nat → Nat} {s : Nat} {S : Nat → Nat → Nat} {T : Nat → Nat} {n : Nat} {E : Nat → Nat → Nat} {b : Nat} {f : Nat} {z : Nat} (q : RN h g c R s S T n E b f z) : QQ h g c R E := q.1
theorem RN.s1 {h : Hp} {g : Hp} {c : Nat} {R : Nat → Nat → Nat} {s : Nat} {S : Nat → Nat → Nat} {T : Nat → Nat} {n : Nat} {E : Nat → Nat → Nat} {b : Nat} {f : Nat} {z : Nat} (q : RN h g c R s S T n E b f z) : s = 111 ∨ s = 118 := q.2.1
theorem RN.s2 {h : Hp} {g : Hp} {c : Nat} {R : Nat → Nat → Nat} {s : Nat} {S : Nat → Nat → Nat} {T : Nat → Nat} {n : Nat} {E : Nat → Nat → Nat} {b : Nat} {f : Nat} {z : Nat} (q : RN h g c R s S T n E b f z) : knd s = 6 := q.2.2.1
theorem RN.S {h : Hp} {g : Hp} {c : Nat} {R : Nat → Nat → Nat} {s : Nat} {S : Nat → Nat → Nat} {T : Nat → Nat} {n : Nat} {E : Nat → Nat → Nat} {b : Nat} {f : Nat} {z : Nat} (q : RN h g c R s S T n E b f z) : CS h s S := q.2.2.2.1
theorem RN.T {h : Hp} {g : Hp} {c : Nat} {R : Nat → Nat → Nat} {s : Nat} {S : Nat → Nat → Nat} {T : Nat → Nat} {n : Nat} {E : Nat → Nat → Nat} {b : Nat} {f : Nat} {z : Nat} (q : RN h g c R s S T n E b f z) : GS g T n := q.2.2.2.2.1
theorem RN.p {h : Hp} {g : Hp} {c : Nat} {R : Nat → Nat → Nat} {s : Nat} {S : Nat → Nat → Nat} {T : Nat → Nat} {n : Nat} {E : Nat → Nat → Nat} {b : Nat} {f : Nat} {z : Nat} (q : RN h g c R s S T n E b f z) : h 15 0 = nI s := q.2.2.2.2.2.1
theorem RN.b1 {h : Hp} {g : Hp} {c : Nat} {R : Nat → Nat → Nat} {s : Nat} {S : Nat → Nat → Nat} {T : Nat → Nat} {n : Nat} {E : Nat → Nat → Nat} {b : Nat} {f : Nat} {z : Nat} (q : RN h g c R s S T n E b f z) : h 15 1 = nI b := q.2.2.2.2.2.2.1
theorem RN.b2 {h : Hp} {g : Hp} {c : Nat} {R : Nat → Nat → Nat} {s : Nat} {S : Nat → Nat → Nat} {T : Nat → Nat} {n : Nat} {E : Nat → Nat → Nat} {b : Nat} {f : Nat} {z : Nat} (q : RN h g c R s S T n E b f z) : g 125 38 = nI b := q.2.2.2.2.2.2.2.1
theorem RN.f1 {h : Hp} {g : Hp} {c : Nat} {R : Nat → Nat → Nat} {s : Nat} {S : Nat → Nat → Nat} {T : Nat → Nat} {n : Nat} {E : Nat → Nat → Nat} {b : Nat} {f : Nat} {z : Nat} (q : RN h g c R s S T n E b f z) : h 15 2 = nI f := q.2.2.2.2.2.2.2.2.1
theorem RN.f2 {h : Hp} {g : Hp} {c : Nat} {R : Nat → Nat → Nat} {s : Nat} {S : Nat → Nat → Nat} {T : Nat → Nat} {n : Nat} {E : Nat → Nat → Nat} {b : Nat} {f : Nat} {z : Nat} (q : RN h g c R s S T n E b f z) : g 125 39 = nI f := q.2.2.2.2.2.2.2.2.2.1
theorem RN.z1 {h : Hp} {g : Hp} {c : Nat} {R : Nat → Nat → Nat} {s : Nat} {S : Nat → Nat → Nat} {T : Nat → Nat} {n : Nat} {E : Nat → Nat → Nat} {b : Nat} {f : Nat} {z : Nat} (q : RN h g c R s S T n E b f z) : h 15 3 = nI z := q.2.2.2.2.2.2.2.2.2.2.1
theorem RN.z2 {h : Hp} {g : Hp} {c : Nat} {R : Nat → Nat → Nat} {s : Nat} {S : Nat → Nat → Nat} {T : Nat → Nat} {n : Nat} {E : Nat → Nat → Nat} {b : Nat} {f : Nat} {z : Nat} (q : RN h g c R s S T n E b f z) : g 125 40 = nI z := q.2.2.2.2.2.2.2.2.2.2.2.1
theorem RN.bl {h : Hp} {g : Hp} {c : Nat} {R : Nat → Nat → Nat} {s : Nat} {S : Nat → Nat → Nat} {T : Nat → Nat} {n : Nat} {E : Nat → Nat → Nat} {b : Nat} {f : Nat} {z : Nat} (q : RN h g c R s S T n E b f z) : b ≤ 200 := q.2.2.2.2.2.2.2.2.2.2.2.2.1
theorem RN.fl {h : Hp} {g : Hp} {c : Nat} {R : Nat → Nat → Nat} {s : Nat} {S : Nat → Nat → Nat} {T : Nat → Nat} {n : Nat} {E : Nat → Nat → Nat} {b : Nat} {f : Nat} {z : Nat} (q : RN h g c R s S T n E b f z) : f ≤ b := q.2.2.2.2.2.2.2.2.2.2.2.2.2.1
theorem RN.zl {h : Hp} {g : Hp} {c : Nat} {R : Nat → Nat → Nat} {s : Nat} {S : Nat → Nat → Nat} {T : Nat → Nat} {n : Nat} {E : Nat → Nat → Nat} {b : Nat} {f : Nat} {z : Nat} (q : RN h g c R s S T n E b f z) : z ≤ 1 := q.2.2.2.2.2.2.2.2.2.2.2.2.2.2
def RH (h h' : Hp) : Prop := (∀ k, ¬ (3 ≤ k ∧ k ≤ 12) → ¬ (18 ≤ k ∧ k ≤ 22) → ¬ k = 15 → h' k = h k) ∧ h' 3 0 = h 3 0 ∧ h' 15 0 = h 15 0
def RG (g g' : Hp) : Prop := (∀ k, relO k = true → ¬ k = 134 → g' k = g k) ∧ ∀ j, relF j = true → ¬ (38 ≤ j ∧ j ≤ 40) → g' 125 j = g 125 j
theorem RH.rf (h : Hp) : RH h h := ⟨fun _ _ _ _ => rfl, rfl, rfl⟩
theorem RG.rf (g : Hp) : RG g g := ⟨fun _ _ _ => rfl, fun _ _ _ => rfl⟩
theorem RH.tr {a b c : Hp} (h1 : RH a b) (h2 : RH b c) : RH a c := ⟨fun k p q r => (h2.1 k p q r).trans (h1.1 k p q r), h2.2.1.trans h1.2.1, h2.2.2.trans h1.2.2⟩
theorem RG.tr {a b c : Hp} (h1 : RG a b) (h2 : RG b c) : RG a c := ⟨fun k p q => (h2.1 k p q).trans (h1.1 k p q), fun j p q => (h2.2 j p q).trans (h1.2 j p q)⟩
theorem HF.rh {h h' : Hp} (q : HF h h') : RH h h' := ⟨fun k a b _ => q.1 k a b, q.2, by rw [q.1 15 (by omega) (by omega)]⟩
theorem AW.rg {g g' : Hp} (q : AW g g') : RG g g' := ⟨fun k a b => q.1 k a b, fun j a _ => q.2.1 j a⟩
theorem RH.up (h : Hp) {j : Nat} {v : Int32} (hj : ¬ j = 0) : RH h (up h 15 j v) := ⟨fun k _ _ d => up_o d, by rw [up_o (by decide)], up_sn (fun e => hj e.symm)⟩
theorem RG.up (g : Hp) {j : Nat} {v : Int32} (hj : 38 ≤ j ∧ j ≤ 40) : RG g (up g 125 j v) := ⟨fun k a _ => up_o (fun e => by subst e; revert a; decide), fun i _ b => up_sn (fun e => by subst e; exact b hj)⟩
/-- the script that the tape spells: S from command k to k', T from place p to p', d more blocks deep -/
def CMD (S : Nat → Nat → Nat) (T : Nat → Nat) (n : Nat) (r : Nat → Nat → Nat → Nat → Nat → Prop) (d k p q : Nat) : Prop := k < 30 ∧ T p = S 1 k ∧ p < q ∧ q ≤ n ∧ k < S 4 k ∧ S 4 k ≤ 30 ∧
  ((S 1 k ≤ 2 ∧ PH S T n (2 * k) (p + 1) ∧ q = p + 2 + T (p + 1)) ∨
   (S 1 k = 3 ∧ PH S T n (2 * k) (p + 1) ∧ PH S T n (2 * k + 1) (p + 2 + T (p + 1)) ∧ q = p + 2 + T (p + 1) + 1 + T (p + 2 + T (p + 1))) ∨
   (S 1 k = 4 ∧ 0 < d ∧ PH S T n (2 * k) (p + 1) ∧ ∃ r1 r2, r1 = p + 2 + T (p + 1) ∧ r2 = r1 + 1 + T r1 ∧ q = r2 + 1 + T r2 ∧ S 3 k ≤ 30 ∧ r2 < n ∧ r (d - 1) (k + 1) (S 3 k) (r1 + 1) r2 ∧ r (d - 1) (S 3 k) (S 4 k) (r2 + 1) q) ∨
   (S 1 k = 5 ∧ 0 < d ∧ T (p + 1) = S 2 k ∧ S 2 k ≤ 9 ∧ q = p + 3 + T (p + 2) ∧ r (d - 1) (k + 1) (S 4 k) (p + 3) q))
def SQ (S : Nat → Nat → Nat) (T : Nat → Nat) (n m : Nat) : Nat → Nat → Nat → Nat → Nat → Prop := Nat.rec (motive := fun _ => Nat → Nat → Nat → Nat → Nat → Prop) (fun _ k k' p p' => k = k' ∧ p = p') (fun _ r d k k' p p' => (k = k' ∧ p = p') ∨ ∃ q, S 4 k ≤ k' ∧ q ≤ p' ∧ CMD S T n r d k p q ∧ r d (S 4 k) k' q p') m
theorem SQ_s (S : Nat → Nat → Nat) (T : Nat → Nat) (n m d k k' p p' : Nat) : SQ S T n (m + 1) d k k' p p' = ((k = k' ∧ p = p') ∨ ∃ q, S 4 k ≤ k' ∧ q ≤ p' ∧ CMD S T n (SQ S T n m) d k p q ∧ SQ S T n m d (S 4 k) k' q p') := rfl
theorem SQ_0 (S : Nat → Nat → Nat) (T : Nat → Nat) (n d k k' p p' : Nat) : SQ S T n 0 d k k' p p' = (k = k' ∧ p = p') := rfl
section
variable {h g : Hp} {c s : Nat} {R E S : Nat → Nat → Nat} {T : Nat → Nat} {n b f z : Nat}
theorem SQ_le : ∀ m d k k' p p', SQ S T n m d k k' p p' → k ≤ k' ∧ p ≤ p' := by
  intro m
  cases m with
  | zero => intro d k k' p p' w; rw [SQ_0] at w; omega
  | succ m =>
    intro d k k' p p' w
    rw [SQ_s] at w
    rcases w with ⟨w1, w2⟩ | ⟨q, w1, w2, w3, -⟩
    · omega
    · have := w3.2.2.1
      have := w3.2.2.2.2.1
      omega
theorem QQ.up15 {h g : Hp} {c : Nat} {R E : Nat → Nat → Nat} (q : QQ h g c R E) (j : Nat) (v : Int32) : QQ (up h 15 j v) g c R E := by
  have hk := q.k
  have hF : CF (up h 15 j v) R E := by
    have : ∀ k, k ≤ 12 → (up h 15 j v) k = h k := fun k hk => up_o (by omega)
    unfold CF
    rw [this 3 (by decide), this 4 (by decide), this 5 (by decide), this 6 (by decide), this 7 (by decide), this 8 (by decide), this 9 (by decide), this 10 (by decide), this 11 (by decide)]
    exact q.F
  exact ⟨q.W, q.E, q.X, q.G, q.M, q.C.fr (fun o ho => up_o (by omega)), q.D.fr (fun k a b => up_o (by omega)), hF, by rw [up_o (by decide)]; exact q.p, hk⟩
theorem QQ.upG {h g : Hp} {c : Nat} {R E : Nat → Nat → Nat} (q : QQ h g c R E) {j : Nat} {v : Int32} (hj : ¬ j = 3) : QQ h (up g 125 j v) c R E := by
  have hG : GR (up g 125 j v) R := by
    unfold GR
    rw [up_o (show ¬ 126 = 125 by decide), up_o (show ¬ 128 = 125 by decide), up_o (show ¬ 129 = 125 by decide), up_o (show ¬ 130 = 125 by decide), up_o (show ¬ 131 = 125 by decide), up_o (show ¬ 132 = 125 by decide), up_o (show ¬ 133 = 125 by decide), up_sn (fun e => hj e.symm)]
    exact q.G
  have hM : GE (up g 125 j v) E := by
    unfold GE
    rw [up_o (show ¬ 134 = 125 by decide)]
    exact q.M
  exact ⟨q.W, q.E, q.X, hG, hM, q.C, q.D, q.F, q.p, q.k⟩
theorem CS.up15 (q : CS h s S) (hs : s = 111 ∨ s = 118) (j : Nat) (v : Int32) : CS (up h 15 j v) s S := q.fr (fun o ho => up_o (by omega))
theorem GS.upG (q : GS g T n) {j : Nat} {v : Int32} (hj : ¬ j = 26) : GS (up g 125 j v) T n := ⟨by rw [up_sn (fun e => hj e.symm)]; exact q.n, q.n7, fun i hi => by rw [up_o (by decide)]; exact q.t i hi⟩
theorem RN.beg (w : RN h g c R s S T n E b f z) (hb : b < 200) : RN (up h 15 1 (nI (b + 1))) (up g 125 38 (nI (b + 1))) c R s S T n E (b + 1) f z :=
  ⟨(w.Q.up15 _ _).upG (by decide), w.s1, w.s2, w.S.up15 w.s1 _ _, w.T.upG (by decide), by rw [up_sn (by decide)]; exact w.p, up_ss, up_ss, by rw [up_sn (by decide)]; exact w.f1, by rw [up_sn (by decide)]; exact w.f2, by rw [up_sn (by decide)]; exact w.z1, by rw [up_sn (by decide)]; exact w.z2, by omega, by have := w.fl; omega, w.zl⟩
theorem RN.stop (w : RN h g c R s S T n E b f z) : RN (up h 15 3 (nI 1)) (up g 125 40 (nI 1)) c R s S T n E b f 1 :=
  ⟨(w.Q.up15 _ _).upG (by decide), w.s1, w.s2, w.S.up15 w.s1 _ _, w.T.upG (by decide), by rw [up_sn (by decide)]; exact w.p, by rw [up_sn (by decide)]; exact w.b1, by rw [up_sn (by decide)]; exact w.b2, by rw [up_sn (by decide)]; exact w.f1, by rw [up_sn (by decide)]; exact w.f2, up_ss, up_ss, w.bl, w.fl, Nat.le_refl _⟩
theorem RN.flr (w : RN h g c R s S T n E b f z) (hf : f < b) : RN (up h 15 2 (nI (f + 1))) (up g 125 39 (nI (f + 1))) c R s S T n E b (f + 1) z :=
  ⟨(w.Q.up15 _ _).upG (by decide), w.s1, w.s2, w.S.up15 w.s1 _ _, w.T.upG (by decide), by rw [up_sn (by decide)]; exact w.p, by rw [up_sn (by decide)]; exact w.b1, by rw [up_sn (by decide)]; exact w.b2, up_ss, up_ss, by rw [up_sn (by decide)]; exact w.z1, by rw [up_sn (by decide)]; exact w.z2, w.bl, by omega, w.zl⟩
theorem RN.same (w : RN h g c R s S T n E b f z) : RN h (up g 125 39 (nI f)) c R s S T n E b f z :=
  ⟨w.Q.upG (by decide), w.s1, w.s2, w.S, w.T.upG (by decide), w.p, w.b1, by rw [up_sn (by decide)]; exact w.b2, w.f1, up_ss, w.z1, by rw [up_sn (by decide)]; exact w.z2, w.bl, w.fl, w.zl⟩
/-- a change by phrases on the way -/
theorem RN.lf (w : RN h g c R s S T n E b f z) {X Y : Option (Int32 × Hp)} (q : LF X Y h g R) : ∃ v h' g' E', X = some (nI v, h') ∧ Y = some (nI v, g') ∧ v ≤ 1 ∧ RN h' g' c R s S T n E' b f z ∧ RH h h' ∧ RG g g' := by
  obtain ⟨v, h', g', E', e1, e2, hv, D, F, H, M, A, WE', WX'⟩ := q
  have hk := w.Q.k
  have hs := w.s1
  have e15 : h' 15 = h 15 := H.1 15 (by omega) (by omega)
  refine ⟨v, h', g', E', e1, e2, hv, ⟨⟨w.Q.W, WE', WX', w.Q.G.fa A, M, H.cr hk w.Q.C, D, F, H.2.trans w.Q.p, hk⟩, hs, w.s2, w.S.fr (fun o ho => H.1 _ (by omega) (by omega)), w.T.fr A.gf, by rw [e15]; exact w.p, by rw [e15]; exact w.b1, by rw [A.2.1 38 (by decide)]; exact w.b2, by rw [e15]; exact w.f1, by rw [A.2.1 39 (by decide)]; exact w.f2, by rw [e15]; exact w.z1, by rw [A.2.1 40 (by decide)]; exact w.z2, w.bl, w.fl, w.zl⟩, H.rh, A.rg⟩
/-- a reading of the model's on the way -/
theorem RN.row (w : RN h g c R s S T n E b f z) {g' : Hp} (q : RowOK g g' R E) : RN h g' c R s S T n E b f z := by
  have A := q.aw
  exact ⟨w.Q.fr q.gw, w.s1, w.s2, w.S, w.T.fr A.gf, w.p, w.b1, by rw [A.2.1 38 (by decide)]; exact w.b2, w.f1, by rw [A.2.1 39 (by decide)]; exact w.f2, w.z1, by rw [A.2.1 40 (by decide)]; exact w.z2, w.bl, w.fl, w.zl⟩
theorem m_pe (w : GS g T n) {i : Nat} (hi : i < n) : f_X11_phraseEnd g (nI i) = some (nI (i + 1 + T i)) := by
  have n7 := w.n7
  unfold f_X11_phraseEnd
  rw [inb_t (by omega) (by omega), ck_true, ix_n (by omega), w.t i hi]
  show some (nI i + nI 1 + nI (T i)) = _
  rw [nI_add, nI_add]
end
