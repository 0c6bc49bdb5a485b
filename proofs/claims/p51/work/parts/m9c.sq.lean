/-! the script that is read: numbers of both sides, and what stays when more is read -/
def vn (v : Int32) : Nat := v.toBitVec.toNat
theorem n_vn (v : Int32) : nI (vn v) = v := nI_any v
theorem vn_n {a : Nat} (h : a < 4294967296) : vn (nI a) = a := by
  show (BitVec.ofNat 32 a).toNat = a
  rw [BitVec.toNat_ofNat]
  omega
def Sd (h : Hp) (s : Nat) : Nat → Nat → Nat := fun o j => vn (h (s + o) j)
def Td (g : Hp) : Nat → Nat := fun j => vn (g 140 j)
theorem Sd_cs (h : Hp) (s : Nat) : CS h s (Sd h s) := ⟨(n_vn _).symm, fun _ _ _ _ => (n_vn _).symm⟩
def SA (S S' : Nat → Nat → Nat) (k k' : Nat) : Prop := (∀ o j, 1 ≤ o → o ≤ 4 → k ≤ j → j < k' → S' o j = S o j) ∧ (∀ j, 2 * k ≤ j → j < 2 * k' → S' 5 j = S 5 j) ∧ ∀ j, 12 * k ≤ j → j < 12 * k' → S' 6 j = S 6 j
section
variable {S S' : Nat → Nat → Nat} {T T' : Nat → Nat} {n n' : Nat}
theorem SA.sub {a b k k' : Nat} (w : SA S S' k k') (h1 : k ≤ a) (h2 : b ≤ k') : SA S S' a b := ⟨fun o j x y z v => w.1 o j x y (by omega) (by omega), fun j x y => w.2.1 j (by omega) (by omega), fun j x y => w.2.2 j (by omega) (by omega)⟩
theorem PH.fr {ph k : Nat} (w : PH S T n ph k) (h5 : S' 5 ph = S 5 ph) (h6 : ∀ i, i < 6 → S' 6 (6 * ph + i) = S 6 (6 * ph + i)) (ht : ∀ j, k ≤ j → j < k + 1 + S 5 ph → T' j = T j) (he : k + 1 + S 5 ph ≤ n') : PH S' T' n' ph k := by
  have n1 := w.n1
  have n6 := w.n6
  refine ⟨?_, ?_, ?_, w.p, ?_, fun i hi => ?_, fun i hi => ?_⟩
  · rw [h5, ht k (by omega) (by omega)]; exact w.n
  · rw [h5]; exact n1
  · rw [h5]; exact n6
  · rw [h5]; exact he
  · rw [h5] at hi; rw [h6 i (by omega)]; exact w.nm i hi
  · rw [h5] at hi; rw [h6 i (by omega), ht _ (by omega) (by omega)]; exact w.t i hi
theorem CMD_fr {r r' : Nat → Nat → Nat → Nat → Nat → Prop} {d k p q : Nat} (w : CMD S T n r d k p q) (hA : SA S S' k (S 4 k)) (hT : ∀ j, p ≤ j → j < q → T' j = T j) (hq : q ≤ n') (hle : ∀ d k k' p p', r d k k' p p' → k ≤ k' ∧ p ≤ p') (hr : ∀ d k1 k2 p1 p2, k < k1 → k2 ≤ S 4 k → p < p1 → p2 ≤ q → r d k1 k2 p1 p2 → r' d k1 k2 p1 p2) : CMD S' T' n' r' d k p q := by
  obtain ⟨a1, a2, a3, a4, a5, a6, a7⟩ := w
  have e1 : S' 1 k = S 1 k := hA.1 1 k (by omega) (by omega) (by omega) (by omega)
  have e2 : S' 2 k = S 2 k := hA.1 2 k (by omega) (by omega) (by omega) (by omega)
  have e3 : S' 3 k = S 3 k := hA.1 3 k (by omega) (by omega) (by omega) (by omega)
  have e4 : S' 4 k = S 4 k := hA.1 4 k (by omega) (by omega) (by omega) (by omega)
  have f0 : T' p = T p := hT p (by omega) (by omega)
  have p1 : ∀ {x : Nat}, PH S T n (2 * k) x → p ≤ x → x + 1 + S 5 (2 * k) ≤ q → PH S' T' n' (2 * k) x := fun w h1 h2 => w.fr (hA.2.1 _ (by omega) (by omega)) (fun i hi => hA.2.2 _ (by omega) (by omega)) (fun j y z => hT j (by omega) (by omega)) (by omega)
  have p2 : ∀ {x : Nat}, PH S T n (2 * k + 1) x → p ≤ x → x + 1 + S 5 (2 * k + 1) ≤ q → PH S' T' n' (2 * k + 1) x := fun w h1 h2 => w.fr (hA.2.1 _ (by omega) (by omega)) (fun i hi => hA.2.2 _ (by omega) (by omega)) (fun j y z => hT j (by omega) (by omega)) (by omega)
  unfold CMD
  rw [f0, e1, e2, e3, e4]
  refine ⟨a1, a2, a3, hq, a5, a6, ?_⟩
  rcases a7 with ⟨b1, b2, b3⟩ | ⟨b1, b2, b3, b4⟩ | ⟨b1, b2, b3, r1, r2, c1, c2, c3, c4, c5, c6, c7⟩ | ⟨b1, b2, b3, b4, b5, b6⟩
  · have f1 : T' (p + 1) = T (p + 1) := hT _ (by omega) (by omega)
    have q1 := b2.n
    exact Or.inl ⟨b1, p1 b2 (by omega) (by omega), by rw [f1]; exact b3⟩
  · have f1 : T' (p + 1) = T (p + 1) := hT _ (by omega) (by omega)
    have f2 : T' (p + 2 + T (p + 1)) = T (p + 2 + T (p + 1)) := hT _ (by omega) (by omega)
    have q1 := b2.n
    have q2 := b3.n
    exact Or.inr (Or.inl ⟨b1, p1 b2 (by omega) (by omega), by rw [f1]; exact p2 b3 (by omega) (by omega), by rw [f1, f2]; exact b4⟩)
  · have f1 : T' (p + 1) = T (p + 1) := hT _ (by omega) (by omega)
    have f2 : T' r1 = T r1 := hT _ (by omega) (by omega)
    have f3 : T' r2 = T r2 := hT _ (by omega) (by omega)
    have q1 := b3.n
    have l1 := hle _ _ _ _ _ c6
    have l2 := hle _ _ _ _ _ c7
    refine Or.inr (Or.inr (Or.inl ⟨b1, b2, p1 b3 (by omega) (by omega), r1, r2, by rw [f1]; exact c1, by rw [f2]; exact c2, by rw [f3]; exact c3, c4, by omega, hr _ _ _ _ _ (by omega) (by omega) (by omega) (by omega) c6, hr _ _ _ _ _ (by omega) (by omega) (by omega) (by omega) c7⟩))
  · have f1 : T' (p + 1) = T (p + 1) := hT _ (by omega) (by omega)
    have f2 : T' (p + 2) = T (p + 2) := hT _ (by omega) (by omega)
    have l1 := hle _ _ _ _ _ b6
    exact Or.inr (Or.inr (Or.inr ⟨b1, b2, by rw [f1]; exact b3, b4, by rw [f2]; exact b5, hr _ _ _ _ _ (by omega) (by omega) (by omega) (by omega) b6⟩))
theorem SQ_fr : ∀ m m' d k k' p p', SQ S T n m d k k' p p' → m ≤ m' → SA S S' k k' → (∀ j, p ≤ j → j < p' → T' j = T j) → p' ≤ n' → SQ S' T' n' m' d k k' p p' := by
  intro m
  induction m with
  | zero =>
    intro m' d k k' p p' w _ _ _ _
    rw [SQ_0] at w
    cases m' with
    | zero => rw [SQ_0]; exact w
    | succ m' => rw [SQ_s]; exact Or.inl w
  | succ m ih =>
    intro m' d k k' p p' w hm hA hT hp
    obtain ⟨m', rfl⟩ : ∃ x, m' = x + 1 := ⟨m' - 1, by omega⟩
    rw [SQ_s] at w
    rw [SQ_s]
    rcases w with w | ⟨q, w1, w2, w3, w4⟩
    · exact Or.inl w
    · have a := w3
      obtain ⟨-, -, a3, -, a5, -, -⟩ := a
      have e4 : S' 4 k = S 4 k := hA.1 4 k (by omega) (by omega) (by omega) (by omega)
      refine Or.inr ⟨q, by rw [e4]; exact w1, w2, CMD_fr w3 (hA.sub (by omega) w1) (fun j y z => hT j (by omega) (by omega)) (by omega) (SQ_le m) (fun d k1 k2 p1 p2 x1 x2 x3 x4 x5 => ih m' d k1 k2 p1 p2 x5 (by omega) (hA.sub (by omega) (by omega)) (fun j y z => hT j (by omega) (by omega)) (by omega)), ?_⟩
      rw [e4]
      exact ih m' d _ _ _ _ w4 (by omega) (hA.sub (by omega) (by omega)) (fun j y z => hT j (by omega) (by omega)) hp
theorem SQ_cons {m d k k' p p' q : Nat} (w : CMD S T n (SQ S T n m) d k p q) (w2 : SQ S T n m d (S 4 k) k' q p') : SQ S T n (m + 1) d k k' p p' := by
  have l := SQ_le _ _ _ _ _ _ w2
  rw [SQ_s]
  exact Or.inr ⟨q, l.1, l.2, w, w2⟩
end
