/-! load -/
def LA (X : Option (Hp × Hp)) (h g : Hp) (c c' : Nat) : Prop := ∃ h' g' c1 c2 R E d x hi, X = some (h', g') ∧ ED h' g' c1 R E d x hi ∧ h' 0 5 = nI c2 ∧ ((c1 = c ∧ c2 = c') ∨ (c1 = c' ∧ c2 = c)) ∧ TP h' g' ∧ (∀ k, ¬ k ≤ 1 → ¬ (3 ≤ k ∧ k ≤ 13) → ¬ (18 ≤ k ∧ k ≤ 22) → ¬ (83 ≤ k ∧ k ≤ 110) → h' k = h k) ∧ (∀ j, ¬ j = 5 → h' 0 j = h 0 j) ∧ (∀ k, ¬ k = 125 → ¬ (126 ≤ k ∧ k ≤ 134) → ¬ k = 145 → g' k = g k) ∧ ∀ j, ¬ j = 0 → ¬ j = 3 → ¬ j = 13 → ¬ (16 ≤ j ∧ j ≤ 23) → g' 125 j = g 125 j
theorem nI_any (v : Int32) : nI v.toBitVec.toNat = v := by
  apply Int32.toBitVec_inj.mp
  show BitVec.ofNat 32 v.toBitVec.toNat = v.toBitVec
  simp
theorem cr_any (h : Hp) (c : Nat) : ∃ P, CR h c P := ⟨fun o j => (h (c + o) j).toBitVec.toNat, fun j => (nI_any _).symm, fun o j _ => (nI_any _).symm⟩
section
variable {h g : Hp} {c c' : Nat} {R E : Nat → Nat → Nat} {d x : Nat} {hi : Nat → Nat → Nat → Nat}
theorem qa2 (w : ED h g c R E d x hi) (t : TP h g) (dp : h 0 5 = nI c') (hk' : knd c' = 4 ∧ (c' = 83 ∨ c' = 97)) (hne : ¬ c' = c) : LA (A_2 h g) h g c c' := by
  obtain ⟨P, hC'⟩ := cr_any h c'
  obtain ⟨n, hn, e1, e2, e3⟩ := t.n
  have hk := w.Q.k
  have hc : 14 ≤ c' := by omega
  rcases rd_text (c := c') (g := g) (L := n) hc hC' hn e1 e2 (fun j hj => (e3 j hj).symm) with ⟨h1, g1, R1, a1, -, a3, a4, -, -, -, a8, -, -, -, -, -⟩ | ⟨h1, g1, a1, a2, a3, a4, a5, a6, a7, a8⟩
  · -- it is taken
    have hp1 : (up h1 1 1 0) 3 0 = nI c := by rw [up_o (by decide), a8.1 3 (by decide) (by omega)]; exact w.Q.p
    have C1 : CR (up h1 1 1 0) c' R1 := a3.fr (fun o ho => up_o (by omega))
    obtain ⟨⟨v, h4⟩, b1, b2, b3, b4, b5, b6, b7⟩ := c_exch a4 C1 hk' hp1 hk
    have b2 : v = c := b2
    subst b2
    have b3 : h4 3 0 = nI c' := b3
    have b4 : CR h4 c' R1 := b4
    have b5 : CE h4 (eE (R1 0 13)) := b5
    have b6 : CF h4 R1 (eE (R1 0 13)) := b6
    have b7 : ∀ k, ¬ (3 ≤ k ∧ k ≤ 11) → ¬ (18 ≤ k ∧ k ≤ 22) → h4 k = (up h1 1 1 0) k := b7
    -- the class's last heap
    have h04 : h4 0 = h 0 := by rw [b7 0 (by omega) (by omega), up_o (by decide), a8.1 0 (by decide) (by omega)]
    have o7 : ∀ k, ¬ k = 0 → ¬ k = 13 → (up (up h4 0 5 (nI v)) 13 2 0) k = h4 k := fun k a b => by rw [up_o b, up_o a]
    have C7 : CR (up (up h4 0 5 (nI v)) 13 2 0) c' R1 := b4.fr (fun o ho => o7 _ (by omega) (by omega))
    have eC : f_X10_load h = some (0, (nI (R1 0 4), up (up h4 0 5 (nI v)) 13 2 0)) := by
      unfold f_X10_load
      rw [ckp_of dp hk'.1 (by omega), a1, bnd_some, stp_eq, if_neg (show ¬ (nI 1 : Int32) = 0 by decide)]
      have d5 : (up h1 1 1 0) 0 5 = nI c' := by rw [up_o (by decide), a8.1 0 (by decide) (by omega)]; exact dp
      rw [ckp_of d5 hk'.1 (by omega), b1, bnd_some, show decide (knd v = 4) = true from decide_eq_true hk.1, ck_true, stp_eq, stp_eq]
      have d3 : (up (up h4 0 5 (nI v)) 13 2 0) 3 0 = nI c' := by rw [o7 3 (by decide) (by decide)]; exact b3
      rw [ckp_of d3 hk'.1 (by omega), C7.z 4]
    rcases rd_text (c := c') (h := h) (g := up g 145 0 (nI (R1 0 4))) (L := n) hc hC' hn e1 (by rw [up_o (by decide)]; exact e2) (fun j hj => by rw [up_o (by decide)]; exact (e3 j hj).symm) with ⟨h1', g1, R1', z1, z2, z3, z4, z5, z6, z7, z8, z9, z10, z11, z12, z13⟩ | ⟨h1', g1, z1, -⟩
    case inr =>
      rw [a1] at z1
      have := (Prod.mk.inj (Option.some.inj z1)).1
      exact absurd this (by decide)
    have eh : h1' = h1 := by
      rw [a1] at z1
      exact (Prod.mk.inj (Option.some.inj z1)).2.symm
    subst eh
    have hw1 := z4.w40
    have hw2 := a4.w40
    have k1 : ∀ o, o < 14 → ∀ j, nI (R1 o j) = nI (R1' o j) := fun o ho j => (a3.o o j ho).symm.trans (z3.o o j ho)
    have k04 : nI (R1 0 4) = nI (R1' 0 4) := k1 0 (by decide) 4
    -- the class's side told by R1'
    have C1' : CR (up h1' 1 1 0) c' R1' := z3.fr (fun o ho => up_o (by omega))
    obtain ⟨⟨v', h4'⟩, b1', -, b3', b4', b5', b6', b7'⟩ := c_exch z4 C1' hk' hp1 hk
    have e4 : h4' = h4 := by
      rw [b1] at b1'
      exact (Prod.mk.inj (Option.some.inj b1')).2.symm
    subst e4
    have b4' : CR h4' c' R1' := b4'
    have b5' : CE h4' (eE (R1' 0 13)) := b5'
    have b6' : CF h4' R1' (eE (R1' 0 13)) := b6'
    have hF : CF (up (up h4' 0 5 (nI v)) 13 2 0) R1' (eE (R1' 0 13)) := by
      unfold CF
      rw [o7 3 (by decide) (by decide), o7 4 (by decide) (by decide), o7 5 (by decide) (by decide), o7 6 (by decide) (by decide), o7 7 (by decide) (by decide), o7 8 (by decide) (by decide), o7 9 (by decide) (by decide), o7 10 (by decide) (by decide), o7 11 (by decide) (by decide)]
      exact b6'
    have h13 : ∀ j, ¬ j = 2 → (up (up h4' 0 5 (nI v)) 13 2 0) 13 j = h 13 j := fun j hj => by rw [up_sn hj, up_o (by decide), b7 13 (by omega) (by omega), up_o (by decide), a8.1 13 (by decide) (by omega)]
    refine ⟨up (up h4' 0 5 (nI v)) 13 2 0, g1, c', v, R1', eE (R1' 0 13), 0, x, hi, ?_, ⟨⟨z4, eE_WE, eE_WX z4, z5, z6, b4'.fr (fun o ho => o7 _ (by omega) (by omega)), b5'.fr (fun k a b => o7 k (by omega) (by omega)), hF, by rw [o7 3 (by decide) (by decide)]; exact b3, hk'⟩, ?_, ?_, fun i hi2 => absurd hi2 (Nat.not_lt_zero _)⟩, by rw [up_o (by decide), up_ss], Or.inr ⟨rfl, rfl⟩, ⟨⟨0, by omega, ?_, z13, fun j hj => absurd hj (Nat.not_lt_zero _)⟩, ?_, ?_⟩, fun k a1' a2' a3' a4' => ?_, fun j hj => ?_, fun k p q r => ?_, fun j p q r s => ?_⟩
    · unfold A_2 f_L_load f_X11_thrown
      rw [eC, bnd_some, if_pos rfl, bnd_some]
      show bnd (f_X11_load (up g 145 0 (nI (R1 0 4)))) _ = _
      rw [z2, bnd_some, bnd_some, if_pos z12, if_pos rfl, if_pos]
      show g1 145 0 = nI (R1' 0 4)
      rw [z9.1 145 (by decide) (by decide) (by decide), up_ss, k04]
    · have q := w.Hc
      exact ⟨by rw [h13 _ (by decide)]; exact q.n, up_ss, q.x12, Nat.zero_le _, fun i hi2 => absurd hi2 (Nat.not_lt_zero _)⟩
    · exact ⟨z7, fun i hi2 => absurd hi2 (Nat.not_lt_zero _)⟩
    · rw [o7 1 (by decide) (by decide), b7 1 (by omega) (by omega), up_ss]; rfl
    · rw [o7 1 (by decide) (by decide), b7 1 (by omega) (by omega), up_sn (by decide)]; exact z10
    · rw [o7 1 (by decide) (by decide), b7 1 (by omega) (by omega), up_sn (by decide)]; exact z11
    · rw [o7 k (by omega) (by omega), b7 k (by omega) (by omega), up_o (by omega), a8.1 k (by omega) (by omega)]
    · rw [up_o (by decide), up_sn hj, h04]
    · rw [z9.1 k p (by omega) (by omega), up_o r]
    · rw [z9.2 j p q r s, up_o (by decide)]
  · -- it is refused
    have o1 : ∀ k, ¬ k = 1 → ¬ (c' ≤ k ∧ k ≤ c' + 13) → (up h1 1 1 0) k = h k := fun k a b => by rw [up_o a]; exact a3.1 k a b
    have eC : f_X10_load h = some (2, (0, up h1 1 1 0)) := by
      unfold f_X10_load
      rw [ckp_of dp hk'.1 (by omega), a1, bnd_some, stp_eq, if_pos (show (nI 0 : Int32) = 0 from rfl)]
    have q := w.Q
    have hF : CF (up h1 1 1 0) R E := by
      have : ∀ k, 3 ≤ k → k ≤ 12 → (up h1 1 1 0) k = h k := fun k _ _ => o1 k (by omega) (by omega)
      unfold CF
      rw [this 3 (by decide) (by decide), this 4 (by decide) (by decide), this 5 (by decide) (by decide), this 6 (by decide) (by decide), this 7 (by decide) (by decide), this 8 (by decide) (by decide), this 9 (by decide) (by decide), this 10 (by decide) (by decide), this 11 (by decide) (by decide)]
      exact q.F
    have hG : GR g1 R := by
      unfold GR
      rw [a4.1 126 (by decide) (by decide), a4.1 128 (by decide) (by decide), a4.1 129 (by decide) (by decide), a4.1 130 (by decide) (by decide), a4.1 131 (by decide) (by decide), a4.1 132 (by decide) (by decide), a4.1 133 (by decide) (by decide), a4.2 3 (by decide) (by decide)]
      exact q.G
    have hM : GE g1 E := by
      unfold GE
      rw [a4.1 134 (by decide) (by decide)]
      exact q.M
    refine ⟨up h1 1 1 0, g1, c, c', R, E, d, x, hi, ?_, ⟨⟨q.W, q.E, q.X, hG, hM, q.C.fr (fun o ho => o1 _ (by omega) (by omega)), q.D.fr (fun k a b => o1 k (by omega) (by omega)), hF, by rw [o1 3 (by decide) (by omega)]; exact q.p, hk⟩, w.Hc.fr (fun k a => o1 k (by omega) (by omega)), w.Hg.fr (a4.2 13 (by decide) (by decide)) (a4.1 135 (by decide) (by decide)), w.Hw⟩, by rw [o1 0 (by decide) (by omega)]; exact dp, Or.inl ⟨rfl, rfl⟩, ⟨⟨0, by omega, up_ss, a8, fun j hj => absurd hj (Nat.not_lt_zero _)⟩, by rw [up_sn (by decide)]; exact a5, by rw [up_sn (by decide)]; exact a6⟩, fun k p1 p2 p3 p4 => o1 k (by omega) (by omega), fun j hj => by rw [o1 0 (by decide) (by omega)], fun k p1 p2 p3 => a4.1 k p1 (by omega), fun j p1 p2 p3 p4 => a4.2 j p1 p4⟩
    unfold A_2 f_L_load f_X11_thrown
    rw [eC, bnd_some, if_neg (show ¬ (2 : Nat) = 0 by decide), if_pos rfl, bnd_some]
    show bnd (f_X11_load g) _ = _
    rw [a2, bnd_some, bnd_some, if_pos (show g1 125 0 = 1 from a7), if_neg (show ¬ (1 : Int32) = 0 by decide)]
end
