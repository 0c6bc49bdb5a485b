/-! loadScript -/
def LSA (X : Option (Hp × Hp)) (h g : Hp) (s s' : Nat) : Prop := ∃ h' g' s1 s2 S T n, X = some (h', g') ∧ SRs h' g' s1 S T n ∧ h' 0 6 = nI s2 ∧ ((s1 = s ∧ s2 = s') ∨ (s1 = s' ∧ s2 = s)) ∧ TP h' g' ∧ (∀ k, ¬ k ≤ 1 → ¬ k = 15 → ¬ (111 ≤ k ∧ k ≤ 124) → h' k = h k) ∧ (∀ j, ¬ j = 6 → h' 0 j = h 0 j) ∧ (∀ j, ¬ j = 0 → h' 15 j = h 15 j) ∧ (∀ k, ¬ k = 125 → ¬ k = 139 → ¬ k = 140 → ¬ k = 145 → g' k = g k) ∧ ∀ j, ¬ j = 0 → ¬ (16 ≤ j ∧ j ≤ 23) → ¬ (26 ≤ j ∧ j ≤ 29) → g' 125 j = g 125 j
section
variable {h g : Hp} {s s' n : Nat} {S : Nat → Nat → Nat} {T : Nat → Nat}
theorem qa3 (q : SRs h g s S T n) (t : TP h g) (dp : h 0 6 = nI s') (hk' : knd s' = 6 ∧ (s' = 111 ∨ s' = 118)) (hne : ¬ s' = s) : LSA (A_3 h g) h g s s' := by
  obtain ⟨l, hl, e1, e2, e3⟩ := t.n
  have s1 := q.s1
  have s2 := q.s2
  have hs : 14 ≤ s' := by omega
  rcases rd_script (s := s') (g := g) (L := l) hs hl e1 e2 (fun j hj => (e3 j hj).symm) with ⟨h1, g1, k, n1, T1, a1, -, a3, a4, -, -, a7, -, -, -, -, -⟩ | ⟨h1, g1, a1, a2, a3, a4, a5, a6, a7, a8⟩
  · -- it is taken
    have p3 : (up h1 1 1 0) 0 6 = nI s' := by rw [up_o (by decide), a7.1 0 (by decide) (by omega)]; exact dp
    have p15 : (up h1 1 1 0) 15 0 = nI s := by rw [up_o (by decide), a7.1 15 (by decide) (by omega)]; exact q.p
    have H : ∀ k, ¬ k = 0 → ¬ k = 1 → ¬ k = 15 → (up (up (up h1 1 1 0) 15 0 (nI s')) 0 6 (nI s)) k = h1 k := fun k a b c => by rw [up_o a, up_o c, up_o b]
    have p15' : (up (up (up h1 1 1 0) 15 0 (nI s')) 0 6 (nI s)) 15 0 = nI s' := by rw [up_o (by decide), up_ss]
    have eC : f_X10_loadScript h = some (0, (nI k, up (up (up h1 1 1 0) 15 0 (nI s')) 0 6 (nI s))) := by
      unfold f_X10_loadScript
      rw [ckp_of dp hk'.1 (by omega), a1, bnd_some, stp_eq, if_neg (show ¬ (nI 1 : Int32) = 0 by decide), ckp_of p3 hk'.1 (by omega)]
      unfold f_X5_exchangeScript
      rw [ckp_of p15 s2 (by omega), stp_eq, bnd_some, show decide (knd s = 6) = true from decide_eq_true s2, ck_true, stp_eq, show ∀ (K : Nat → Option (Nat × (Int32 × Hp))), ckp ((up (up (up h1 1 1 0) 15 0 (nI s')) 0 6 (nI s)) 15 0) 6 K = K s' from fun K => ckp_of p15' hk'.1 (by omega), H s' (by omega) (by omega) (by omega), a4]
    rcases rd_script (s := s') (h := h) (g := up g 145 0 (nI k)) (L := l) hs hl e1 (by rw [up_o (by decide)]; exact e2) (fun j hj => by rw [up_o (by decide)]; exact (e3 j hj).symm) with ⟨h1', g1, k', n1, T1, b1, b2, b3, b4, b5, b6, b7, b8, b9, c1, c2, c3⟩ | ⟨h1', g1, b1, -⟩
    case inr =>
      rw [a1] at b1
      have := (Prod.mk.inj (Option.some.inj b1)).1
      exact absurd this (by decide)
    have eh : h1' = h1 := by
      rw [a1] at b1
      exact (Prod.mk.inj (Option.some.inj b1)).2.symm
    subst eh
    have kk : nI k = nI k' := a4.symm.trans b4
    have S0 : Sd (up (up (up h1' 1 1 0) 15 0 (nI s')) 0 6 (nI s)) s' 0 0 = k' := by
      show vn ((up (up (up h1' 1 1 0) 15 0 (nI s')) 0 6 (nI s)) s' 0) = _
      rw [H s' (by omega) (by omega) (by omega), b4, vn_n (by omega)]
    refine ⟨up (up (up h1' 1 1 0) 15 0 (nI s')) 0 6 (nI s), g1, s', s, Sd (up (up (up h1' 1 1 0) 15 0 (nI s')) 0 6 (nI s)) s', T1, n1, ?_, ⟨hk'.2, hk'.1, Sd_cs _ _, b5, by rw [up_o (by decide), up_ss], by rw [S0]; exact b3, ⟨k', by omega, ?_⟩⟩, up_ss, Or.inr ⟨rfl, rfl⟩, ⟨⟨0, by omega, by rw [up_o (by decide), up_o (by decide), up_ss]; rfl, c3, fun j hj => absurd hj (Nat.not_lt_zero _)⟩, by rw [up_o (by decide), up_o (by decide), up_sn (by decide)]; exact b9, by rw [up_o (by decide), up_o (by decide), up_sn (by decide)]; exact c1⟩, fun k x y z => ?_, fun j hj => ?_, fun j hj => ?_, fun k x y z v => ?_, fun j x y z => ?_⟩
    · unfold A_3 f_L_loadScript f_X11_thrown
      rw [eC, bnd_some, if_pos rfl, bnd_some]
      show bnd (f_X11_loadScript (up g 145 0 (nI k))) _ = _
      rw [b2, bnd_some, bnd_some, if_pos c2, if_pos rfl, if_pos]
      show g1 145 0 = nI k'
      rw [b8.1 145 (by decide) (by decide) (by decide), up_ss, kk]
    · rw [S0]
      exact SQ_fr _ _ _ _ _ _ _ b6 (Nat.le_refl _) (HR.of (fun o _ _ => H _ (by omega) (by omega) (by omega))).sa (fun _ _ _ => rfl) (Nat.le_refl _)
    · rw [H k (by omega) (by omega) y, a7.1 k (by omega) (by omega)]
    · rw [up_sn hj, up_o (by decide), up_o (by decide), a7.1 0 (by decide) (by omega)]
    · rw [up_o (by decide), up_sn hj, up_o (by decide), a7.1 15 (by decide) (by omega)]
    · rw [b8.1 k x y z, up_o v]
    · rw [b8.2 j x y z, up_o (by decide)]
  · -- it is refused
    have o1 : ∀ k, ¬ k = 1 → ¬ (s' ≤ k ∧ k ≤ s' + 6) → (up h1 1 1 0) k = h k := fun k a b => by rw [up_o a]; exact a3.1 k a b
    have eC : f_X10_loadScript h = some (2, (0, up h1 1 1 0)) := by
      unfold f_X10_loadScript
      rw [ckp_of dp hk'.1 (by omega), a1, bnd_some, stp_eq, if_pos (show (nI 0 : Int32) = 0 from rfl)]
    refine ⟨up h1 1 1 0, g1, s, s', S, T, n, ?_, ⟨s1, s2, q.S.fr (fun o ho => o1 _ (by omega) (by omega)), ⟨by rw [a4.2 26 (by decide) (by omega) (by omega)]; exact q.T.n, q.T.n7, fun i hi => by rw [a4.1 139 (by decide) (by decide)]; exact q.T.t i hi⟩, by rw [o1 15 (by decide) (by omega)]; exact q.p, q.z, q.m⟩, by rw [o1 0 (by decide) (by omega)]; exact dp, Or.inl ⟨rfl, rfl⟩, ⟨⟨0, by omega, up_ss, a8, fun j hj => absurd hj (Nat.not_lt_zero _)⟩, by rw [up_sn (by decide)]; exact a5, by rw [up_sn (by decide)]; exact a6⟩, fun k x y z => o1 k (by omega) (by omega), fun j _ => by rw [o1 0 (by decide) (by omega)], fun j _ => by rw [o1 15 (by decide) (by omega)], fun k x y z _ => a4.1 k x z, fun j x y z => a4.2 j x y (by omega)⟩
    unfold A_3 f_L_loadScript f_X11_thrown
    rw [eC, bnd_some, if_neg (show ¬ (2 : Nat) = 0 by decide), if_pos rfl, bnd_some]
    show bnd (f_X11_loadScript g) _ = _
    rw [a2, bnd_some, bnd_some, if_pos (show g1 125 0 = 1 from a7), if_neg (show ¬ (1 : Int32) = 0 by decide)]
end
