/-! clean, restore, move by phrases -/
noncomputable def cl (R S : Nat → Nat → Nat) (ph : Nat) (E : Nat → Nat → Nat) (i : Nat) : Nat → Nat → Nat := Nat.rec (motive := fun _ => Nat → Nat → Nat) E (fun _ r => nx R S ph r) i
theorem cl_s (R S : Nat → Nat → Nat) (ph : Nat) (E : Nat → Nat → Nat) (i : Nat) : cl R S ph E (i + 1) = nx R S ph (cl R S ph E i) := rfl
theorem cl_0 (R S : Nat → Nat → Nat) (ph : Nat) (E : Nat → Nat → Nat) : cl R S ph E 0 = E := rfl
section
variable {h g : Hp} {c s : Nat} {R E S : Nat → Nat → Nat} {T : Nat → Nat} {n ph q ph2 q2 : Nat}
theorem cl_W (hW : WR R) (hE : WE R E) (hX : WX R E) : ∀ i, WE R (cl R S ph E i) ∧ WX R (cl R S ph E i) := by
  intro i
  induction i with
  | zero => exact ⟨hE, hX⟩
  | succ i ih => exact nx_W hW ih.1 ih.2
theorem kM_le (E : Nat → Nat → Nat) : kM E ≤ 40 := by unfold kM; exact cnt_le _ 40
theorem cl_M (hW : WR R) (hE : WE R E) (hX : WX R E) (hP : PH S T n ph q) : ∀ i, (∀ j, j < i → fnd R (cl R S ph E j) S ph) → kM (cl R S ph E i) + i ≤ 40 := by
  intro i
  induction i with
  | zero => intro _; rw [cl_0, Nat.add_zero]; exact kM_le E
  | succ i ih =>
    intro h
    have h1 := ih (fun j hj => h j (by omega))
    have h2 := nx_M hW (cl_W (S := S) (ph := ph) hW hE hX i).1 hP (h i (by omega))
    rw [cl_s]
    omega
theorem cl_lt (hW : WR R) (hE : WE R E) (hX : WX R E) (hP : PH S T n ph q) {i : Nat} (hi : ∀ j, j < i → fnd R (cl R S ph E j) S ph) (hf : fnd R (cl R S ph E i) S ph) : i < 40 := by
  have h1 := cl_M hW hE hX hP i hi
  have h2 := nx_M hW (cl_W (S := S) (ph := ph) hW hE hX i).1 hP hf
  omega
theorem l_clean (hW : WR R) (hE : WE R E) (hX : WX R E) (hG : GR g R) (hM : GE g E) (hC : CR h c R) (hD : CE h E) (hF : CF h R E) (hp : h 3 0 = nI c) (hk : knd c = 4 ∧ (c = 83 ∨ c = 97)) (hs : s = 111 ∨ s = 118) (hS : CS h s S) (hT : GS g T n) (hP : PH S T n ph q) : LF (f_X1_cutPhrase h s (nI ph) 40) (f_X11_cleans g (nI q)) h g R := by
  have pp := hP.p
  have p1 := hP.n1
  have hcl := cl_W (S := S) (ph := ph) hW hE hX
  have X : Wp (f_X1_cutPhrase h s (nI ph) 40) (fun u => ∃ N, (∀ j, j < N → fnd R (cl R S ph E j) S ph) ∧ ¬ fnd R (cl R S ph E N) S ph ∧ u.1 = nI (if N = 0 then 0 else 1) ∧ CE u.2 (cl R S ph E N) ∧ CF u.2 R (cl R S ph E N) ∧ HF h u.2) := by
    unfold f_X1_cutPhrase
    refine wp_bnd_of (wp_eq.mpr (c_findPhrase hW hE hC hF hp hk hS hP)) (fun v hv => ?_)
    subst hv
    refine wp_for (i := 0) 40 (fun i st => ∃ h1, st = (nI i, oI (trA R (cl R S ph E i)).length (FP R (cl R S ph E i) S ph), h1) ∧ (∀ j, j < i → fnd R (cl R S ph E j) S ph) ∧ CE h1 (cl R S ph E i) ∧ CF h1 R (cl R S ph E i) ∧ HF h h1) (by omega) (by omega) ⟨h, rfl, fun j hj => absurd hj (Nat.not_lt_zero _), hD, hF, HF.rf h⟩ ?_
    rintro i st r hi ⟨h1, rfl, a1, a2, a3, a4⟩ k
    obtain ⟨Ei, Xi⟩ := hcl i
    have e54 : J_X1_cutPhrase_54 s (nI ph) 40 h1 (nI i) = some (nI (if i = 0 then 0 else 1), h1) := by
      unfold J_X1_cutPhrase_54
      by_cases y : i = 0
      · subst y
        rw [if_pos (show nI 0 ≤ 0 by decide), if_pos rfl]; rfl
      · have y2 : ¬ nI i ≤ 0 := fun z => y (by have := (nI_leI (a := i) (b := 0) (by omega) (by omega)).mp z; omega)
        rw [if_neg y2, if_neg y]; rfl
    unfold F_X1_cutPhrase_11
    by_cases z : fnd R (cl R S ph E i) S ph
    · have i40 := cl_lt hW hE hX hP a1 z
      obtain ⟨b1, b2, b3⟩ := fp_b hW Ei hP z
      have a0 : oI (trA R (cl R S ph E i)).length (FP R (cl R S ph E i) S ph) = nI (FP R (cl R S ph E i) S ph) := if_pos z
      rw [a0]
      have S1 : CS h1 s S := hS.fr (fun o ho => a4.1 _ (by omega) (by omega))
      show Wp (if nI (FP R (cl R S ph E i) S ph) = -nI 1 then _ else if nI i < nI 40 then ck (inb (nI ph) 60) (bnd (f_X1_cutPlaces h1 (nI (FP R (cl R S ph E i) S ph)) (nI (FP R (cl R S ph E i) S ph) + h1 (s + 5) (ix (nI ph)) - nI 1)) (fun u1 => stp (nI i + 1) (fun v2 => bnd (f_X1_findPhrase u1 s (nI ph)) (fun u3 => r (v2, u3, u1))))) else _) _
      rw [if_neg (ng1 (by omega)), if_pos ((nI_ltI (by omega) (by omega)).mpr i40), inb_t (by omega) (by omega), ck_true, ix_n (by omega), S1.o 5 ph (by omega) (by omega), b3]
      refine wp_bnd_of (c_cut1 hW Ei Xi (a4.cr hk hC) a2 a3 (a4.2.trans hp) hk hP z) (fun h2 k2 => ?_)
      obtain ⟨k3, k4, k5⟩ := k2
      have w2 := a4.tr k5
      obtain ⟨E2, X2⟩ := hcl (i + 1)
      have S2 : CS h2 s S := hS.fr (fun o ho => w2.1 _ (by omega) (by omega))
      rw [stp_eq, show nI i + 1 = nI (i + 1) from nI_add i 1, c_findPhrase hW E2 (w2.cr hk hC) k4 (w2.2.trans hp) hk S2 hP, bnd_some]
      refine k _ i40 ⟨h2, rfl, fun j hj => ?_, k3, k4, w2⟩
      by_cases e : j = i
      · subst e; exact z
      · exact a1 j (by omega)
    · have a0 : oI (trA R (cl R S ph E i)).length (FP R (cl R S ph E i) S ph) = -nI 1 := if_neg z
      rw [a0]
      show Wp (if (-nI 1 : Int32) = -1 then J_X1_cutPhrase_54 s (nI ph) 40 h1 (nI i) else _) _
      rw [if_pos (show (-nI 1 : Int32) = -1 from rfl), e54]
      exact wp_some.mpr ⟨i, a1, z, rfl, a2, a3, a4⟩
  have Y : Wp (f_X11_cleans g (nI q)) (fun u => ∃ N, (∀ j, j < N → fnd R (cl R S ph E j) S ph) ∧ ¬ fnd R (cl R S ph E N) S ph ∧ u.1 = nI (if N = 0 then 0 else 1) ∧ GE u.2 (cl R S ph E N) ∧ AW g u.2) := by
    unfold f_X11_cleans
    refine wp_for (i := 0) 40 (fun i st => ∃ g1, st = (nI (if i = 0 then 0 else 1), g1) ∧ (∀ j, j < i → fnd R (cl R S ph E j) S ph) ∧ GE g1 (cl R S ph E i) ∧ AW g g1) (by omega) (by omega) ⟨g, rfl, fun j hj => absurd hj (Nat.not_lt_zero _), hM, AW.rf g⟩ ?_
    rintro i st r hi ⟨g1, rfl, a1, a2, a3⟩ k
    obtain ⟨Ei, Xi⟩ := hcl i
    show Wp (bnd (f_X11_cutsPhrase g1 (nI q)) (fun u1 => if u1.1 = 0 then ck (zb (nI (if i = 0 then 0 else 1))) (some (nI (if i = 0 then 0 else 1), u1.2)) else r (1, u1.2))) _
    obtain ⟨g2, w2, ⟨z, e2, M2⟩ | ⟨z, e2, M2⟩⟩ := m_cuts hW Ei Xi (hG.fa a3) a2 (hT.fr a3.gf) hP
    · have i40 := cl_lt hW hE hX hP a1 z
      rw [e2, bnd_some, if_neg (show ¬ (nI 1 : Int32) = 0 by decide)]
      refine k _ i40 ⟨g2, ?_, fun j hj => ?_, M2, a3.tr w2⟩
      · rw [if_neg (by omega)]; rfl
      · by_cases e : j = i
        · subst e; exact z
        · exact a1 j (by omega)
    · rw [e2, bnd_some, if_pos (show (nI 0 : Int32) = 0 from rfl), zb_n1 (by split <;> omega), ck_true]
      exact wp_some.mpr ⟨i, a1, z, rfl, M2, a3.tr w2⟩
  obtain ⟨⟨v, h1⟩, e1, N, b1, b2, b3, b4, b5, b6⟩ := X
  obtain ⟨⟨v2, g1⟩, e2, N2, c1, c2, c3, c4, c5⟩ := Y
  have eN : N2 = N := by
    rcases Nat.lt_trichotomy N2 N with z | z | z
    · exact absurd (b1 _ z) c2
    · exact z
    · exact absurd (c1 _ z) b2
  subst eN
  have b3 : v = _ := b3
  have c3 : v2 = _ := c3
  subst b3 c3
  exact ⟨_, h1, g1, _, e1, e2, by split <;> omega, b4, b5, b6, c4, c5, (hcl N2).1, (hcl N2).2⟩
theorem l_keep (hW : WR R) (hE : WE R E) (hX : WX R E) (hG : GR g R) (hM : GE g E) (hC : CR h c R) (hD : CE h E) (hF : CF h R E) (hp : h 3 0 = nI c) (hk : knd c = 4 ∧ (c = 83 ∨ c = 97)) (hs : s = 111 ∨ s = 118) (hS : CS h s S) (hT : GS g T n) (hP : PH S T n ph q) : LF (f_X1_keepPhraseAgain h s (nI ph)) (f_X11_restoresPhrase g (nI q)) h g R := by
  have pp := hP.p
  have p1 := hP.n1
  have hw := hW.w40
  unfold f_X1_keepPhraseAgain
  rw [c_findLost hW hE hC hD hp hk hS hP, bnd_some]
  obtain ⟨⟨v, g1⟩, e1, ⟨z, e2⟩ | ⟨z, e2, M2, w2⟩⟩ := m_restoresPhrase hW hE hX hG hM hT hP
  · have a0 : oI (R 0 4) (FW R E S ph) = -nI 1 := if_neg (by omega)
    rw [e2] at e1
    rw [a0, if_pos (show (-nI 1 : Int32) = -1 from rfl)]
    exact ⟨0, h, g, E, rfl, e1, by omega, hD, hF, HF.rf h, hM, AW.rf g, hE, hX⟩
  · have a0 : oI (R 0 4) (FW R E S ph) = nI (FW R E S ph) := if_pos z
    have hit := FW_hit R E S ph z
    have b1 := hit.1
    have e2 : v = nI 1 := e2
    subst e2
    have hc := c_keepAgain hW hE hX hC hD hp hk (a := FW R E S ph) (b := FW R E S ph + S 5 ph - 1) (by omega) (by omega)
    rw [show FW R E S ph + S 5 ph - 1 + 1 - FW R E S ph = S 5 ph by omega] at hc
    obtain ⟨⟨v3, h1⟩, e3, -, D1, F1, H1⟩ := hc
    obtain ⟨E1, X1⟩ := rA_W hW hE hX (a := FW R E S ph) (S 5 ph) (by omega)
    rw [a0]
    refine ⟨1, h1, g1, _, ?_, e1, Nat.le_refl _, D1, F1, H1, M2, w2, E1, X1⟩
    show (if nI (FW R E S ph) = -nI 1 then _ else ck (inb (nI ph) 60) (bnd (f_X1_keepAgain h (nI (FW R E S ph)) (nI (FW R E S ph) + h (s + 5) (ix (nI ph)) - nI 1)) _)) = _
    rw [if_neg (ng1 (by omega)), inb_t (by omega) (by omega), ck_true, ix_n (by omega), hS.o 5 ph (by omega) (by omega), nI_add, sub_n (by omega), e3, bnd_some]
    rfl
end
