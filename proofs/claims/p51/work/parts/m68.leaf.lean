/-! the changes that a script makes by phrases -/
def fnd (R E S : Nat → Nat → Nat) (ph : Nat) : Prop := FP R E S ph < (trA R E).length
noncomputable def nx (R S : Nat → Nat → Nat) (ph : Nat) (E : Nat → Nat → Nat) : Nat → Nat → Nat := cutK R E (KC R E (FP R E S ph) (FP R E S ph + S 5 ph))
noncomputable def kM (E : Nat → Nat → Nat) : Nat := cnt (fun w => E 1 w = 1) 40
/-- both sides have done the same: what they answer, and the edit that they come to -/
def LF (X Y : Option (Int32 × Hp)) (h g : Hp) (R : Nat → Nat → Nat) : Prop := ∃ v h' g' E', X = some (nI v, h') ∧ Y = some (nI v, g') ∧ v ≤ 1 ∧ CE h' E' ∧ CF h' R E' ∧ HF h h' ∧ GE g' E' ∧ AW g g' ∧ WE R E' ∧ WX R E'
theorem ng1 {a : Nat} (h : a < 2147483648) : ¬ nI a = -nI 1 := fun y => by have := neg_n h; rw [← this]; exact y
theorem cnt_mn {p q : Nat → Prop} : ∀ n, (∀ j, j < n → p j → q j) → cnt p n ≤ cnt q n := by
  intro n
  induction n with
  | zero => intro _; exact Nat.le_refl _
  | succ n ih =>
    intro h
    have i := ih (fun j hj => h j (by omega))
    by_cases z : p n
    · rw [cnt_y z, cnt_y (h n (by omega) z)]; omega
    · rw [cnt_n z]
      by_cases y : q n
      · rw [cnt_y y]; omega
      · rw [cnt_n y]; exact i
theorem cnt_ls {p q : Nat → Prop} {w : Nat} : ∀ n, (∀ j, j < n → p j → q j) → w < n → q w → ¬ p w → cnt p n + 1 ≤ cnt q n := by
  intro n
  induction n with
  | zero => intro _ h; exact absurd h (Nat.not_lt_zero _)
  | succ n ih =>
    intro h hw hq hp
    by_cases e : w = n
    · subst e
      have := cnt_mn (p := p) (q := q) w (fun j hj => h j (by omega))
      rw [cnt_n hp, cnt_y hq]
      omega
    · have i := ih (fun j hj => h j (by omega)) (by omega) hq hp
      by_cases z : p n
      · rw [cnt_y z, cnt_y (h n (by omega) z)]; omega
      · rw [cnt_n z]
        by_cases y : q n
        · rw [cnt_y y]; omega
        · rw [cnt_n y]; exact i
section
variable {h g : Hp} {c s : Nat} {R E S : Nat → Nat → Nat} {T : Nat → Nat} {n ph q ph2 q2 : Nat}
theorem fnd_hit (hf : fnd R E S ph) : hitT R E S ph (FP R E S ph) := (sch_spec (hitT R E S ph) _).2.2 hf
theorem nx_W (hW : WR R) (hE : WE R E) (hX : WX R E) : WE R (nx R S ph E) ∧ WX R (nx R S ph E) :=
  ⟨cutK_WE hW hE (fun _ hv => KC_le hE hv), cutK_WX hW hE hX (fun _ _ hv => KC_1 hv)⟩
theorem nx_M (hW : WR R) (hE : WE R E) (hP : PH S T n ph q) (hf : fnd R E S ph) : kM (nx R S ph E) + 1 ≤ kM E := by
  have h1 := fnd_hit hf
  have p1 := hP.n1
  obtain ⟨w, hw, -⟩ := h1.2 0 (by omega)
  have hw2 := trA_get hW hE hw
  have h40 := hW.w40
  refine cnt_ls (w := w) 40 (fun j hj y => KC_1 y) (by omega) hw2.2 ?_
  show ¬ KC R E _ _ w = 1
  unfold KC
  rw [if_pos ⟨_, Nat.le_refl _, by omega, hw⟩]
  decide
theorem c_find' (hW : WR R) (hE : WE R E) (hC : CR h c R) (hF : CF h R E) (hp : h 3 0 = nI c) (hk : knd c = 4 ∧ (c = 83 ∨ c = 97)) (hS : CS h s S) (hP : PH S T n ph q) : (fnd R E S ph ∧ f_X1_findPhrase h s (nI ph) = some (nI (FP R E S ph))) ∨ (¬ fnd R E S ph ∧ f_X1_findPhrase h s (nI ph) = some (-nI 1)) := by
  rw [c_findPhrase hW hE hC hF hp hk hS hP]
  by_cases z : fnd R E S ph
  · exact Or.inl ⟨z, by rw [oI, if_pos (show FP R E S ph < _ from z)]⟩
  · exact Or.inr ⟨z, by rw [oI, if_neg (show ¬ FP R E S ph < _ from z)]⟩
theorem m_find' (hW : WR R) (hE : WE R E) (hG : GR g R) (hM : GE g E) (hS : GS g T n) (hP : PH S T n ph q) : ∃ g', RowOK g g' R E ∧ ((fnd R E S ph ∧ f_X11_find g (nI q) = some (nI (FP R E S ph), g')) ∨ (¬ fnd R E S ph ∧ f_X11_find g (nI q) = some (-nI 1, g'))) := by
  obtain ⟨⟨v, g'⟩, e1, e2, e3⟩ := m_find hW hE hG hM hS hP
  have e2 : v = _ := e2
  refine ⟨g', e3, ?_⟩
  by_cases z : fnd R E S ph
  · exact Or.inl ⟨z, by rw [e1, e2, oI, if_pos (show FP R E S ph < _ from z)]⟩
  · exact Or.inr ⟨z, by rw [e1, e2, oI, if_neg (show ¬ FP R E S ph < _ from z)]⟩
theorem fp_b (hW : WR R) (hE : WE R E) (hP : PH S T n ph q) (hf : fnd R E S ph) : FP R E S ph + S 5 ph ≤ (trA R E).length ∧ FP R E S ph < 40 ∧ nI (FP R E S ph) + nI (S 5 ph) - nI 1 = nI (FP R E S ph + S 5 ph - 1) := by
  have hl := trA_le hW hE
  have h1 := (fnd_hit hf).1
  have p1 := hP.n1
  have hw := hW.w40
  have hf : FP R E S ph < _ := hf
  exact ⟨h1, by omega, by rw [nI_add, sub_n (by omega)]⟩
theorem c_cut1 (hW : WR R) (hE : WE R E) (hX : WX R E) (hC : CR h c R) (hD : CE h E) (hF : CF h R E) (hp : h 3 0 = nI c) (hk : knd c = 4 ∧ (c = 83 ∨ c = 97)) (hP : PH S T n ph q) (hf : fnd R E S ph) : Wp (f_X1_cutPlaces h (nI (FP R E S ph)) (nI (FP R E S ph + S 5 ph - 1))) (fun u => CE u (nx R S ph E) ∧ CF u R (nx R S ph E) ∧ HF h u) := by
  have p1 := hP.n1
  obtain ⟨b1, b2, b3⟩ := fp_b hW hE hP hf
  have := c_cutPlaces hW hE hX hC hD hF hp hk (a := FP R E S ph) (b := FP R E S ph + S 5 ph - 1) (by omega) (by omega)
  rw [show FP R E S ph + S 5 ph - 1 + 1 = FP R E S ph + S 5 ph by omega] at this
  exact this
theorem m_cut1 (hW : WR R) (hE : WE R E) (hX : WX R E) (hG : GR g R) (hM : GE g E) (hP : PH S T n ph q) (hf : fnd R E S ph) : Wp (f_X11_cutsPlaces g (nI (FP R E S ph)) (nI (FP R E S ph + S 5 ph - 1))) (fun u => GE u (nx R S ph E) ∧ AW g u) := by
  have p1 := hP.n1
  obtain ⟨b1, b2, b3⟩ := fp_b hW hE hP hf
  have := m_cutsPlaces hW hE hX hG hM (a := FP R E S ph) (b := FP R E S ph + S 5 ph - 1) (by omega) (by omega)
  rw [show FP R E S ph + S 5 ph - 1 + 1 = FP R E S ph + S 5 ph by omega] at this
  exact this
/-- one go of the model's cut -/
theorem m_cuts (hW : WR R) (hE : WE R E) (hX : WX R E) (hG : GR g R) (hM : GE g E) (hS : GS g T n) (hP : PH S T n ph q) : ∃ g', AW g g' ∧ ((fnd R E S ph ∧ f_X11_cutsPhrase g (nI q) = some (nI 1, g') ∧ GE g' (nx R S ph E)) ∨ (¬ fnd R E S ph ∧ f_X11_cutsPhrase g (nI q) = some (nI 0, g') ∧ GE g' E)) := by
  obtain ⟨g1, k1, ⟨z, e1⟩ | ⟨z, e1⟩⟩ := m_find' hW hE hG hM hS hP
  · obtain ⟨b1, b2, b3⟩ := fp_b hW hE hP z
    have n7 := hS.n7
    have pe := hP.e
    have e139 : g1 139 q = nI (S 5 ph) := by rw [k1.o 139 (by decide) (by decide) (by decide), hS.t q (by omega), hP.n]
    obtain ⟨g2, e2, M2, w2⟩ := m_cut1 hW hE hX (hG.fr k1.gw) (k1.ge hM) hP z
    refine ⟨g2, k1.aw.tr w2, Or.inl ⟨z, ?_, M2⟩⟩
    unfold f_X11_cutsPhrase
    rw [e1, bnd_some]
    show (if nI (FP R E S ph) = -nI 1 then _ else ck (inb (nI q) 700) (bnd (f_X11_cutsPlaces g1 (nI (FP R E S ph)) (nI (FP R E S ph) + g1 139 (ix (nI q)) - nI 1)) _)) = _
    rw [if_neg (ng1 (by omega)), inb_t (by omega) (by omega), ck_true, ix_n (by omega), e139, b3, e2, bnd_some]
    unfold J_X11_cutsPhrase_26
    show (if nI (FP R E S ph) = -nI 1 then _ else _) = _
    rw [if_neg (ng1 (by omega))]
    rfl
  · refine ⟨g1, k1.aw, Or.inr ⟨z, ?_, k1.ge hM⟩⟩
    unfold f_X11_cutsPhrase J_X11_cutsPhrase_26
    rw [e1, bnd_some, if_pos (show (-nI 1 : Int32) = -1 from rfl), if_pos (show (-nI 1 : Int32) = -1 from rfl)]
    rfl
theorem l_cut (hW : WR R) (hE : WE R E) (hX : WX R E) (hG : GR g R) (hM : GE g E) (hC : CR h c R) (hD : CE h E) (hF : CF h R E) (hp : h 3 0 = nI c) (hk : knd c = 4 ∧ (c = 83 ∨ c = 97)) (hs : s = 111 ∨ s = 118) (hS : CS h s S) (hT : GS g T n) (hP : PH S T n ph q) : LF (f_X1_cutPhrase h s (nI ph) 1) (f_X11_cutsPhrase g (nI q)) h g R := by
  have pp := hP.p
  have p1 := hP.n1
  have hw := hW.w40
  have hl := trA_le hW hE
  obtain ⟨g', w', mm⟩ := m_cuts hW hE hX hG hM hT hP
  rcases c_find' hW hE hC hF hp hk hS hP with ⟨z, e1⟩ | ⟨z, e1⟩
  · obtain ⟨b1, b2, b3⟩ := fp_b hW hE hP z
    obtain ⟨h1, e2, D1, F1, H1⟩ := c_cut1 hW hE hX hC hD hF hp hk hP z
    obtain ⟨E1, X1⟩ := nx_W (S := S) (ph := ph) hW hE hX
    have S1 : CS h1 s S := hS.fr (fun o ho => H1.1 _ (by omega) (by omega))
    have e3 := c_findPhrase hW E1 (H1.cr hk hC) F1 (H1.2.trans hp) hk S1 hP
    rcases mm with ⟨-, m1, m2⟩ | ⟨z2, -⟩
    · refine ⟨1, h1, g', _, ?_, m1, Nat.le_refl _, D1, F1, H1, m2, w', E1, X1⟩
      unfold f_X1_cutPhrase
      rw [e1, bnd_some]
      show F_X1_cutPhrase_11 s (nI ph) 1 (fun x => F_X1_cutPhrase_11 s (nI ph) 1 (Lp (F_X1_cutPhrase_11 s (nI ph) 1) (FU - 2)) x) (nI 0, nI (FP R E S ph), h) = _
      have last : ∀ r v, F_X1_cutPhrase_11 s (nI ph) 1 r (nI 1, v, h1) = some (nI 1, h1) := by
        intro r v
        unfold F_X1_cutPhrase_11 J_X1_cutPhrase_54
        show (if v = -1 then (if nI 1 ≤ 0 then _ else _) else (if nI 1 < 1 then _ else (if nI 1 ≤ 0 then _ else _))) = _
        by_cases y : v = -1
        · rw [if_pos y, if_neg (by decide)]; rfl
        · rw [if_neg y, if_neg (by decide), if_neg (by decide)]; rfl
      unfold F_X1_cutPhrase_11
      show (if nI (FP R E S ph) = -nI 1 then _ else if nI 0 < 1 then ck (inb (nI ph) 60) (bnd (f_X1_cutPlaces h (nI (FP R E S ph)) (nI (FP R E S ph) + h (s + 5) (ix (nI ph)) - nI 1)) (fun u1 => stp (nI 0 + 1) (fun v2 => bnd (f_X1_findPhrase u1 s (nI ph)) (fun u3 => F_X1_cutPhrase_11 s (nI ph) 1 (Lp (F_X1_cutPhrase_11 s (nI ph) 1) (FU - 2)) (v2, u3, u1))))) else _) = _
      rw [if_neg (ng1 (by omega)), if_pos (by decide), inb_t (by omega) (by omega), ck_true, ix_n (by omega), hS.o 5 ph (by omega) (by omega), b3, e2, bnd_some, stp_eq, e3, bnd_some]
      exact last _ _
    · exact absurd z z2
  · rcases mm with ⟨z2, -⟩ | ⟨-, m1, m2⟩
    · exact absurd z2 z
    · refine ⟨0, h, g', E, ?_, m1, by omega, hD, hF, HF.rf h, m2, w', hE, hX⟩
      unfold f_X1_cutPhrase
      rw [e1, bnd_some]
      show F_X1_cutPhrase_11 s (nI ph) 1 (Lp (F_X1_cutPhrase_11 s (nI ph) 1) (FU - 1)) (nI 0, -nI 1, h) = _
      unfold F_X1_cutPhrase_11 J_X1_cutPhrase_54
      show (if (-nI 1 : Int32) = -1 then (if nI 0 ≤ 0 then _ else _) else _) = _
      rw [if_pos (show (-nI 1 : Int32) = -1 from rfl), if_pos (show nI 0 ≤ 0 by decide)]
      rfl
end
