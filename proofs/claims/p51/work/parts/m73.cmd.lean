/-! a command, a row of commands, both sides -/
section
variable {h g : Hp} {c s : Nat} {R E S : Nat → Nat → Nat} {T : Nat → Nat} {n b f z m a e d k p q dp : Nat}
theorem SQ_k : ∀ m d k k' p p', SQ S T n m d k k' p p' → k ≤ k' := fun m d k k' p p' w => (SQ_le m d k k' p p' w).1
theorem l_cmd (w : RN h g c R s S T n E b f z) (hz : z = 0) (hC : CMD S T n (SQ S T n m) d k p q) (hd : d + dp ≤ 5) (hB : 0 < d → BK c R s S T n m a e (d - 1)) : RVc ((REC_X5_runCommand (a + 2)).1 h (nI k) (nI dp)) ((REC_X11_executes (e + 1)).1 g (nI p)) h g c R s S T n q := by
  obtain ⟨c1, c2, c3, c4, c5, c6, cc⟩ := hC
  have n7 := w.T.n7
  have hs := w.s1
  have hW := w.Q.W
  have hE := w.Q.E
  have bl := w.bl
  have fl := w.fl
  show RVc (B_X5_runCommand (REC_X5_runCommand (a + 1)).1 (REC_X5_runCommand (a + 1)).2.1 (REC_X5_runCommand (a + 1)).2.2.1 (REC_X5_runCommand (a + 1)).2.2.2 h (nI k) (nI dp)) (B_X11_executes (REC_X11_executes e).1 (REC_X11_executes e).2 g (nI p)) h g c R s S T n q
  by_cases hb : b < 200
  · have hb2 : ¬ b = 200 := by omega
    have w2 := w.beg hb
    have rh := RH.up h (j := 1) (v := nI (b + 1)) (by decide)
    have rg := RG.up g (j := 38) (v := nI (b + 1)) (by decide)
    have eX : B_X5_runCommand (REC_X5_runCommand (a + 1)).1 (REC_X5_runCommand (a + 1)).2.1 (REC_X5_runCommand (a + 1)).2.2.1 (REC_X5_runCommand (a + 1)).2.2.2 h (nI k) (nI dp) = B_X5_runCommand (REC_X5_runCommand (a + 1)).1 (REC_X5_runCommand (a + 1)).2.1 (REC_X5_runCommand (a + 1)).2.2.1 (REC_X5_runCommand (a + 1)).2.2.2 h (nI k) (nI dp) := rfl
    generalize hh2 : up h 15 1 (nI (b + 1)) = h2 at w2 rh
    generalize hg2 : up g 125 38 (nI (b + 1)) = g2 at w2 rg
    have k1 : h2 (s + 1) k = nI (S 1 k) := w2.S.o 1 k (by omega) (by omega)
    have kT : g2 139 p = nI (S 1 k) := by rw [w2.T.t p (by omega), c2]
    have cp : ∀ {α : Type} (K : Nat → Option α), ckp (h2 15 0) 6 K = K s := fun K => ckp_of w2.p w.s2 (by omega)
    have eX : ∀ v, S 1 k = v → v ≤ 5 → B_X5_runCommand (REC_X5_runCommand (a + 1)).1 (REC_X5_runCommand (a + 1)).2.1 (REC_X5_runCommand (a + 1)).2.2.1 (REC_X5_runCommand (a + 1)).2.2.2 h (nI k) (nI dp) = (if v = 0 then bnd (f_X1_cutPhrase h2 s (nI (2 * k)) 1) (fun u6 => J_X5_runCommand_160 (REC_X5_runCommand (a + 1)).1 (REC_X5_runCommand (a + 1)).2.1 (REC_X5_runCommand (a + 1)).2.2.1 (REC_X5_runCommand (a + 1)).2.2.2 (nI k) (nI dp) u6.2 u6.1) else if v = 1 then bnd (f_X1_cutPhrase h2 s (nI (2 * k)) 40) (fun u6 => J_X5_runCommand_160 (REC_X5_runCommand (a + 1)).1 (REC_X5_runCommand (a + 1)).2.1 (REC_X5_runCommand (a + 1)).2.2.1 (REC_X5_runCommand (a + 1)).2.2.2 (nI k) (nI dp) u6.2 u6.1) else if v = 2 then bnd (f_X1_keepPhraseAgain h2 s (nI (2 * k))) (fun u6 => J_X5_runCommand_160 (REC_X5_runCommand (a + 1)).1 (REC_X5_runCommand (a + 1)).2.1 (REC_X5_runCommand (a + 1)).2.2.1 (REC_X5_runCommand (a + 1)).2.2.2 (nI k) (nI dp) u6.2 u6.1) else if v = 3 then bnd (f_X1_carryPhrase h2 s (nI (2 * k)) (nI (2 * k + 1))) (fun u6 => J_X5_runCommand_160 (REC_X5_runCommand (a + 1)).1 (REC_X5_runCommand (a + 1)).2.1 (REC_X5_runCommand (a + 1)).2.2.1 (REC_X5_runCommand (a + 1)).2.2.2 (nI k) (nI dp) u6.2 u6.1) else if v = 4 then (REC_X5_runCommand (a + 1)).2.2.1 h2 (nI k) (nI dp) else (REC_X5_runCommand (a + 1)).2.2.2 h2 (nI k) (nI dp)) := by
      intro v hv hv5
      unfold B_X5_runCommand
      rw [w.b1, if_pos (show nI b < (200 : Int32) from (nI_ltI (b := 200) (by omega) (by omega)).mpr hb), stp_eq, show nI b + 1 = nI (b + 1) from nI_add b 1, hh2, stp_eq, show (2 : Int32) * nI k = nI (2 * k) from pk_mul 2 k, cp]
      show ck (inb (nI k) 30) (if h2 (s + 1) (ix (nI k)) = 0 then _ else if h2 (s + 1) (ix (nI k)) = 1 then _ else if h2 (s + 1) (ix (nI k)) = 2 then _ else if h2 (s + 1) (ix (nI k)) = 3 then _ else if h2 (s + 1) (ix (nI k)) = 4 then _ else _) = _
      rw [inb_t (by omega) (by omega), ck_true, ix_n (by omega), k1, hv]
      have j1 : ∀ x : Option Hp, bnd x (fun u => J_X5_runCommand_160 (REC_X5_runCommand (a + 1)).1 (REC_X5_runCommand (a + 1)).2.1 (REC_X5_runCommand (a + 1)).2.2.1 (REC_X5_runCommand (a + 1)).2.2.2 (nI k) (nI dp) u 1) = x := by
        intro x
        cases x with
        | none => rfl
        | some y =>
          rw [bnd_some]
          unfold J_X5_runCommand_160
          rw [if_neg (show ¬ (1 : Int32) = 0 by decide)]
      have : v = 0 ∨ v = 1 ∨ v = 2 ∨ v = 3 ∨ v = 4 ∨ v = 5 := by omega
      rcases this with rfl | rfl | rfl | rfl | rfl | rfl
      · rw [if_pos (show (nI 0 : Int32) = 0 from rfl), cp, if_pos rfl]
      · rw [if_neg (show ¬ (nI 1 : Int32) = 0 by decide), if_pos (show (nI 1 : Int32) = 1 from rfl), cp, if_neg (show ¬ 1 = 0 by decide), if_pos rfl]
      · rw [if_neg (show ¬ (nI 2 : Int32) = 0 by decide), if_neg (show ¬ (nI 2 : Int32) = 1 by decide), if_pos (show (nI 2 : Int32) = 2 from rfl), cp, if_neg (show ¬ 2 = 0 by decide), if_neg (show ¬ 2 = 1 by decide), if_pos rfl]
      · rw [if_neg (show ¬ (nI 3 : Int32) = 0 by decide), if_neg (show ¬ (nI 3 : Int32) = 1 by decide), if_neg (show ¬ (nI 3 : Int32) = 2 by decide), if_pos (show (nI 3 : Int32) = 3 from rfl), cp, show nI (2 * k) + 1 = nI (2 * k + 1) from nI_add _ 1, if_neg (show ¬ 3 = 0 by decide), if_neg (show ¬ 3 = 1 by decide), if_neg (show ¬ 3 = 2 by decide), if_pos rfl]
      · rw [if_neg (show ¬ (nI 4 : Int32) = 0 by decide), if_neg (show ¬ (nI 4 : Int32) = 1 by decide), if_neg (show ¬ (nI 4 : Int32) = 2 by decide), if_neg (show ¬ (nI 4 : Int32) = 3 by decide), if_pos (show (nI 4 : Int32) = 4 from rfl), if_neg (show ¬ 4 = 0 by decide), if_neg (show ¬ 4 = 1 by decide), if_neg (show ¬ 4 = 2 by decide), if_neg (show ¬ 4 = 3 by decide), if_pos rfl]
        exact j1 _
      · rw [if_neg (show ¬ (nI 5 : Int32) = 0 by decide), if_neg (show ¬ (nI 5 : Int32) = 1 by decide), if_neg (show ¬ (nI 5 : Int32) = 2 by decide), if_neg (show ¬ (nI 5 : Int32) = 3 by decide), if_neg (show ¬ (nI 5 : Int32) = 4 by decide), if_neg (show ¬ 5 = 0 by decide), if_neg (show ¬ 5 = 1 by decide), if_neg (show ¬ 5 = 2 by decide), if_neg (show ¬ 5 = 3 by decide), if_neg (show ¬ 5 = 4 by decide)]
        exact j1 _
    have pe : ∀ {v}, v = 5 ∨ p + 1 < n → S 1 k = v → v ≤ 5 → B_X11_executes (REC_X11_executes e).1 (REC_X11_executes e).2 g (nI p) = (if v = 5 then Lp (F_X11_executes_41 (REC_X11_executes e).1 (REC_X11_executes e).2 (nI p)) FU (0, g2) else if v = 4 then ck (inb (nI (p + 2 + T (p + 1))) 700) (stp (nI (p + 2 + T (p + 1)) + 1 + g2 139 (ix (nI (p + 2 + T (p + 1))))) (fun v13 => bnd (f_X11_find g2 (nI (p + 1))) (fun u14 => if u14.1 = -1 then J_X11_executes_129 (REC_X11_executes e).1 (REC_X11_executes e).2 (nI p) u14.2 v13 v13 else J_X11_executes_129 (REC_X11_executes e).1 (REC_X11_executes e).2 (nI p) u14.2 v13 (nI (p + 2 + T (p + 1)))))) else bnd (if v = 3 then f_X11_movesPhrase g2 (nI (p + 1)) (nI (p + 2 + T (p + 1))) else if v = 0 then f_X11_cutsPhrase g2 (nI (p + 1)) else if v = 1 then f_X11_cleans g2 (nI (p + 1)) else f_X11_restoresPhrase g2 (nI (p + 1))) (fun u => J_X11_executes_201 (REC_X11_executes e).1 (REC_X11_executes e).2 (nI p) u.2 (nI v) (nI (p + 2 + T (p + 1))) u.1)) := by
      intro v hp hv hv5
      unfold B_X11_executes J_X11_executes_199
      rw [w.b2, if_neg (show ¬ nI b = (200 : Int32) from fun y => hb2 ((nI_eq (b := 200) (by omega) (by omega)).mp y)), stp_eq, show nI b + 1 = nI (b + 1) from nI_add b 1, hg2, inb_t (by omega) (by omega), ck_true, ix_n (by omega), kT, stp_eq, hv]
      by_cases h5 : v = 5
      · subst h5
        rw [if_pos (show (nI 5 : Int32) = 5 from rfl), if_pos rfl]
      · have hp := hp.resolve_left h5
        have ph : f_X11_phraseEnd g2 (nI p + 1) = some (nI (p + 2 + T (p + 1))) := by
          rw [show nI p + 1 = nI (p + 1) from nI_add p 1, m_pe w2.T hp]
        rw [ph, bnd_some, show nI p + 1 = nI (p + 1) from nI_add p 1, if_neg h5]
        have : v = 0 ∨ v = 1 ∨ v = 2 ∨ v = 3 ∨ v = 4 := by omega
        rcases this with rfl | rfl | rfl | rfl | rfl
        · rw [if_neg (show ¬ (nI 0 : Int32) = 5 by decide), if_neg (show ¬ (nI 0 : Int32) = 4 by decide), if_neg (show ¬ (nI 0 : Int32) = 3 by decide), if_pos (show (nI 0 : Int32) = 0 from rfl), if_neg (show ¬ 0 = 4 by decide), if_neg (show ¬ 0 = 3 by decide), if_pos rfl]
        · rw [if_neg (show ¬ (nI 1 : Int32) = 5 by decide), if_neg (show ¬ (nI 1 : Int32) = 4 by decide), if_neg (show ¬ (nI 1 : Int32) = 3 by decide), if_neg (show ¬ (nI 1 : Int32) = 0 by decide), if_pos (show (nI 1 : Int32) = 1 from rfl), if_neg (show ¬ 1 = 4 by decide), if_neg (show ¬ 1 = 3 by decide), if_neg (show ¬ 1 = 0 by decide), if_pos rfl]
        · rw [if_neg (show ¬ (nI 2 : Int32) = 5 by decide), if_neg (show ¬ (nI 2 : Int32) = 4 by decide), if_neg (show ¬ (nI 2 : Int32) = 3 by decide), if_neg (show ¬ (nI 2 : Int32) = 0 by decide), if_neg (show ¬ (nI 2 : Int32) = 1 by decide), if_neg (show ¬ 2 = 4 by decide), if_neg (show ¬ 2 = 3 by decide), if_neg (show ¬ 2 = 0 by decide), if_neg (show ¬ 2 = 1 by decide)]
        · rw [if_neg (show ¬ (nI 3 : Int32) = 5 by decide), if_neg (show ¬ (nI 3 : Int32) = 4 by decide), if_pos (show (nI 3 : Int32) = 3 from rfl), if_neg (show ¬ 3 = 4 by decide), if_pos rfl]
        · rw [if_neg (show ¬ (nI 4 : Int32) = 5 by decide), if_pos (show (nI 4 : Int32) = 4 from rfl), if_pos rfl]
    rcases cc with ⟨x1, x2, x3⟩ | ⟨x1, x2, x3, x4⟩ | ⟨x1, x2, x3, r1, r2, y1, y2, y3, y4, y5, y6, y7⟩ | ⟨x1, x2, x3, x4, x5, x6⟩
    · -- a change of one phrase
      have xe := x2.e
      have leaf : ∀ {X Y : Option (Int32 × Hp)} v, S 1 k = v → v ≤ 2 → LF X Y h2 g2 R → B_X5_runCommand (REC_X5_runCommand (a + 1)).1 (REC_X5_runCommand (a + 1)).2.1 (REC_X5_runCommand (a + 1)).2.2.1 (REC_X5_runCommand (a + 1)).2.2.2 h (nI k) (nI dp) = bnd X (fun u6 => J_X5_runCommand_160 (REC_X5_runCommand (a + 1)).1 (REC_X5_runCommand (a + 1)).2.1 (REC_X5_runCommand (a + 1)).2.2.1 (REC_X5_runCommand (a + 1)).2.2.2 (nI k) (nI dp) u6.2 u6.1) → B_X11_executes (REC_X11_executes e).1 (REC_X11_executes e).2 g (nI p) = bnd Y (fun u => J_X11_executes_201 (REC_X11_executes e).1 (REC_X11_executes e).2 (nI p) u.2 (nI v) (nI (p + 2 + T (p + 1))) u.1) → RVc (B_X5_runCommand (REC_X5_runCommand (a + 1)).1 (REC_X5_runCommand (a + 1)).2.1 (REC_X5_runCommand (a + 1)).2.2.1 (REC_X5_runCommand (a + 1)).2.2.2 h (nI k) (nI dp)) (B_X11_executes (REC_X11_executes e).1 (REC_X11_executes e).2 g (nI p)) h g c R s S T n q := by
        intro X Y v hv hv2 hl e1 e2
        obtain ⟨u, h3, g3, E3, f1, f2, hu, w3, rh3, rg3⟩ := w2.lf hl
        obtain ⟨h4, g4, f', j1, j2, w4, rh4, rg4⟩ := l_end w3 (by omega) hu
        refine ⟨h4, g4, E3, b + 1, f', z, _, ?_, ?_, w4, (rh.tr rh3).tr rh4, (rg.tr rg3).tr rg4, fun _ => rfl⟩
        · rw [e1, f1, bnd_some]; exact j1 _ _ _ _ _ _
        · rw [e2, f2, bnd_some]
          show J_X11_executes_201 _ _ _ g3 (nI v) _ (nI u) = _
          rw [j2 _ _ _ _ _ (by omega), if_neg (by omega), x3]
      have : S 1 k = 0 ∨ S 1 k = 1 ∨ S 1 k = 2 := by omega
      rcases this with y | y | y
      · exact leaf 0 y (by omega) (l_cut hW hE w.Q.X w2.Q.G w2.Q.M w2.Q.C w2.Q.D w2.Q.F w2.Q.p w.Q.k hs w2.S w2.T x2) (by rw [eX 0 y (by omega), if_pos rfl]) (by rw [pe (v := 0) (Or.inr (by omega)) y (by omega), if_neg (show ¬ 0 = 5 by decide), if_neg (show ¬ 0 = 4 by decide), if_neg (show ¬ 0 = 3 by decide), if_pos rfl])
      · exact leaf 1 y (by omega) (l_clean hW hE w.Q.X w2.Q.G w2.Q.M w2.Q.C w2.Q.D w2.Q.F w2.Q.p w.Q.k hs w2.S w2.T x2) (by rw [eX 1 y (by omega), if_neg (show ¬ 1 = 0 by decide), if_pos rfl]) (by rw [pe (v := 1) (Or.inr (by omega)) y (by omega), if_neg (show ¬ 1 = 5 by decide), if_neg (show ¬ 1 = 4 by decide), if_neg (show ¬ 1 = 3 by decide), if_neg (show ¬ 1 = 0 by decide), if_pos rfl])
      · exact leaf 2 y (by omega) (l_keep hW hE w.Q.X w2.Q.G w2.Q.M w2.Q.C w2.Q.D w2.Q.F w2.Q.p w.Q.k hs w2.S w2.T x2) (by rw [eX 2 y (by omega), if_neg (show ¬ 2 = 0 by decide), if_neg (show ¬ 2 = 1 by decide), if_pos rfl]) (by rw [pe (v := 2) (Or.inr (by omega)) y (by omega), if_neg (show ¬ 2 = 5 by decide), if_neg (show ¬ 2 = 4 by decide), if_neg (show ¬ 2 = 3 by decide), if_neg (show ¬ 2 = 0 by decide), if_neg (show ¬ 2 = 1 by decide)])
    · -- move
      have xe := x2.e
      have xe2 := x3.e
      have e1 := eX 3 x1 (by omega)
      have e2 := pe (v := 3) (Or.inr (by omega)) x1 (by omega)
      obtain ⟨u, h3, g3, E3, f1, f2, hu, w3, rh3, rg3⟩ := w2.lf (l_move hW hE w.Q.X w2.Q.G w2.Q.M w2.Q.C w2.Q.D w2.Q.F w2.Q.p w.Q.k hs w2.S w2.T x2 x3)
      obtain ⟨h4, g4, f', j1, j2, w4, rh4, rg4⟩ := l_end w3 (by omega) hu
      refine ⟨h4, g4, E3, b + 1, f', z, nI q, ?_, ?_, w4, (rh.tr rh3).tr rh4, (rg.tr rg3).tr rg4, fun _ => rfl⟩
      · rw [e1, if_neg (show ¬ 3 = 0 by decide), if_neg (show ¬ 3 = 1 by decide), if_neg (show ¬ 3 = 2 by decide), if_pos rfl, f1, bnd_some]; exact j1 _ _ _ _ _ _
      · rw [e2, if_neg (show ¬ 3 = 5 by decide), if_neg (show ¬ 3 = 4 by decide), if_pos rfl, f2, bnd_some]
        show J_X11_executes_201 _ _ _ g3 (nI 3) _ (nI u) = _
        rw [j2 _ _ _ _ _ (by omega), if_pos rfl, m_pe w4.T (by omega), bnd_some, x4]
    · -- if
      have xe := x3.e
      have e1 := eX 4 x1 (by omega)
      have e2 := pe (v := 4) (Or.inr (by omega)) x1 (by omega)
      have hBd := hB x2
      have sk1 := SQ_k _ _ _ _ _ _ y6
      have sk2 := SQ_k _ _ _ _ _ _ y7
      have hr1 : g2 139 r1 = nI (T r1) := w2.T.t _ (by omega)
      rw [← y1] at e2
      obtain ⟨g3, k3, mm⟩ := m_find' hW hE w2.Q.G w2.Q.M w2.T x3
      have w3 := w2.row k3
      have ef : ∀ v, f_X1_findPhrase h2 s (nI (2 * k)) = some v → (REC_X5_runCommand (a + 1)).2.2.1 h2 (nI k) (nI dp) = if v = -1 then (REC_X5_runCommand a).2.1 h2 (nI (S 3 k)) (nI (S 4 k)) (nI (dp + 1)) else (REC_X5_runCommand a).2.1 h2 (nI (k + 1)) (nI (S 3 k)) (nI (dp + 1)) := by
        intro v hv
        have b1 : ∀ x : Option Hp, bnd x (fun u => some u) = x := fun x => by cases x <;> rfl
        show B_X5_runIf (REC_X5_runCommand a).1 (REC_X5_runCommand a).2.1 (REC_X5_runCommand a).2.2.1 (REC_X5_runCommand a).2.2.2 h2 (nI k) (nI dp) = _
        unfold B_X5_runIf
        rw [cp, inb_t (show k < 30 by omega) (by omega), ck_true, ix_n (show k < 2147483648 by omega), w2.S.o 3 k (by omega) (by omega), stp_eq, cp, show (2 : Int32) * nI k = nI (2 * k) from pk_mul 2 k, hv, bnd_some, cp, ck_true, w2.S.o 4 k (by omega) (by omega), show nI dp + 1 = nI (dp + 1) from nI_add dp 1, show nI k + 1 = nI (k + 1) from nI_add k 1, b1, b1]
      have em : ∀ v, f_X11_find g2 (nI (p + 1)) = some (v, g3) → B_X11_executes (REC_X11_executes e).1 (REC_X11_executes e).2 g (nI p) = bnd ((REC_X11_executes e).2 g3 (if v = -1 then nI r2 else nI r1)) (fun u3 => some (nI r2 + 1 + u3 139 r2, u3)) := by
        intro v hv
        rw [e2, if_neg (show ¬ 4 = 5 by decide), if_pos rfl, inb_t (by omega) (by omega), ck_true, ix_n (by omega), hr1, show nI r1 + 1 = nI (r1 + 1) from nI_add r1 1, nI_add, ← y2, stp_eq, hv, bnd_some]
        unfold J_X11_executes_129
        by_cases hv1 : v = -1
        · rw [if_pos hv1, if_pos hv1, inb_t (by omega) (by omega), ix_n (by omega)]
          rfl
        · rw [if_neg hv1, if_neg hv1, inb_t (by omega) (by omega), ix_n (by omega)]
          rfl
      have fin : ∀ {X Y}, RVb X Y h2 g3 c R s S T n → B_X5_runCommand (REC_X5_runCommand (a + 1)).1 (REC_X5_runCommand (a + 1)).2.1 (REC_X5_runCommand (a + 1)).2.2.1 (REC_X5_runCommand (a + 1)).2.2.2 h (nI k) (nI dp) = X → B_X11_executes (REC_X11_executes e).1 (REC_X11_executes e).2 g (nI p) = bnd Y (fun u3 => some (nI r2 + 1 + u3 139 r2, u3)) → RVc (B_X5_runCommand (REC_X5_runCommand (a + 1)).1 (REC_X5_runCommand (a + 1)).2.1 (REC_X5_runCommand (a + 1)).2.2.1 (REC_X5_runCommand (a + 1)).2.2.2 h (nI k) (nI dp)) (B_X11_executes (REC_X11_executes e).1 (REC_X11_executes e).2 g (nI p)) h g c R s S T n q := by
        intro X Y hv e3 e4
        obtain ⟨h4, g4, E4, b4, f4, z4, a1, a2, w4, a3, a4⟩ := hv
        refine ⟨h4, g4, E4, b4, f4, z4, nI q, by rw [e3, a1], ?_, w4, rh.tr a3, (rg.tr k3.aw.rg).tr a4, fun _ => rfl⟩
        rw [e4, a2, bnd_some, w4.T.t r2 y5, show nI r2 + 1 = nI (r2 + 1) from nI_add r2 1, nI_add, ← y3]
      have e1 : B_X5_runCommand (REC_X5_runCommand (a + 1)).1 (REC_X5_runCommand (a + 1)).2.1 (REC_X5_runCommand (a + 1)).2.2.1 (REC_X5_runCommand (a + 1)).2.2.2 h (nI k) (nI dp) = (REC_X5_runCommand (a + 1)).2.2.1 h2 (nI k) (nI dp) := by rw [e1, if_neg (show ¬ 4 = 0 by decide), if_neg (show ¬ 4 = 1 by decide), if_neg (show ¬ 4 = 2 by decide), if_neg (show ¬ 4 = 3 by decide), if_pos rfl]
      rcases c_find' hW hE w2.Q.C w2.Q.F w2.Q.p w.Q.k w2.S x3 with ⟨z1, c7⟩ | ⟨z1, c7⟩
      · rcases mm with ⟨-, m1⟩ | ⟨y, -⟩
        case inr => exact absurd z1 y
        obtain ⟨q1, q2, q3⟩ := fp_b hW hE x3 z1
        have em := em _ m1
        rw [if_neg (show ¬ nI (FP R E S (2 * k)) = -1 from ng1 (by omega))] at em
        refine fin (hBd (k + 1) (S 3 k) r1 r2 (dp + 1) y6 y2 (by omega) (by omega) (by omega) h2 g3 _ _ _ _ w3) ?_ em
        rw [e1, ef _ c7, if_neg (show ¬ nI (FP R E S (2 * k)) = -1 from ng1 (by omega))]
      · rcases mm with ⟨y, -⟩ | ⟨-, m1⟩
        case inl => exact absurd y z1
        have em := em _ m1
        rw [if_pos (show (-nI 1 : Int32) = -1 from rfl)] at em
        refine fin (hBd (S 3 k) (S 4 k) r2 q (dp + 1) y7 y3 (by omega) (by omega) (by omega) h2 g3 _ _ _ _ w3) ?_ em
        rw [e1, ef _ c7, if_pos (show (-nI 1 : Int32) = -1 from rfl)]
    · -- repeat
      have e1 := eX 5 x1 (by omega)
      have e2 := pe (v := 5) (Or.inl rfl) x1 (by omega)
      have hBd := hB x2
      have hle := (SQ_le _ _ _ _ _ _ x6).2
      have hr := l_rep (d := dp) (k := k) (p := p) (a := a) (e := e) (c := c) (R := R) (s := s) (S := S) (T := T) (n := n) (fun h g E b f z w => hBd (k + 1) (S 4 k) (p + 2) q (dp + 1) x6 (by omega) (by omega) (by omega) (by omega) h g E b f z w) c1 (by omega) x3 x4 (S 2 k) 0 (by omega) FU FU (by unfold FU; omega) (by unfold FU; omega) h2 g2 _ _ _ _ w2
      obtain ⟨h4, g4, E4, b4, f4, z4, v, a1, a2, w4, a3, a4, a5⟩ := hr
      refine ⟨h4, g4, E4, b4, f4, z4, v, ?_, ?_, w4, rh.tr a3, rg.tr a4, by rw [x5]; exact a5⟩
      · rw [e1, if_neg (show ¬ 5 = 0 by decide), if_neg (show ¬ 5 = 1 by decide), if_neg (show ¬ 5 = 2 by decide), if_neg (show ¬ 5 = 3 by decide), if_neg (show ¬ 5 = 4 by decide)]
        show B_X5_runRepeat (REC_X5_runCommand a).1 (REC_X5_runCommand a).2.1 (REC_X5_runCommand a).2.2.1 (REC_X5_runCommand a).2.2.2 h2 (nI k) (nI dp) = _
        unfold B_X5_runRepeat
        rw [show (0 : Int32) = nI 0 from rfl]
        exact a1
      · rw [e2, if_pos rfl, show (0 : Int32) = nI 0 from rfl]
        exact a2
  · have e : b = 200 := by omega
    subst e
    refine ⟨_, _, E, 200, f, 1, nI p, ?_, ?_, w.stop, RH.up h (by decide), RG.up g (by decide), fun y => absurd y (by decide)⟩
    · unfold B_X5_runCommand
      rw [w.b1, if_neg (show ¬ nI 200 < (200 : Int32) by decide), stp_eq]
      rfl
    · unfold B_X11_executes
      rw [w.b2, if_pos (show (nI 200 : Int32) = 200 from rfl), stp_eq]
      rfl
end
