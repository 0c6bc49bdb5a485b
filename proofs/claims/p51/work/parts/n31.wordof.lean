/-! the word of a speaker with a start -/
section
variable {g : PL}
theorem d_wordOf {R : Nat → Nat → Nat} {wid : Nat → Nat} {n t : Nat} (k : DK g) (hw : WO g R wid n) (hn : g.2.2 1 5 = nI n) (h40 : n ≤ 40) (ht : t < n) (hu : ∀ w, w < t → ¬ (R 3 w = R 3 t ∧ R 4 w = R 4 t)) : fp_X11_wordOf g 1 (nI (R 3 t)) (nI (R 4 t)) = some (wid t) := by
  have hgp := k.p
  obtain ⟨-, -, -, -, -, -, b3, b4⟩ := hw t ht
  refine wp_eq.mp ?_
  unfold fp_X11_wordOf
  refine wp_for (i := 0) n (fun i s => s = nI i ∧ i ≤ t) (by omega) (Nat.zero_le _) ⟨rfl, Nat.zero_le _⟩ ?_
  rintro i s r hi ⟨rfl, hit⟩ kk
  obtain ⟨w1, w2, w3, w4, w5, w6, w7, w8⟩ := hw i (by omega)
  have gw : gk g (wid i) 4 = true := gk_i w3 (by rw [w4])
  have lw : gl g (wid i) = 5 := by show (g.2.1 (wid i)).2 = 5; rw [w4]
  have rd : ∀ {α : Type} (K : Nat → Option α), ckn (gk g 1 0) (g.2.2 1 3) (fun q => ckn (gk g q 7 && inb (nI i) (gl g q)) (g.2.2 q (ix (nI i))) K) = K (wid i) := fun K => by
    rw [ckn_of k.g1 k.f3 (by omega), ix_n (by omega), ckn_of (by rw [k.g2, k.l2, inb_t (by omega) (by omega)]; rfl) w1 (by omega)]
  have next : ¬ i = t → Wp (Jp_X11_wordOf_41 g 1 (nI (R 3 t)) (nI (R 4 t)) r (nI i)) (fun u => u = wid t) := fun ne => by
    unfold Jp_X11_wordOf_41
    rw [show nI i + (1 : Int32) = nI (i + 1) from nI_add i 1, stp_eq]
    exact kk _ (by omega) ⟨rfl, by omega⟩
  unfold Fp_X11_wordOf_2
  rw [ck_of k.g1, hn, if_pos (lty (by omega) (by omega)), rd, ck_of (by rw [gw, lw]; rfl)]
  show Wp (if g.2.2 (wid i) 0 = nI (R 3 t) then _ else _) _
  rw [w5]
  by_cases a : R 3 i = R 3 t
  · rw [if_pos (by rw [a]), rd, ck_of (by rw [gw, lw]; rfl)]
    show Wp (if g.2.2 (wid i) 2 = nI (R 4 t) then _ else _) _
    rw [w6]
    by_cases b : R 4 i = R 4 t
    · rw [if_pos (by rw [b]), rd]
      have e : i = t := by
        apply Classical.byContradiction
        intro z
        exact hu i (by omega) ⟨a, b⟩
      rw [e]
      exact wp_some.mpr rfl
    · rw [if_neg (eqo b (by omega) (by omega))]
      exact next (fun e => b (by rw [e]))
  · rw [if_neg (eqo a (by omega) (by omega))]
    exact next (fun e => a (by rw [e]))
/-- the draft's words behind a new one -/
theorem WO.ins {u : PL} {R : Nat → Nat → Nat} {wid : Nat → Nat} {n t p sp st en tx : Nat} (hw : WO g R wid n) (ht : t ≤ n) (hR : R 0 4 = n) (hp : 12 ≤ p) (hp2 : p < g.1) (hpk : g.2.1 p = (4, 5)) (hp0 : g.2.2 p 0 = nI sp) (hp4 : g.2.2 p 2 = nI st) (hsp : sp < 1000) (hst : st < 1000) (e1 : u.1 = g.1) (e2 : u.2.1 = g.2.1) (e3 : ∀ o, ¬ o = 1 → ¬ o = 2 → u.2.2 o = g.2.2 o) (e4 : ∀ j, j ≤ n → u.2.2 2 j = nI (insW wid t p j)) : WO u (insR R t tx sp st en) (insW wid t p) (n + 1) := by
  intro w hw1
  rw [e4 w (by omega), e1, e2, ins_3, ins_4]
  unfold insW
  by_cases a : w < t
  · obtain ⟨w1, w2, w3, w4, w5, w6, w7, w8⟩ := hw w (by omega)
    rw [if_pos a, if_neg (by omega), if_neg (by omega), shR_o (by omega), shR_o (by omega), e3 _ (by omega) (by omega)]
    exact ⟨rfl, w2, w3, w4, w5, w6, w7, w8⟩
  · rw [if_neg a]
    by_cases b : w = t
    · rw [if_pos b, if_pos b, if_pos b, e3 _ (by omega) (by omega)]
      exact ⟨rfl, hp, hp2, hpk, hp0, hp4, hsp, hst⟩
    · obtain ⟨w1, w2, w3, w4, w5, w6, w7, w8⟩ := hw (w - 1) (by omega)
      rw [if_neg b, if_neg b, if_neg b, hR, shR_i ⟨by omega, by omega, by omega, by omega⟩, shR_i ⟨by omega, by omega, by omega, by omega⟩, e3 _ (by omega) (by omega)]
      exact ⟨rfl, w2, w3, w4, w5, w6, w7, w8⟩
end
