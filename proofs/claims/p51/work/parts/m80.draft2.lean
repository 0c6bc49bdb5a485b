/-! a speaker, a breath, a word more -/
def spkR (R : Nat → Nat → Nat) (a : Nat) : Nat → Nat → Nat := setE (setE R 1 (R 0 2) a) 0 2 (R 0 2 + 1)
def breR (R : Nat → Nat → Nat) (a b : Nat) : Nat → Nat → Nat := setE (setE (setE R 7 (R 0 10) a) 8 (R 0 10) b) 0 10 (R 0 10 + 1)
theorem shR_i {R : Nat → Nat → Nat} {i n o j : Nat} (h : 2 ≤ o ∧ o ≤ 5 ∧ i < j ∧ j ≤ n) : shR R i n o j = R o (j - 1) := if_pos h
theorem shR_o {R : Nat → Nat → Nat} {i n o j : Nat} (h : ¬ (2 ≤ o ∧ o ≤ 5 ∧ i < j ∧ j ≤ n)) : shR R i n o j = R o j := if_neg h
section
variable {h g : Hp} {c : Nat} {R : Nat → Nat → Nat}
theorem WD.spk (hD : WD R) {a : Nat} (ha : isName a) (h4 : R 0 2 < 4) : WD (spkR R a) := by
  unfold spkR
  refine ⟨?_, ?_, ?_, ?_, ?_, ?_, fun s hs => ?_, fun w hw => ?_, fun w hw => ?_, fun w hw => ?_, fun i hi => ?_, (by rw [setE_n (by decide), setE_o (by decide)]; exact hD.b0)⟩
  · rw [setE_n (by decide), setE_o (by decide)]; exact hD.len0
  · rw [setE_n (by decide), setE_o (by decide)]; exact hD.len
  · rw [setE_n (by decide), setE_o (by decide)]; exact hD.han
  · rw [setE_s]; omega
  · rw [setE_n (by decide), setE_o (by decide)]; exact hD.w40
  · rw [setE_n (by decide), setE_o (by decide)]; exact hD.br
  · rw [setE_s] at hs
    rw [setE_o (by decide)]
    by_cases e : s = R 0 2
    · subst e; rw [setE_s]; exact ha
    · rw [setE_n e]; exact hD.nm s (by omega)
  · rw [setE_n (by decide), setE_o (by decide)] at hw
    rw [setE_o (by decide), setE_o (by decide)]; exact hD.tx w hw
  · rw [setE_n (by decide), setE_o (by decide)] at hw
    have := hD.wd w hw
    rw [setE_o (by decide), setE_o (by decide), setE_o (by decide), setE_o (by decide), setE_o (by decide), setE_o (by decide), setE_s]
    omega
  · rw [setE_n (by decide), setE_o (by decide)] at hw
    rw [setE_o (by decide), setE_o (by decide)]; exact hD.srt w hw
  · rw [setE_n (by decide), setE_o (by decide)] at hi
    rw [setE_o (by decide), setE_o (by decide), setE_o (by decide), setE_o (by decide)]; exact hD.bb i hi
theorem GD.spk (hG : GD g R) (hD : WD R) (h4 : R 0 2 < 4) {a : Nat} : GD (up (up g 127 (5 + R 0 2) (nI (n27 a))) 127 2 (nI (R 0 2 + 1))) (spkR R a) := by
  have key : ∀ j, ¬ j = 2 → ¬ j = 5 + R 0 2 → (up (up g 127 (5 + R 0 2) (nI (n27 a))) 127 2 (nI (R 0 2 + 1))) 127 j = g 127 j := fun j a b => by rw [up_sn a, up_sn b]
  unfold spkR
  refine ⟨?_, ?_, ?_, ?_, ?_, fun s hs => ?_, fun w hw => ?_, fun w hw => ?_, fun w hw => ?_, fun w hw => ?_, fun w hw => ?_, fun w hw => ?_⟩
  · rw [setE_n (by decide), setE_o (by decide), key _ (by omega) (by omega)]; exact hG.len
  · rw [setE_n (by decide), setE_o (by decide), key _ (by omega) (by omega)]; exact hG.han
  · rw [setE_s, up_ss]
  · rw [setE_n (by decide), setE_o (by decide), key _ (by omega) (by omega)]; exact hG.wc
  · rw [setE_n (by decide), setE_o (by decide), key _ (by omega) (by omega)]; exact hG.brc
  · rw [setE_s] at hs
    rw [setE_o (by decide)]
    by_cases e : s = R 0 2
    · subst e; rw [setE_s, up_sn (by omega), up_ss]
    · rw [setE_n e, key _ (by omega) (by omega)]; exact hG.nm s (by omega)
  · rw [setE_n (by decide), setE_o (by decide)] at hw
    rw [setE_o (by decide), setE_o (by decide), key _ (by omega) (by omega)]; exact hG.who w hw
  · rw [setE_n (by decide), setE_o (by decide)] at hw
    rw [setE_o (by decide), setE_o (by decide), key _ (by omega) (by omega)]; exact hG.txt w hw
  · rw [setE_n (by decide), setE_o (by decide)] at hw
    rw [setE_o (by decide), setE_o (by decide), key _ (by omega) (by omega)]; exact hG.st w hw
  · rw [setE_n (by decide), setE_o (by decide)] at hw
    rw [setE_o (by decide), setE_o (by decide), key _ (by omega) (by omega)]; exact hG.en w hw
  · rw [setE_n (by decide), setE_o (by decide)] at hw
    rw [setE_o (by decide), setE_o (by decide), key _ (by omega) (by omega)]; exact hG.b1 w hw
  · rw [setE_n (by decide), setE_o (by decide)] at hw
    rw [setE_o (by decide), setE_o (by decide), key _ (by omega) (by omega)]; exact hG.b2 w hw
theorem c_addSpeaker (hC : CR h c R) (h4 : R 0 2 < 4) (a : Nat) : Wp (f_X4_addSpeaker h c (nI a)) (fun u => CR u c (spkR R a) ∧ ∀ k, ¬ (c ≤ k ∧ k ≤ c + 13) → u k = h k) := by
  unfold f_X4_addSpeaker
  rw [hC.z, if_pos (show nI (R 0 2) < 4 from (nI_ltI (b := 4) (by omega) (by omega)).mpr h4), inb_t (by omega) (by omega), ck_true, ix_n (by omega), stp_eq]
  have e : up h (c + 1) (R 0 2) (nI a) c 2 = nI (R 0 2) := by rw [up_o (by omega)]; exact hC.z 2
  rw [e, show nI (R 0 2) + 1 = nI (R 0 2 + 1) from nI_add _ 1, stp_eq]
  exact wp_some.mpr ⟨(hC.put (o := 1) (by omega)).put (o := 0) (by omega), fun k hk => by rw [up_o (by omega), up_o (by omega)]⟩
theorem WD.bre (hD : WD R) {a b : Nat} (hab : a < b) (hb : b ≤ 99999) (h12 : R 0 10 < 12) : WD (breR R a b) := by
  unfold breR
  refine ⟨?_, ?_, ?_, ?_, ?_, ?_, fun s hs => ?_, fun w hw => ?_, fun w hw => ?_, fun w hw => ?_, fun i hi => ?_, (by rw [setE_n (by decide), setE_o (by decide), setE_o (by decide)]; exact hD.b0)⟩
  · rw [setE_n (by decide), setE_o (by decide), setE_o (by decide)]; exact hD.len0
  · rw [setE_n (by decide), setE_o (by decide), setE_o (by decide)]; exact hD.len
  · rw [setE_n (by decide), setE_o (by decide), setE_o (by decide)]; exact hD.han
  · rw [setE_n (by decide), setE_o (by decide), setE_o (by decide)]; exact hD.s4
  · rw [setE_n (by decide), setE_o (by decide), setE_o (by decide)]; exact hD.w40
  · rw [setE_s]; omega
  · rw [setE_n (by decide), setE_o (by decide), setE_o (by decide)] at hs
    rw [setE_o (by decide), setE_o (by decide), setE_o (by decide)]; exact hD.nm s hs
  · rw [setE_n (by decide), setE_o (by decide), setE_o (by decide)] at hw
    rw [setE_o (by decide), setE_o (by decide), setE_o (by decide)]; exact hD.tx w hw
  · rw [setE_n (by decide), setE_o (by decide), setE_o (by decide)] at hw
    rw [setE_o (by decide), setE_o (by decide), setE_o (by decide), setE_o (by decide), setE_o (by decide), setE_o (by decide), setE_o (by decide), setE_o (by decide), setE_o (by decide), setE_n (by decide), setE_o (by decide), setE_o (by decide)]
    exact hD.wd w hw
  · rw [setE_n (by decide), setE_o (by decide), setE_o (by decide)] at hw
    rw [setE_o (by decide), setE_o (by decide), setE_o (by decide), setE_o (by decide), setE_o (by decide), setE_o (by decide)]
    exact hD.srt w hw
  · rw [setE_s] at hi
    rw [setE_o (show ¬ 7 = 0 by decide), setE_o (show ¬ 7 = 8 by decide), setE_o (show ¬ 8 = 0 by decide)]
    by_cases e : i = R 0 10
    · subst e
      rw [setE_s, setE_s]
      exact ⟨hab, hb⟩
    · rw [setE_n e, setE_n e, setE_o (by decide)]
      exact hD.bb i (by omega)
theorem GD.bre (hG : GD g R) (hD : WD R) (h12 : R 0 10 < 12) {a b : Nat} : GD (up (up (up g 127 (169 + 2 * R 0 10) (nI a)) 127 (169 + 2 * R 0 10 + 1) (nI b)) 127 4 (nI (R 0 10 + 1))) (breR R a b) := by
  have h40 := hD.w40
  have hs4 := hD.s4
  have key : ∀ j, ¬ j = 4 → ¬ j = 169 + 2 * R 0 10 → ¬ j = 169 + 2 * R 0 10 + 1 → (up (up (up g 127 (169 + 2 * R 0 10) (nI a)) 127 (169 + 2 * R 0 10 + 1) (nI b)) 127 4 (nI (R 0 10 + 1))) 127 j = g 127 j := fun j a b d => by rw [up_sn a, up_sn d, up_sn b]
  unfold breR
  refine ⟨?_, ?_, ?_, ?_, ?_, fun s hs => ?_, fun w hw => ?_, fun w hw => ?_, fun w hw => ?_, fun w hw => ?_, fun w hw => ?_, fun w hw => ?_⟩
  · rw [setE_n (by decide), setE_o (by decide), setE_o (by decide), key _ (by omega) (by omega) (by omega)]; exact hG.len
  · rw [setE_n (by decide), setE_o (by decide), setE_o (by decide), key _ (by omega) (by omega) (by omega)]; exact hG.han
  · rw [setE_n (by decide), setE_o (by decide), setE_o (by decide), key _ (by omega) (by omega) (by omega)]; exact hG.sc
  · rw [setE_n (by decide), setE_o (by decide), setE_o (by decide), key _ (by omega) (by omega) (by omega)]; exact hG.wc
  · rw [setE_s, up_ss]
  · rw [setE_n (by decide), setE_o (by decide), setE_o (by decide)] at hs
    rw [setE_o (by decide), setE_o (by decide), setE_o (by decide), key _ (by omega) (by omega) (by omega)]; exact hG.nm s hs
  · rw [setE_n (by decide), setE_o (by decide), setE_o (by decide)] at hw
    rw [setE_o (by decide), setE_o (by decide), setE_o (by decide), key _ (by omega) (by omega) (by omega)]; exact hG.who w hw
  · rw [setE_n (by decide), setE_o (by decide), setE_o (by decide)] at hw
    rw [setE_o (by decide), setE_o (by decide), setE_o (by decide), key _ (by omega) (by omega) (by omega)]; exact hG.txt w hw
  · rw [setE_n (by decide), setE_o (by decide), setE_o (by decide)] at hw
    rw [setE_o (by decide), setE_o (by decide), setE_o (by decide), key _ (by omega) (by omega) (by omega)]; exact hG.st w hw
  · rw [setE_n (by decide), setE_o (by decide), setE_o (by decide)] at hw
    rw [setE_o (by decide), setE_o (by decide), setE_o (by decide), key _ (by omega) (by omega) (by omega)]; exact hG.en w hw
  · rw [setE_s] at hw
    rw [setE_o (by decide), setE_o (by decide)]
    by_cases e : w = R 0 10
    · subst e; rw [setE_s, up_sn (by omega), up_sn (by omega), up_ss]
    · rw [setE_n e, key _ (by omega) (by omega) (by omega)]; exact hG.b1 w (by omega)
  · rw [setE_s] at hw
    rw [setE_o (by decide)]
    by_cases e : w = R 0 10
    · subst e; rw [setE_s, up_sn (by omega), up_ss]
    · rw [setE_n e, setE_o (by decide), key _ (by omega) (by omega) (by omega)]; exact hG.b2 w (by omega)
theorem c_addBreath (hC : CR h c R) (h12 : R 0 10 < 12) (a b : Nat) : Wp (f_X4_addBreath h c (nI a) (nI b)) (fun u => CR u c (breR R a b) ∧ ∀ k, ¬ (c ≤ k ∧ k ≤ c + 13) → u k = h k) := by
  unfold f_X4_addBreath
  have e1 : up h (c + 7) (R 0 10) (nI a) c 10 = nI (R 0 10) := by rw [up_o (by omega)]; exact hC.z 10
  have e2 : up (up h (c + 7) (R 0 10) (nI a)) (c + 8) (R 0 10) (nI b) c 10 = nI (R 0 10) := by rw [up_o (by omega)]; exact e1
  rw [hC.z, if_pos (show nI (R 0 10) < 12 from (nI_ltI (b := 12) (by omega) (by omega)).mpr h12), inb_t (by omega) (by omega), ck_true, ix_n (by omega), stp_eq, e1, inb_t (by omega) (by omega), ck_true, ix_n (by omega), stp_eq, e2, show nI (R 0 10) + 1 = nI (R 0 10 + 1) from nI_add _ 1, stp_eq]
  exact wp_some.mpr ⟨((hC.put (o := 7) (by omega)).put (o := 8) (by omega)).put (o := 0) (by omega), fun k hk => by rw [up_o (by omega), up_o (by omega), up_o (by omega)]⟩
end
