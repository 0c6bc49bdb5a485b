/-! the answers of a pure run, and its loops -/
def Wp {α : Type} (x : Option α) (Q : α → Prop) : Prop := ∃ a, x = some a ∧ Q a
theorem wp_some {α : Type} {a : α} {Q : α → Prop} : Wp (some a) Q ↔ Q a := ⟨fun ⟨b, h, q⟩ => by cases h; exact q, fun q => ⟨a, rfl, q⟩⟩
theorem ck_true {α : Type} {x : Option α} : ck true x = x := Eq.trans rfl rfl
theorem stp_eq {α β : Type} (v : α) (k : α → β) : stp v k = k v := Eq.trans rfl rfl
theorem bnd_some {α β : Type} (a : α) (k : α → Option β) : bnd (some a) k = k a := Eq.trans rfl rfl
theorem wp_ck {α : Type} {b : Bool} {x : Option α} {Q : α → Prop} : Wp (ck b x) Q ↔ b = true ∧ Wp x Q := by
  cases b with
  | true => exact ⟨fun h => ⟨rfl, h⟩, fun h => h.2⟩
  | false => exact ⟨fun ⟨a, h, _⟩ => (by cases h), fun h => absurd h.1 (by decide)⟩
theorem wp_stp {α β : Type} {v : α} {k : α → Option β} {Q : β → Prop} : Wp (stp v k) Q ↔ Wp (k v) Q := ⟨fun h => h, fun h => h⟩
theorem wp_bnd {α β : Type} {x : Option α} {k : α → Option β} {Q : β → Prop} : Wp (bnd x k) Q ↔ Wp x (fun a => Wp (k a) Q) := by
  cases x with
  | none => exact ⟨fun ⟨a, h, _⟩ => (by cases h), fun ⟨a, h, _⟩ => (by cases h)⟩
  | some a => exact ⟨fun h => ⟨a, rfl, h⟩, fun ⟨b, h, q⟩ => by cases h; exact q⟩
theorem wp_ite {α : Type} {c : Prop} [Decidable c] {x y : Option α} {Q : α → Prop} : Wp (if c then x else y) Q ↔ (c → Wp x Q) ∧ (¬ c → Wp y Q) := by
  by_cases h : c
  · rw [if_pos h]; exact ⟨fun q => ⟨fun _ => q, fun n => absurd h n⟩, fun q => q.1 h⟩
  · rw [if_neg h]; exact ⟨fun q => ⟨fun n => absurd n h, fun _ => q⟩, fun q => q.2 h⟩
theorem Wp.mono {α : Type} {x : Option α} {P Q : α → Prop} (h : Wp x P) (k : ∀ a, P a → Q a) : Wp x Q := by
  obtain ⟨a, e, p⟩ := h
  exact ⟨a, e, k a p⟩
theorem wp_eq {α : Type} {x : Option α} {v : α} : Wp x (fun a => a = v) ↔ x = some v := ⟨fun ⟨a, e, p⟩ => by rw [e, p], fun e => ⟨v, e, rfl⟩⟩
theorem wp_bnd_of {α β : Type} {x : Option α} {k : α → Option β} {P : α → Prop} {Q : β → Prop} (h : Wp x P) (kk : ∀ a, P a → Wp (k a) Q) : Wp (bnd x k) Q := wp_bnd.mpr (h.mono kk)
/-- a loop whose measure falls -/
theorem wp_loop {σ ρ : Type} {F : (σ → Option ρ) → σ → Option ρ} {Q : ρ → Prop} (I : Nat → σ → Prop) (hs : ∀ μ s r, I μ s → (∀ μ' s', μ' < μ → I μ' s' → Wp (r s') Q) → Wp (F r s) Q) : ∀ n μ s, μ < n → I μ s → Wp (Lp F n s) Q := by
  intro n
  induction n with
  | zero => intro μ s h; exact absurd h (Nat.not_lt_zero _)
  | succ n ih =>
    intro μ s h hi
    exact hs μ s (Lp F n) hi (fun μ' s' hm hi' => ih μ' s' (by omega) hi')
/-- a loop that counts up to N -/
theorem wp_for {σ ρ : Type} {F : (σ → Option ρ) → σ → Option ρ} {Q : ρ → Prop} (N : Nat) (I : Nat → σ → Prop) {i : Nat} {s : σ} (hN : N < 4000000000) (hi : i ≤ N) (h0 : I i s) (hs : ∀ i s r, i ≤ N → I i s → (∀ s', i < N → I (i + 1) s' → Wp (r s') Q) → Wp (F r s) Q) : Wp (Lp F FU s) Q := by
  refine wp_loop (fun μ s => ∃ i, i ≤ N ∧ μ = N - i ∧ I i s) ?_ FU (N - i) s (by unfold FU; omega) ⟨i, hi, rfl, h0⟩
  rintro μ s r ⟨i, h1, h2, h3⟩ k
  exact hs i s r h1 h3 (fun s' hl h4 => k (N - (i + 1)) s' (by omega) ⟨i + 1, by omega, rfl, h4⟩)
/-! numbers -/
theorem li (n : Nat) : (OfNat.ofNat n : Int32) = nI n := Eq.trans rfl rfl
theorem ix_n {a : Nat} (h : a < 2147483648) : ix (nI a) = a := nI_clamp h
theorem lt_n {a b : Nat} (ha : a < 2147483648) (hb : b < 2147483648) : (nI a < nI b) = (a < b) := propext (nI_ltI ha hb)
theorem le_n {a b : Nat} (ha : a < 2147483648) (hb : b < 2147483648) : (nI a ≤ nI b) = (a ≤ b) := propext (nI_leI ha hb)
theorem eq_n {a b : Nat} (ha : a < 2147483648) (hb : b < 2147483648) : (nI a = nI b) = (a = b) := propext (nI_eq ha hb)
theorem sub_n {a b : Nat} (h : b ≤ a) : nI a - nI b = nI (a - b) := pk_sub h
theorem dec_n {a b : Nat} (h : b ≤ a) : nI a + -nI b = nI (a - b) := by
  rw [← pk_sub h, Int32.sub_eq_add_neg]
theorem inb_n {a n : Nat} (ha : a < 2147483648) : inb (nI a) n = decide (a < n) := by
  unfold inb
  have h1 : (0 : Int32) ≤ nI a := nI_pos' ha
  rw [ix_n ha, decide_eq_true h1, Bool.true_and]
theorem inb_t {a n : Nat} (h : a < n) (ha : a < 2147483648) : inb (nI a) n = true := by
  rw [inb_n ha, decide_eq_true h]
theorem neg_n {a : Nat} (h : a < 2147483648) : (nI a = -nI 1) = False := by
  refine eq_false (fun q => ?_)
  have h1 := congrArg Int32.toInt q
  rw [nI_toInt h] at h1
  have : (-nI 1).toInt = -1 := by decide
  omega
theorem neg_n' {a : Nat} (h : a < 2147483648) : (-nI 1 = nI a) = False := eq_false (fun q => by rw [← neg_n h]; exact q.symm)
theorem wp_if {α : Type} {c : Prop} {x y : Option α} {Q : α → Prop} {d : Decidable c} (h1 : c → Wp x Q) (h2 : ¬ c → Wp y Q) : Wp (@ite _ c d x y) Q := wp_ite.mpr ⟨h1, h2⟩
theorem up_o {h : Hp} {k a : Nat} {j : Nat} {v : Int32} (hn : ¬ a = k) : up h k j v a = h a := if_neg hn
theorem up_ss {h : Hp} {k j : Nat} {v : Int32} : up h k j v k j = v := by
  rw [up_eq]
  exact if_pos rfl
theorem up_sn {h : Hp} {k j b : Nat} {v : Int32} (hn : ¬ b = j) : up h k j v k b = h k b := by
  rw [up_eq]
  exact if_neg hn
theorem ckp_of {α : Type} {v : Int32} {kd c : Nat} {K : Nat → Option α} (hv : v = nI c) (hk : knd c = kd) (hc : c < 2147483648) : ckp v kd K = K c := by
  unfold ckp
  rw [hv, ix_n hc, if_pos hk]
theorem zb_n1 {a : Nat} (h : a ≤ 1) : zb (nI a) = true := by
  rcases Nat.le_one_iff_eq_zero_or_eq_one.mp h with rfl | rfl <;> decide
