/-! four bytes in a number -/
theorem shl8 (n : Nat) : nI n <<< ((8 : Int32) &&& 31) = nI (n * 256) := by
  apply Int32.toBitVec_inj.mp
  show BitVec.ofNat 32 n <<< (8 : Nat) = BitVec.ofNat 32 (n * 256)
  apply BitVec.eq_of_toNat_eq
  rw [BitVec.toNat_shiftLeft, BitVec.toNat_ofNat, BitVec.toNat_ofNat, Nat.shiftLeft_eq, Nat.mod_mul_mod]
theorem or8 {n b : Nat} (hn : n * 256 + b < 4294967296) (hb : b < 256) : nI (n * 256) ||| nI b = nI (n * 256 + b) := by
  apply Int32.toBitVec_inj.mp
  show BitVec.ofNat 32 (n * 256) ||| BitVec.ofNat 32 b = BitVec.ofNat 32 (n * 256 + b)
  apply BitVec.eq_of_toNat_eq
  have e1 : n * 256 % 2 ^ 32 = n * 256 := Nat.mod_eq_of_lt (Nat.lt_of_le_of_lt (Nat.le_add_right _ _) hn)
  have e2 : b % 2 ^ 32 = b := Nat.mod_eq_of_lt (Nat.lt_of_le_of_lt (Nat.le_add_left _ _) hn)
  have e3 : (n * 256 + b) % 2 ^ 32 = n * 256 + b := Nat.mod_eq_of_lt hn
  rw [BitVec.toNat_or, BitVec.toNat_ofNat, BitVec.toNat_ofNat, BitVec.toNat_ofNat, e1, e2, e3]
  have := Nat.two_pow_add_eq_or_of_lt (i := 8) (b := b) hb n
  rw [Nat.mul_comm] at this
  exact this.symm
theorem shr_k {n : Nat} (hn : n < 2147483648) : nI n >>> (nI 24 &&& nI 31) = nI (n / 16777216) ∧ nI n >>> (nI 16 &&& nI 31) = nI (n / 65536) ∧ nI n >>> (nI 8 &&& nI 31) = nI (n / 256) ∧ nI n >>> (nI 0 &&& nI 31) = nI n := by
  have key : ∀ s : Nat, s < 32 → ∀ y : Int32, y.toBitVec = BitVec.ofNat 32 s → nI n >>> y = nI (n / 2 ^ s) := by
    intro s hs y hy
    apply Int32.toBitVec_inj.mp
    have e1 : (nI n >>> y).toBitVec = (BitVec.ofNat 32 n).sshiftRight s := by
      rw [Int32.toBitVec_shiftRight, hy]
      have : (BitVec.smod (BitVec.ofNat 32 s) 32#32).toNat = s := by
        have h1 : ∀ s, s < 32 → (BitVec.smod (BitVec.ofNat 32 s) 32#32).toNat = s := by decide +kernel
        exact h1 s hs
      show (BitVec.ofNat 32 n).sshiftRight' _ = _
      unfold BitVec.sshiftRight'
      exact congrArg (fun q => (BitVec.ofNat 32 n).sshiftRight q) this
    rw [e1]
    show _ = BitVec.ofNat 32 (n / 2 ^ s)
    have hm : (BitVec.ofNat 32 n).msb = false := by
      rw [BitVec.msb_eq_decide]
      simp
      omega
    rw [BitVec.sshiftRight_eq_of_msb_false hm]
    apply BitVec.eq_of_toNat_eq
    rw [BitVec.toNat_ushiftRight, BitVec.toNat_ofNat, BitVec.toNat_ofNat, Nat.shiftRight_eq_div_pow, Nat.mod_eq_of_lt (show n < 2 ^ 32 by omega), Nat.mod_eq_of_lt (Nat.lt_of_le_of_lt (Nat.div_le_self _ _) (show n < 2 ^ 32 by omega))]
  refine ⟨key 24 (by decide) _ (by decide), key 16 (by decide) _ (by decide), key 8 (by decide) _ (by decide), ?_⟩
  have := key 0 (by decide) (nI 0 &&& nI 31) (by decide)
  rw [this, Nat.pow_zero, Nat.div_one]
theorem i2b_m {n c : Nat} (hc : c < 128) (h : n % 256 = c) : i2b (nI n) = nI c := by
  have e : i2b (nI n) = i2b (nI c) := by
    unfold i2b
    congr 1
    apply Int8.toBitVec_inj.mp
    show (BitVec.ofNat 32 n).signExtend 8 = (BitVec.ofNat 32 c).signExtend 8
    rw [BitVec.signExtend_eq_setWidth_of_le _ (by decide), BitVec.signExtend_eq_setWidth_of_le _ (by decide)]
    apply BitVec.eq_of_toNat_eq
    rw [BitVec.toNat_setWidth, BitVec.toNat_setWidth, BitVec.toNat_ofNat, BitVec.toNat_ofNat]
    show n % 4294967296 % 256 = c % 4294967296 % 256
    omega
  rw [e]
  exact i2b_n hc
def wd (a b c d : Nat) : Nat := ((a * 256 + b) * 256 + c) * 256 + d
theorem wd_lt {a b c d : Nat} (ha : a < 128) (hb : b < 128) (hc : c < 128) (hd : d < 128) : wd a b c d < 2147483648 := by unfold wd; omega
theorem bB_wd {a b c d : Nat} (ha : a < 128) (hb : b < 128) (hc : c < 128) (hd : d < 128) : bB (nI (wd a b c d)) 0 = nI a ∧ bB (nI (wd a b c d)) 1 = nI b ∧ bB (nI (wd a b c d)) 2 = nI c ∧ bB (nI (wd a b c d)) 3 = nI d := by
  obtain ⟨s1, s2, s3, s4⟩ := shr_k (wd_lt ha hb hc hd)
  refine ⟨?_, ?_, ?_, ?_⟩
  · show i2b (i2b (nI (wd a b c d) >>> (nI 24 &&& nI 31))) = _
    rw [s1, i2b_m ha (by unfold wd; omega), i2b_n ha]
  · show i2b (i2b (nI (wd a b c d) >>> (nI 16 &&& nI 31))) = _
    rw [s2, i2b_m hb (by unfold wd; omega), i2b_n hb]
  · show i2b (i2b (nI (wd a b c d) >>> (nI 8 &&& nI 31))) = _
    rw [s3, i2b_m hc (by unfold wd; omega), i2b_n hc]
  · show i2b (i2b (nI (wd a b c d) >>> (nI 0 &&& nI 31))) = _
    rw [s4, i2b_m hd (by unfold wd; omega), i2b_n hd]
