/-! drawn numbers -/
theorem and_le (y : Int32) : ∃ m, m ≤ 32767 ∧ y &&& 32767 = nI m := by
  refine ⟨(y &&& 32767).toBitVec.toNat, ?_, ?_⟩
  · rw [Int32.toBitVec_and, BitVec.toNat_and]
    exact Nat.le_trans Nat.and_le_right (by decide)
  · apply Int32.toBitVec_inj.mp
    show (y &&& 32767).toBitVec = BitVec.ofNat 32 (y &&& 32767).toBitVec.toNat
    rw [BitVec.ofNat_toNat, BitVec.setWidth_eq]
theorem dr_next {g : PL} (hg : 0 < g.1) (hk : (g.2.1 0).1 = 1) {n : Nat} (h0 : 0 < n) (hn : n < 100000) : ∃ r s, fp_X12_next g 0 (nI n) = some (nI r, gu g 0 0 s) ∧ r < n := by
  have k := gk_i hg hk
  have k1 : gk (gu g 0 0 (g.2.2 0 0 * (1103515245 : Int32) + (12345 : Int32))) 0 1 = true := k
  obtain ⟨m, hm, e⟩ := and_le (iushr (g.2.2 0 0 * (1103515245 : Int32) + (12345 : Int32)) 16)
  unfold fp_X12_next
  rw [ck_of k, ck_of k, stp_eq, ck_of k1, ck_of (decide_eq_true (show ¬ nI n = (0 : Int32) from eqo (b := 0) (by omega) (by omega) (by omega))), gu_h, up_ss, e, irem_n (by omega) h0 (by omega)]
  exact ⟨_, _, rfl, Nat.mod_lt _ h0⟩
