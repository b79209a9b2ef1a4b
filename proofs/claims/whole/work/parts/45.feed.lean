/-! feed: bytes out of a long -/
theorem bv_byt (x : BitVec 64) (s : Nat) (hs : s ≤ 56) : (x >>> s).signExtend 32 &&& 255#32 = ((x.sshiftRight s) &&& 255#64).signExtend 32 := by
  apply BitVec.eq_of_getLsbD_eq
  intro i hi
  have h255 : ∀ i, i < 32 → (255#32).getLsbD i = decide (i < 8) := by decide
  have h255' : ∀ i, i < 64 → (255#64).getLsbD i = decide (i < 8) := by decide
  rw [BitVec.getLsbD_and, BitVec.getLsbD_signExtend, BitVec.getLsbD_signExtend, BitVec.getLsbD_and, h255 i hi, h255' i (by omega), BitVec.getLsbD_ushiftRight, BitVec.getLsbD_sshiftRight]
  by_cases h8 : i < 8
  · have a1 : i < 64 := by omega
    have a2 : s + i < 64 := by omega
    have a3 : ¬ 64 ≤ i := by omega
    simp [h8, hi, a1, a2, a3]
  · have a1 : i < 64 := by omega
    simp [h8, a1]
def bf (v : Int64) (j : Nat) : Int32 := (((v.toUInt64 >>> ((8 * nI j).toInt64.toUInt64 &&& Int64.toUInt64 63)).toInt64).toInt32) &&& 255
theorem bf_m (v : Int64) {j : Nat} (hj : j < 8) : ((v >>> ((8 * nI j).toInt64 &&& 63)) &&& 255).toInt32 = bf v j := by
  have : j = 0 ∨ j = 1 ∨ j = 2 ∨ j = 3 ∨ j = 4 ∨ j = 5 ∨ j = 6 ∨ j = 7 := by omega
  rcases this with rfl | rfl | rfl | rfl | rfl | rfl | rfl | rfl
  · refine Int32.toBitVec_inj.1 ?_
    exact (bv_byt v.toBitVec 0 (by omega)).symm
  · refine Int32.toBitVec_inj.1 ?_
    exact (bv_byt v.toBitVec 8 (by omega)).symm
  · refine Int32.toBitVec_inj.1 ?_
    exact (bv_byt v.toBitVec 16 (by omega)).symm
  · refine Int32.toBitVec_inj.1 ?_
    exact (bv_byt v.toBitVec 24 (by omega)).symm
  · refine Int32.toBitVec_inj.1 ?_
    exact (bv_byt v.toBitVec 32 (by omega)).symm
  · refine Int32.toBitVec_inj.1 ?_
    exact (bv_byt v.toBitVec 40 (by omega)).symm
  · refine Int32.toBitVec_inj.1 ?_
    exact (bv_byt v.toBitVec 48 (by omega)).symm
  · refine Int32.toBitVec_inj.1 ?_
    exact (bv_byt v.toBitVec 56 (by omega)).symm
theorem and255 (x : Int32) : rg (x &&& 255) 0 255 := by
  have h1 : (x &&& 255).toBitVec.toNat ≤ 255 := by
    show (x.toBitVec &&& 255#32).toNat ≤ 255
    rw [BitVec.toNat_and]
    exact Nat.and_le_right
  have h2 : (x &&& 255).toInt = ((x &&& 255).toBitVec.toNat : Int) := by
    show (x &&& 255).toBitVec.toInt = _
    rw [BitVec.toInt_eq_toNat_of_lt (by omega)]
  unfold rg
  rw [h2]
  omega
theorem bf_rg (v : Int64) (j : Nat) : rg (bf v j) 0 255 := and255 _
theorem nI_m1 (j : Nat) : nI (j + 1) + (-1) = nI j := by
  rw [← nI_1 j, Int32.add_assoc]
  show nI j + 0 = nI j
  exact Int32.add_zero _
