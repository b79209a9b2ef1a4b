/-! round: what a place behind can't wake any more; the last place; a set's parts in falling order -/
/-- what sounds wake: near lamps, the same at every near place -/
def WOk (W : Nat → Nat → Nat) (pl : Nat → Int) (lo : Int) (n : Nat) : Prop := (∀ p t, W p t < 2 ^ n) ∧ (∀ (p t l : Nat), l < n → (W p t).testBit l = true → (((p : Int) - pl l).natAbs : Int) < lo) ∧ (∀ (p q t l : Nat), l < n → (W q t).testBit l = true → (((p : Int) - pl l).natAbs : Int) < lo → (W p t).testBit l = true)
theorem all_bit {n l : Nat} (h : l < n) : (2 ^ n - 1).testBit l = true := by
  rw [Nat.testBit_two_pow_sub_one]; exact decide_eq_true h
theorem sub_all {n S : Nat} (h : S < 2 ^ n) : sub S (2 ^ n - 1) := sub_iff.mpr (fun i hi => by
  refine all_bit (Nat.lt_of_not_le (fun hle => ?_))
  rw [Nat.testBit_lt_two_pow (Nat.lt_of_lt_of_le h (Nat.pow_le_pow_right (by decide) hle))] at hi
  cases hi)
theorem fw_beh {W : Nat → Nat → Nat} {pl : Nat → Int} {lo : Int} {n p l b : Nat} (hW : WOk W pl lo n) (hl : l < n) (hb : lo ≤ (p : Int) - pl l) : ∀ k q S, p ≤ q → S.testBit l = false → ¬ FP W (2 ^ n - 1) b k q S
  | 0, q, S, _, hS, h => by rw [h.1, all_bit hl] at hS; cases hS
  | k + 1, q, S, hq, hS, h => by
    rcases h with h | ⟨nt, h1, h2⟩ | ⟨h1, h2⟩
    · rw [h.1, all_bit hl] at hS; cases hS
    · refine fw_beh hW hl hb k q _ hq ?_ h2
      rw [Nat.testBit_or, hS, Bool.false_or]
      cases hw : (W q nt).testBit l with
      | false => rfl
      | true => have := hW.2.1 q nt l hl hw; omega
    · exact fw_beh hW hl hb k (q + 1) S (by omega) hS h2
theorem fw_last {W : Nat → Nat → Nat} {pl : Nat → Int} {lo : Int} {n L : Nat} (hW : WOk W pl lo n) (hL : ∀ l, l < n → pl l - (L : Int) < lo) : ∀ k q S, L ≤ q → S < 2 ^ n → FP W (2 ^ n - 1) 0 k q S → FP W (2 ^ n - 1) 0 k L S
  | 0, q, S, _, _, h => ⟨h.1, Nat.zero_le _⟩
  | k + 1, q, S, hq, hS, h => by
    rcases h with h | ⟨nt, h1, h2⟩ | ⟨h1, h2⟩
    · exact Or.inl ⟨h.1, Nat.zero_le _⟩
    · have h3 := fw_last hW hL k q _ hq (Nat.or_lt_two_pow hS (hW.1 q nt)) h2
      refine Or.inr (Or.inl ⟨nt, h1, ?_⟩)
      refine fp_mono (fun p t => sub_all (hW.1 p t)) k L _ _ ?_ (sub_all (Nat.or_lt_two_pow hS (hW.1 L nt))) h3
      refine sub_iff.mpr (fun i hi => ?_)
      rw [Nat.testBit_or] at hi ⊢
      rcases Bool.or_eq_true_iff.mp hi with z | z
      · rw [z]; rfl
      · have hin : i < n := Nat.lt_of_not_le (fun hle => by
          rw [Nat.testBit_lt_two_pow (Nat.lt_of_lt_of_le (hW.1 q nt) (Nat.pow_le_pow_right (by decide) hle))] at z; cases z)
        have a1 := hW.2.1 q nt i hin z
        have a2 := hL i hin
        rw [hW.2.2 L q nt i hin z (by omega), Bool.or_true]
    · exact fp_up _ _ _ (fw_last hW hL k (q + 1) S (by omega) hS h2)
/-- the next part of a set, falling: none lies between -/
theorem part_next {c c' near : Nat} (hc : sub c near) (hc' : sub c' near) (hlt : c' < c) : c' ≤ (c - 1) &&& near ∧ (c - 1) &&& near < c ∧ sub ((c - 1) &&& near) near := by
  refine ⟨?_, ?_, ?_⟩
  · -- the highest place where they are not the same: c has it, c' doesn't
    have key : sub (c' &&& (c - 1)) ((c - 1) &&& near) := sub_iff.mpr (fun i hi => by
      rw [Nat.testBit_and] at hi ⊢
      obtain ⟨h1, h2⟩ := Bool.and_eq_true_iff.mp hi
      rw [h2, sub_iff.mp hc' i h1]; rfl)
    refine Nat.le_of_not_lt (fun hgt => ?_)
    obtain ⟨b, hb1, hb2⟩ : ∃ b, c.testBit b = true ∧ c % 2 ^ b = 0 := by
      have hpos : 0 < c := by omega
      clear hgt key hlt hc hc'
      induction c using Nat.strongRecOn with
      | _ c ih =>
        by_cases hodd : c % 2 = 1
        · exact ⟨0, by rw [Nat.testBit_zero]; exact decide_eq_true hodd, by rw [Nat.pow_zero]; exact Nat.mod_one c⟩
        · obtain ⟨b, h1, h2⟩ := ih (c / 2) (by omega) (by omega)
          refine ⟨b + 1, by rw [Nat.testBit_succ]; exact h1, ?_⟩
          have e : c = 2 * (c / 2) := by omega
          rw [e, Nat.pow_succ, Nat.mul_comm (2 ^ b) 2, Nat.mul_mod_mul_left, h2]
    -- c = h * 2 ^ (b + 1) + 2 ^ b
    have hb3 : c / 2 ^ b % 2 = 1 := by
      have := hb1
      rw [Nat.testBit_eq_decide_div_mod_eq] at this
      exact of_decide_eq_true this
    have hp := Nat.two_pow_pos b
    have hcd : 2 ^ b * (c / 2 ^ b) = c := by
      have := Nat.div_add_mod c (2 ^ b)
      omega
    obtain ⟨h, hh⟩ : ∃ h, c / 2 ^ b = 2 * h + 1 := ⟨c / 2 ^ b / 2, by omega⟩
    have hce : c = 2 ^ (b + 1) * h + 2 ^ b := by
      rw [← hcd, hh, Nat.pow_succ, Nat.mul_add, Nat.mul_one, ← Nat.mul_assoc]
    have hbit1 : ∀ i, b < i → (c - 1).testBit i = c.testBit i := fun i hi => by
      have e1 : c - 1 = 2 ^ (b + 1) * h + (2 ^ b - 1) := by omega
      have hp2 : 2 ^ (b + 1) = 2 * 2 ^ b := by rw [Nat.pow_succ, Nat.mul_comm]
      rw [e1, hce, Nat.testBit_two_pow_mul_add _ (by omega), Nat.testBit_two_pow_mul_add _ (by omega), if_neg (by omega), if_neg (by omega)]
    have hbit2 : ∀ i, i < b → (c - 1).testBit i = true := fun i hi => by
      have e1 : c - 1 = 2 ^ (b + 1) * h + (2 ^ b - 1) := by omega
      have hp2 : 2 ^ (b + 1) = 2 * 2 ^ b := by rw [Nat.pow_succ, Nat.mul_comm]
      rw [e1, Nat.testBit_two_pow_mul_add _ (by omega), if_pos (by omega), Nat.testBit_two_pow_sub_one]
      exact decide_eq_true hi
    -- the part of c' from b + 1 on
    have hd1 : c' / 2 ^ (b + 1) ≤ h := by
      have : c' / 2 ^ (b + 1) ≤ c / 2 ^ (b + 1) := Nat.div_le_div_right (by omega)
      have hp2 : 2 ^ (b + 1) = 2 * 2 ^ b := by rw [Nat.pow_succ, Nat.mul_comm]
      have e2 : c / 2 ^ (b + 1) = h := by
        rw [hce, Nat.mul_add_div (by omega), Nat.div_eq_of_lt (by omega), Nat.add_zero]
      omega
    generalize hz : (c - 1) &&& near = z at key hgt
    have hzge : 2 ^ (b + 1) * h ≤ z := by
      have hs : sub (2 ^ (b + 1) * h) z := sub_iff.mpr (fun i hi => by
        rw [Nat.testBit_two_pow_mul] at hi
        obtain ⟨h1, h2⟩ := Bool.and_eq_true_iff.mp hi
        have h1 := of_decide_eq_true h1
        have hp2 : 2 ^ (b + 1) = 2 * 2 ^ b := by rw [Nat.pow_succ, Nat.mul_comm]
        have hci : c.testBit i = true := by
          rw [hce, Nat.testBit_two_pow_mul_add _ (by omega), if_neg (by omega)]; exact h2
        rw [← hz, Nat.testBit_and, hbit1 i (by omega), hci, sub_iff.mp hc i hci]; rfl)
      exact sub_le hs
    by_cases hd2 : c' / 2 ^ (b + 1) < h
    · have hp2 := Nat.two_pow_pos (b + 1)
      have := Nat.div_add_mod c' (2 ^ (b + 1))
      have hm := Nat.mod_lt c' hp2
      have hmul : 2 ^ (b + 1) * (c' / 2 ^ (b + 1) + 1) ≤ 2 ^ (b + 1) * h := Nat.mul_le_mul_left _ (by omega)
      rw [Nat.mul_add, Nat.mul_one] at hmul
      omega
    · -- the same above b: then c' lies within c - 1
      have hs : sub c' (c - 1) := sub_iff.mpr (fun i hi => by
        by_cases h1 : i < b
        · exact hbit2 i h1
        · by_cases h2 : i = b
          · subst h2
            -- then c' would be no less than c
            have hp2 := Nat.two_pow_pos (i + 1)
            have hp3 : 2 ^ (i + 1) = 2 * 2 ^ i := by rw [Nat.pow_succ, Nat.mul_comm]
            have e3 : c' / 2 ^ (i + 1) = h := by omega
            have := Nat.div_add_mod c' (2 ^ (i + 1))
            rw [e3] at this
            have hbm : (c' % 2 ^ (i + 1)).testBit i = true := by
              rw [Nat.testBit_mod_two_pow, hi, decide_eq_true (show i < i + 1 by omega)]; rfl
            have := Nat.ge_two_pow_of_testBit hbm
            omega
          · rw [hbit1 i (by omega)]
            have hp2 := Nat.two_pow_pos (b + 1)
            have hp3 : 2 ^ (b + 1) = 2 * 2 ^ b := by rw [Nat.pow_succ, Nat.mul_comm]
            have e3 : c' / 2 ^ (b + 1) = h := by omega
            have e4 : c' = 2 ^ (b + 1) * h + c' % 2 ^ (b + 1) := by
              have := Nat.div_add_mod c' (2 ^ (b + 1))
              rw [e3] at this; omega
            rw [e4, Nat.testBit_two_pow_mul_add _ (Nat.mod_lt _ hp2), if_neg (by omega)] at hi
            rw [hce, Nat.testBit_two_pow_mul_add _ (by omega), if_neg (by omega)]
            exact hi)
      have hs2 : sub c' z := by
        rw [← hz]
        exact sub_iff.mpr (fun i hi => by rw [Nat.testBit_and, sub_iff.mp hs i hi, sub_iff.mp hc' i hi]; rfl)
      have := sub_le hs2
      omega
  · have : (c - 1) &&& near ≤ c - 1 := Nat.and_le_left
    omega
  · exact sub_iff.mpr (fun i hi => by rw [Nat.testBit_and] at hi; exact (Bool.and_eq_true_iff.mp hi).2)
