/-! small methods -/
theorem jz0 : jz 0 := Or.inl rfl
theorem jz1 : jz 1 := Or.inr rfl
theorem in_eq (x y z : Int64) : f_X11_in x y z = some (if y.toInt ≤ x.toInt ∧ x.toInt ≤ z.toInt then 1 else 0) := by
  unfold f_X11_in
  by_cases h1 : x < y
  · rw [if_pos ((lg_cmp_lt x y).mpr h1), if_neg]
    intro h; have := Int64.lt_iff_toInt_lt.mp h1; omega
  · rw [if_neg (fun h => h1 ((lg_cmp_lt x y).mp h))]
    have h1' := mt Int64.lt_iff_toInt_lt.mpr h1
    by_cases h2 : z < x
    · rw [if_pos ((lg_cmp_gt x z).mpr h2), if_neg]
      intro h; have := Int64.lt_iff_toInt_lt.mp h2; omega
    · rw [if_neg (fun h => h2 ((lg_cmp_gt x z).mp h)), if_pos]
      have h2' := mt Int64.lt_iff_toInt_lt.mpr h2
      exact ⟨by omega, by omega⟩
theorem in_yes {x y z : Int64} (h1 : y.toInt ≤ x.toInt) (h2 : x.toInt ≤ z.toInt) : f_X11_in x y z = some 1 := by rw [in_eq, if_pos ⟨h1, h2⟩]
theorem in_no {x y z : Int64} (h : ¬ (y.toInt ≤ x.toInt ∧ x.toInt ≤ z.toInt)) : f_X11_in x y z = some 0 := by rw [in_eq, if_neg h]
theorem within_eq (x y z : Int32) : f_X10_isWithin x y z = some (if y.toInt ≤ x.toInt ∧ x.toInt ≤ z.toInt then 1 else 0) := by
  unfold f_X10_isWithin
  by_cases h1 : x < y
  · rw [if_pos h1, if_neg]
    intro h; have := Int32.lt_iff_toInt_lt.mp h1; omega
  · rw [if_neg h1]
    have h1' := mt Int32.lt_iff_toInt_lt.mpr h1
    by_cases h2 : z < x
    · rw [if_pos h2, if_neg]
      intro h; have := Int32.lt_iff_toInt_lt.mp h2; omega
    · rw [if_neg h2, if_pos]
      have h2' := mt Int32.lt_iff_toInt_lt.mpr h2
      exact ⟨by omega, by omega⟩
theorem within_yes {x y z : Int32} (h1 : y.toInt ≤ x.toInt) (h2 : x.toInt ≤ z.toInt) : f_X10_isWithin x y z = some 1 := by rw [within_eq, if_pos ⟨h1, h2⟩]
theorem within_no {x y z : Int32} (h : ¬ (y.toInt ≤ x.toInt ∧ x.toInt ≤ z.toInt)) : f_X10_isWithin x y z = some 0 := by rw [within_eq, if_neg h]
theorem ti64 (x : Int32) : x.toInt64.toInt = x.toInt := Int32.toInt_toInt64 x
/-- a number is one of the first n, or it isn't -/
theorem nI_iff {a : Int32} {n : Nat} (hn : n < 2147483648) : (∃ l, l < n ∧ a = nI l) ↔ (0 ≤ a.toInt ∧ a.toInt < n) := by
  constructor
  · rintro ⟨l, hl, rfl⟩
    rw [nI_ti (by omega)]; omega
  · rintro ⟨h1, h2⟩
    obtain ⟨j, hj, rfl⟩ := rg_nI (x := a) (hi := n) ⟨h1, by omega⟩
    rw [nI_ti (by omega)] at h2
    exact ⟨j, by omega, rfl⟩
theorem nI_sub1 {n : Nat} (hn : n ≤ 1000) : (nI n - 1).toInt = (n : Int) - 1 := by
  rw [Int32.toInt_sub, nI_ti (by omega : n < 2147483648)]
  show ((n : Int) - 1).bmod (2 ^ 32) = _
  rw [Int.bmod_eq_of_le] <;> omega
theorem xl_yes {σ : jS} {n l : Nat} (h : g_i σ 32 1 = nI n) (hn : n ≤ 10) (hl : l < n) : f_X10_isLamp nmX (nI l) σ = some 1 := by
  unfold f_X10_isLamp
  rw [if_neg (nI_neg0 (by omega))]
  show (if g_i σ 32 1 ≤ nI l then some 0 else some 1) = some 1
  rw [h, if_neg]
  rw [nI_le' (by omega) (by omega)]; omega
theorem xl_no {σ : jS} {n : Nat} {a : Int32} (h : g_i σ 32 1 = nI n) (hn : n ≤ 10) (ha : ¬ ∃ l, l < n ∧ a = nI l) : f_X10_isLamp nmX a σ = some 0 := by
  rw [nI_iff (by omega)] at ha
  unfold f_X10_isLamp
  by_cases h0 : a < 0
  · rw [if_pos h0]
  · rw [if_neg h0]
    show (if g_i σ 32 1 ≤ a then some 0 else some 1) = some 0
    have h0' := mt Int32.lt_iff_toInt_lt.mpr h0
    have h0' : ¬ a.toInt < 0 := h0'
    rw [h, if_pos]
    rw [Int32.le_iff_toInt_le, nI_ti (by omega)]; omega
theorem ml_yes {σ : jS} {n l : Nat} (h : g_i σ 101 0 = nI n) (hn : n ≤ 10) (hl : l < n) : f_X11_isLamp nmM (nI l) σ = some 1 := by
  unfold f_X11_isLamp
  show (f_X11_in (nI l).toInt64 0 (g_i σ 101 0 - 1).toInt64).bind _ = _
  rw [h, in_yes]
  · show gd (jz 1) (some 1) = some 1
    exact gd_t jz1
  · rw [ti64, nI_ti (by omega)]; show (0 : Int) ≤ l; omega
  · rw [ti64, ti64, nI_ti (by omega), nI_sub1 (by omega)]; omega
theorem ml_no {σ : jS} {n : Nat} {a : Int32} (h : g_i σ 101 0 = nI n) (hn : n ≤ 10) (ha : ¬ ∃ l, l < n ∧ a = nI l) : f_X11_isLamp nmM a σ = some 0 := by
  rw [nI_iff (by omega)] at ha
  unfold f_X11_isLamp
  show (f_X11_in a.toInt64 0 (g_i σ 101 0 - 1).toInt64).bind _ = _
  rw [h, in_no]
  · show gd (jz 0) (some 0) = some 0
    exact gd_t jz0
  · rw [ti64, ti64, nI_sub1 (by omega)]
    show ¬ ((0 : Int) ≤ a.toInt ∧ a.toInt ≤ (n : Int) - 1)
    omega
/-! rows -/
theorem row_at {nm : Nat → Nat} {σ : jS} {n N k : Nat} (h : g_i σ (nm 0) 1 = nI n) (hn : n ≤ N) (hN : N < 2147483648) (hk : k < 2147483648) : f_X4_at nm N (nI k) σ = some (if k < n then g_i σ (nm 1) k else 0) := by
  unfold f_X4_at
  rw [if_neg (nI_neg0 hk), h]
  by_cases hc : k < n
  · rw [if_neg (by rw [nI_le' (by omega) hk]; omega), if_pos hc, gd_t (nI_in' (by omega) hN), nI_cl hk]
  · rw [if_pos (by rw [nI_le' (by omega) hk]; omega), if_neg hc]
theorem row_atI {nm : Nat → Nat} {σ : jS} {n N k : Nat} (h : g_i σ (nm 0) 1 = nI n) (hn : n ≤ N) (hN : N < 2147483648) (hk : k < n) : f_X4_at nm N (nI k) σ = some (g_i σ (nm 1) k) := by
  rw [row_at h hn hN (by omega), if_pos hk]
theorem row_put {nm : Nat → Nat} {σ : jS} {n N : Nat} {v : Int32} (hne : nm 0 ≠ nm 1) (h : g_i σ (nm 0) 1 = nI n) (hn : n < N) (hN : N < 2147483648) : f_X4_put nm N v σ = some (s_i (s_i σ (nm 1) n v) (nm 0) 1 (nI (n + 1))) := by
  unfold f_X4_put
  rw [h, if_neg (by rw [nI_le' (by omega) (by omega)]; omega), gd_t (nI_in' hn hN), nI_cl (by omega)]
  show some (s_i (s_i σ (nm 1) n v) (nm 0) 1 (g_i (s_i σ (nm 1) n v) (nm 0) 1 + 1)) = _
  rw [s_i_a hne, h, nI_1]
theorem row_full {nm : Nat → Nat} {σ : jS} {n N : Nat} (h : g_i σ (nm 0) 1 = nI n) (hn : n ≤ N) (hN : N < 2147483648) : f_X4_isFull nm N σ = some (if n < N then 0 else 1) := by
  unfold f_X4_isFull
  rw [h]
  by_cases hc : n < N
  · rw [if_pos ((nI_lt' (by omega) hN).mpr hc), if_pos hc]
  · rw [if_neg (fun z => hc ((nI_lt' (by omega) hN).mp z)), if_neg hc]
/-- the first place of v among n values -/
def fst_at (g : Nat → Int32) (v : Int32) (n : Nat) (r : Int32) : Prop := (∃ k, k < n ∧ g k = v ∧ (∀ j, j < k → g j ≠ v) ∧ r = nI k) ∨ ((∀ j, j < n → g j ≠ v) ∧ r = -1)
theorem fst_at_one {g : Nat → Int32} {v : Int32} {n : Nat} {r s : Int32} (h1 : fst_at g v n r) (h2 : fst_at g v n s) : r = s := by
  rcases h1 with ⟨k, hk, e1, m1, rfl⟩ | ⟨m1, rfl⟩ <;> rcases h2 with ⟨j, hj, e2, m2, rfl⟩ | ⟨m2, rfl⟩
  · have : k = j := by
      rcases Nat.lt_trichotomy k j with h | h | h
      · exact absurd e1 (m2 k h)
      · exact h
      · exact absurd e2 (m1 j h)
    rw [this]
  · exact absurd e1 (m2 k hk)
  · exact absurd e2 (m1 j hj)
  · rfl
theorem row_ix {nm : Nat → Nat} {σ : jS} {n N : Nat} {v : Int32} (h : g_i σ (nm 0) 1 = nI n) (hn : n ≤ N) (hN : N < 100000) : wp (f_X4_indexOf nm N v σ) (fst_at (g_i σ (nm 1)) v n) := by
  unfold f_X4_indexOf
  refine wp_bind ?_
  refine wp_up n (fun i s => s = nI i ∧ ∀ j, j < i → g_i σ (nm 1) j ≠ v) (i := 0) (by omega) (by omega) ⟨rfl, fun j hj => absurd hj (Nat.not_lt_zero j)⟩ ?_
  rintro i s hi ⟨rfl, hm⟩
  unfold f_X4_indexOf_L2
  rw [h]
  refine wp_ite (fun hc => ?_) (fun hc => ?_)
  · rw [nI_le' (by omega) (by omega)] at hc
    exact wp_some (wp_some (Or.inr ⟨fun j hj => hm j (by omega), rfl⟩))
  · rw [nI_le' (by omega) (by omega)] at hc
    refine wp_gd (nI_in' (by omega) (by omega)) ?_
    rw [nI_cl (by omega)]
    refine wp_ite (fun he => ?_) (fun he => ?_)
    · exact wp_some (wp_some (Or.inl ⟨i, by omega, he, hm, rfl⟩))
    · refine wp_some ⟨by omega, nI_1 i, fun j hj => ?_⟩
      by_cases hj2 : j = i
      · rw [hj2]; exact he
      · exact hm j (by omega)
/-! sets of lamps -/
theorem all_eq : ∀ n, n ≤ 10 → ((1 : Int32) <<< (nI n &&& 31)) - 1 = nI (2 ^ n - 1) := by decide +kernel
theorem all_not : ∀ n, n ≤ 10 → (nI (2 ^ n - 1) ^^^ (-1)) = nI (2 ^ n * (2 ^ (32 - n) - 1)) := by decide +kernel
theorem nI_and (a b : Nat) : nI a &&& nI b = nI (a &&& b) := by
  show Int32.ofNat a &&& Int32.ofNat b = Int32.ofNat (a &&& b)
  apply Int32.toBitVec_inj.mp
  rw [Int32.toBitVec_and]
  show BitVec.ofNat 32 a &&& BitVec.ofNat 32 b = BitVec.ofNat 32 (a &&& b)
  apply BitVec.eq_of_toNat_eq
  rw [BitVec.toNat_and, BitVec.toNat_ofNat, BitVec.toNat_ofNat, BitVec.toNat_ofNat, Nat.and_mod_two_pow]
theorem nI_w (x : Int32) : ∃ j, j < 4294967296 ∧ x = nI j := ⟨x.toBitVec.toNat, x.toBitVec.isLt, Int32.toBitVec_inj.mp (by show _ = BitVec.ofNat 32 _; simp)⟩
theorem nI_z {j : Nat} (hj : j < 4294967296) : nI j = 0 ↔ j = 0 := by
  constructor
  · intro h
    have h1 : (nI j).toBitVec = (0 : Int32).toBitVec := by rw [h]
    have h2 : (BitVec.ofNat 32 j).toNat = 0 := by
      show (nI j).toBitVec.toNat = 0
      rw [h1]; rfl
    rw [BitVec.toNat_ofNat] at h2
    omega
  · rintro rfl; rfl
theorem hi_bits {n j : Nat} (hn : n ≤ 10) (hj : j < 4294967296) : j &&& (2 ^ n * (2 ^ (32 - n) - 1)) = 0 ↔ j < 2 ^ n := by
  constructor
  · intro h
    refine Nat.lt_pow_two_of_testBit j (fun i hi => ?_)
    by_cases hi2 : i < 32
    · have h1 : (j &&& (2 ^ n * (2 ^ (32 - n) - 1))).testBit i = false := by rw [h]; exact Nat.zero_testBit i
      rw [Nat.testBit_and, Nat.testBit_two_pow_mul, Nat.testBit_two_pow_sub_one] at h1
      have h2 : decide (i ≥ n) = true := decide_eq_true hi
      have h3 : decide (i - n < 32 - n) = true := decide_eq_true (by omega)
      rw [h2, h3] at h1
      simpa using h1
    · exact Nat.testBit_lt_two_pow (Nat.lt_of_lt_of_le hj (show 2 ^ 32 ≤ 2 ^ i from Nat.pow_le_pow_right (by decide) (by omega)))
  · intro h
    apply Nat.eq_of_testBit_eq
    intro i
    rw [Nat.testBit_and, Nat.testBit_two_pow_mul, Nat.zero_testBit]
    by_cases hi : n ≤ i
    · rw [Nat.testBit_lt_two_pow (Nat.lt_of_lt_of_le h (Nat.pow_le_pow_right (by decide) hi))]; rfl
    · have : decide (i ≥ n) = false := decide_eq_false (by omega)
      rw [this]; simp
theorem pow10 {n : Nat} (hn : n ≤ 10) : 2 ^ n ≤ 1024 := Nat.pow_le_pow_right (n := 2) (by decide) hn
theorem xk_yes {σ : jS} {n S : Nat} (h : g_i σ 32 1 = nI n) (hn : n ≤ 10) (hS : S < 2 ^ n) : f_X10_isKnown nmX (nI S) σ = some 1 := by
  have hp := pow10 hn
  show (if nI S &&& (((1 <<< (g_i σ 32 1 &&& 31)) - 1) ^^^ (-1)) = 0 then some 1 else some 0) = some 1
  rw [h, all_eq n hn, all_not n hn, nI_and, if_pos]
  rw [(hi_bits hn (by omega)).mpr hS]; rfl
theorem xk_no {σ : jS} {n : Nat} {a : Int32} (h : g_i σ 32 1 = nI n) (hn : n ≤ 10) (ha : ¬ ∃ S, S < 2 ^ n ∧ a = nI S) : f_X10_isKnown nmX a σ = some 0 := by
  have hp := pow10 hn
  show (if a &&& (((1 <<< (g_i σ 32 1 &&& 31)) - 1) ^^^ (-1)) = 0 then some 1 else some 0) = some 0
  obtain ⟨j, hj, rfl⟩ := nI_w a
  rw [h, all_eq n hn, all_not n hn, nI_and, if_neg]
  rw [nI_z (Nat.lt_of_le_of_lt Nat.and_le_left hj), hi_bits hn hj]
  exact fun hlt => ha ⟨j, hlt, rfl⟩
theorem mk_yes {σ : jS} {n S : Nat} (h : g_i σ 101 0 = nI n) (hn : n ≤ 10) (hS : S < 2 ^ n) : f_X11_areLamps nmM (nI S) σ = some 1 := by
  have hp := pow10 hn
  show (f_X11_in (nI S).toInt64 0 (((1 <<< (g_i σ 101 0 &&& 31)) - 1)).toInt64).bind (fun q2 => gd (jz q2) (some q2)) = some 1
  rw [h, all_eq n hn, in_yes]
  · show gd (jz 1) (some 1) = some 1
    exact gd_t jz1
  · rw [ti64, nI_ti (by omega)]; show (0 : Int) ≤ S; omega
  · rw [ti64, ti64, nI_ti (by omega), nI_ti (by omega)]; omega
theorem mk_no {σ : jS} {n : Nat} {a : Int32} (h : g_i σ 101 0 = nI n) (hn : n ≤ 10) (ha : ¬ ∃ S, S < 2 ^ n ∧ a = nI S) : f_X11_areLamps nmM a σ = some 0 := by
  have hp := pow10 hn
  have hp1 : 0 < 2 ^ n := Nat.two_pow_pos n
  rw [nI_iff (by omega)] at ha
  show (f_X11_in a.toInt64 0 (((1 <<< (g_i σ 101 0 &&& 31)) - 1)).toInt64).bind (fun q2 => gd (jz q2) (some q2)) = some 0
  rw [h, all_eq n hn, in_no]
  · show gd (jz 0) (some 0) = some 0
    exact gd_t jz0
  · rw [ti64, ti64, nI_ti (by omega)]
    show ¬ ((0 : Int) ≤ a.toInt ∧ a.toInt ≤ ((2 ^ n - 1 : Nat) : Int))
    intro hh
    exact ha ⟨hh.1, by omega⟩
