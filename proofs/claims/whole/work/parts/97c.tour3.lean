/-! round: the class's minutes from a place, a set -/
def LsT (W : Nat → Nat → Nat) (n p S v : Nat) : Prop := (v ≤ 1100 * (50 - p) + (1024 - S) ∧ FP W (2 ^ n - 1) 0 v p S ∧ ∀ j, j < v → ¬ FP W (2 ^ n - 1) 0 j p S) ∨ (v = 100000 ∧ ∀ j, ¬ FP W (2 ^ n - 1) 0 j p S)
theorem lst_b {W : Nat → Nat → Nat} {n p S v : Nat} (h : LsT W n p S v) : v ≤ 100000 := by
  rcases h with ⟨a, -, -⟩ | ⟨a, -⟩ <;> omega
theorem lst_f {W : Nat → Nat → Nat} {n p S v j : Nat} (h : LsT W n p S v) (hj : FP W (2 ^ n - 1) 0 j p S) : v ≤ j ∧ v ≤ 1100 * (50 - p) + (1024 - S) := by
  rcases h with ⟨a, -, c⟩ | ⟨-, c⟩
  · exact ⟨Nat.le_of_not_lt (fun z => c j z hj), a⟩
  · exact absurd hj (c j)
/-- no lamp of S lies too far ahead of p -/
def AF (pl : Nat → Int) (lo : Int) (n p S : Nat) : Prop := ∀ l, l < n → S.testBit l = true → pl l - (p : Int) < lo
def TP (W : Nat → Nat → Nat) (pl : Nat → Int) (lo : Int) (n q c : Nat) (σ : jS) : Prop := g_i σ 93 q = nI (bhS pl lo n q) ∧ ∀ S, c ≤ S → S < 2 ^ n → sub (bhS pl lo n q) S → AF pl lo n q S → ∃ v, g_i σ 92 (1024 * q + S) = nI v ∧ LsT W n q S v
theorem bh_lt (pl : Nat → Int) (lo : Int) (n p : Nat) : bhS pl lo n p < 2 ^ n := bs_lt _ _
theorem bh_no {W : Nat → Nat → Nat} {pl : Nat → Int} {lo : Int} {n p S : Nat} (hW : WOk W pl lo n) (h : ¬ sub (bhS pl lo n p) S) : LsT W n p S 100000 := by
  refine Or.inr ⟨rfl, fun j hj => h (sub_iff.mpr (fun l hl => ?_))⟩
  have hln : l < n := Nat.lt_of_not_le (fun hle => by
    rw [Nat.testBit_lt_two_pow (Nat.lt_of_lt_of_le (bh_lt pl lo n p) (Nat.pow_le_pow_right (by decide) hle))] at hl; cases hl)
  have hl2 : decide (lo ≤ (p : Int) - pl l) = true := by rw [← hl]; exact (bs_bit (f := fun l => decide (lo ≤ (p : Int) - pl l)) hln).symm
  cases hs : S.testBit l with
  | true => rfl
  | false => exact absurd hj (fw_beh hW hln (of_decide_eq_true hl2) j p S (Nat.le_refl _) hs)
theorem mf_out {nm : Nat → Nat} {L q S : Nat} {σ : jS} (hm : toNm nm) (h5 : g_i σ 91 5 = nI L) (hL : L < 50) (hq : L < q) (hq2 : q < 1000) : f_X8_minutesFrom nm (nI q) (nI S) σ = some (nI 100000) := by
  have l49 : (49 : Int32).toInt = 49 := by decide
  have l0 : (0 : Int32).toInt = 0 := by decide
  unfold f_X8_minutesFrom
  rw [hm.1, h5, within_no (by rw [ti_min, nI_ti (by omega), nI_ti (by omega), l49, l0]; omega), bnd, if_pos rfl]
  rfl
theorem mf_in {nm : Nat → Nat} {W : Nat → Nat → Nat} {pl : Nat → Int} {lo : Int} {n L q S c : Nat} {σ : jS} (hn : n ≤ 10) (hW : WOk W pl lo n) (hm : toNm nm) (h5 : g_i σ 91 5 = nI L) (hL : L < 50) (hq : q ≤ L) (hS : S < 2 ^ n) (hT : TP W pl lo n q c σ) (hc : c ≤ S) (hA : AF pl lo n q S) : ∃ v, f_X8_minutesFrom nm (nI q) (nI S) σ = some (nI v) ∧ LsT W n q S v := by
  have hp := pow10 hn
  have l49 : (49 : Int32).toInt = 49 := by decide
  have l0 : (0 : Int32).toInt = 0 := by decide
  have l1023 : (1023 : Int32).toInt = 1023 := by decide
  have hb := bh_lt pl lo n q
  have ix : nI q * 1024 + nI S = nI (1024 * q + S) := by
    rw [show nI q * 1024 = nI (q * 1024) from nI_mul q 1024, nI_add, Nat.mul_comm]
  have hs' : (nI (bhS pl lo n q) &&& (nI S ^^^ (-1))) = 0 ↔ sub (bhS pl lo n q) S := nI_sub (Nat.lt_of_lt_of_le (show bhS pl lo n q < 1024 by omega) (by decide))
  unfold f_X8_minutesFrom
  rw [hm.1, h5, within_yes (by rw [l0, nI_ti (by omega)]; omega) (by rw [ti_min, nI_ti (by omega), nI_ti (by omega), l49]; omega), bnd, if_neg i10, within_yes (by rw [l0, nI_ti (by omega)]; omega) (by rw [l1023, nI_ti (by omega)]; omega), bnd, if_neg i10, bnd]
  unfold f_X8_minutesFrom_J33
  rw [if_neg i10, gd_t (nI_in' (by omega) (by omega)), nI_cl (show q < 2147483648 by omega), hm.2.2.2.1, hT.1]
  by_cases hs : sub (bhS pl lo n q) S
  · obtain ⟨v, e, hl⟩ := hT.2 S hc hS hs hA
    refine ⟨v, ?_, hl⟩
    rw [if_pos (hs'.mpr hs), ix, gd_t (nI_in' (by omega) (by omega)), nI_cl (by omega), hm.2.2.1, e]
  · refine ⟨100000, ?_, bh_no hW hs⟩
    rw [if_neg (fun z => hs (hs'.mp z))]; rfl
theorem ff_c {nm : Nat → Nat} {W : Nat → Nat → Nat} {pl : Nat → Int} {lo : Int} {n L p S m : Nat} {b : Nat → Nat} {σ : jS} (hn : n ≤ 10) (hW : WOk W pl lo n) (hm : toNm nm) (h5 : g_i σ 91 5 = nI L) (hL : L < 50) (hLl : ∀ l, l < n → pl l - (L : Int) < lo) (hp : p ≤ L) (hS : S < 2 ^ n) (hSa : S ≠ 2 ^ n - 1) (hA : AF pl lo n p S) (hT : TP W pl lo n p (S + 1) σ) (hT1 : p < L → TP W pl lo n (p + 1) 0 σ) (hm64 : m ≤ 64) (hr : RowS 94 95 b m σ) (hb1 : ∀ k, k < m → ∃ t, t < 64 ∧ b k = W p t) (hb2 : ∀ t, t < 64 → W p t ≠ 0 → ∃ k, k < m ∧ sub (W p t) (b k)) : ∃ v, f_X8_fewestFrom nm (nI p) (nI S) σ = some (nI v) ∧ LsT W n p S v := by
  have hpw := pow10 hn
  have m5 := hm.2.2.2.2.1
  have m6 := hm.2.2.2.2.2.1
  generalize hall : 2 ^ n - 1 = all at hSa
  -- on
  have on : ∃ v, f_X8_minutesFrom nm (nI p + 1) (nI S) σ = some (nI v) ∧ v ≤ 100000 ∧ (v < 100000 → v ≤ 1100 * (49 - p) + (1024 - S) ∧ p + 1 < 50 ∧ FP W all 0 v (p + 1) S) ∧ (p < L → ∀ j, FP W all 0 j (p + 1) S → v ≤ j ∧ v < 100000) := by
    rw [nI_1]
    by_cases hpL : p < L
    · obtain ⟨v, e, hl⟩ := mf_in hn hW hm h5 hL (show p + 1 ≤ L by omega) hS (hT1 hpL) (by omega) (fun l h1 h2 => by have := hA l h1 h2; omega)
      rw [LsT, hall] at hl
      refine ⟨v, e, ?_, fun hv => ?_, fun _ j hj => ?_⟩
      · rcases hl with ⟨a, -, -⟩ | ⟨a, -⟩ <;> omega
      · rcases hl with ⟨a1, a2, -⟩ | ⟨a1, -⟩
        · exact ⟨by omega, by omega, a2⟩
        · omega
      · rcases hl with ⟨a1, -, a3⟩ | ⟨-, a3⟩
        · have : ¬ j < v := fun z => a3 j z hj
          exact ⟨by omega, by omega⟩
        · exact absurd hj (a3 j)
    · exact ⟨100000, mf_out hm h5 hL (by omega) (by omega), by omega, fun h => by omega, fun h => absurd h hpL⟩
  obtain ⟨v0, e0, b0, s0, c0⟩ := on
  unfold f_X8_fewestFrom
  rw [e0, bnd, bdx, nI_1]
  have loop : ∃ w, lp (f_X8_fewestFrom_L14 nm (nI p) (nI S) σ) fu (nI (v0 + 1), 0) = some (nI w) ∧ w ≤ v0 + 1 ∧ (w < 100000 → w ≤ 1100 * (50 - p) + (1024 - S) ∧ FP W all 0 w p S) ∧ (∀ k, k < m → S ||| b k ≠ S → ∀ j, FP W all 0 j p (S ||| b k) → w ≤ j + 1 ∧ w < 100000) := by
    suffices wp (lp (f_X8_fewestFrom_L14 nm (nI p) (nI S) σ) fu (nI (v0 + 1), 0)) (fun y => ∃ w, y = nI w ∧ w ≤ v0 + 1 ∧ (w < 100000 → w ≤ 1100 * (50 - p) + (1024 - S) ∧ FP W all 0 w p S) ∧ (∀ k, k < m → S ||| b k ≠ S → ∀ j, FP W all 0 j p (S ||| b k) → w ≤ j + 1 ∧ w < 100000)) by
      obtain ⟨y, e, w, rfl, h⟩ := this
      exact ⟨w, e, h⟩
    refine wp_up m (fun i s => s.2 = nI i ∧ ∃ w, s.1 = nI w ∧ w ≤ v0 + 1 ∧ (w < 100000 → w ≤ 1100 * (50 - p) + (1024 - S) ∧ FP W all 0 w p S) ∧ (∀ k, k < i → S ||| b k ≠ S → ∀ j, FP W all 0 j p (S ||| b k) → w ≤ j + 1 ∧ w < 100000)) (i := 0) (by omega) (by omega) ⟨rfl, v0 + 1, rfl, Nat.le_refl _, fun h => by
      obtain ⟨a1, a2, a3⟩ := s0 (by omega)
      exact ⟨by omega, Or.inr (Or.inr ⟨a2, a3⟩)⟩, fun k hk => absurd hk (Nat.not_lt_zero k)⟩ ?_
    rintro i ⟨v3, v4⟩ hi ⟨hv4, w, hw, w1, w2, w3⟩
    have hv4 : v4 = nI i := hv4
    have hw : v3 = nI w := hw
    subst hv4 hw
    unfold f_X8_fewestFrom_L14
    have hsz : f_X4_size (jn nm [5, 6]) 64 σ = some (nI m) := by
      show some (g_i σ (nm 5) 1) = _
      rw [m5, hr.1]
    show wp ((f_X4_size (jn nm [5, 6]) 64 σ).bind _) _
    refine wp_bindE hsz ?_
    refine wp_ite (fun hc => ?_) (fun hc => ?_)
    · rw [nI_le' (by omega) (by omega)] at hc
      exact wp_some ⟨w, rfl, w1, w2, fun k hk => w3 k (by omega)⟩
    · rw [nI_le' (by omega) (by omega)] at hc
      obtain ⟨q1, q2⟩ := hr.2 i (by omega)
      have hat : f_X4_at (jn nm [5, 6]) 64 (nI i) σ = some (nI (b i)) := by
        rw [row_atI (n := m) (by show g_i σ (nm 5) 1 = _; rw [m5]; exact hr.1) hm64 (by omega) (by omega)]
        show some (g_i σ (nm 6) i) = _
        rw [m6, q1]
      refine wp_bindE hat (wp_bd (fun x5 h5' => ?_))
      rw [nI_or] at h5'
      subst h5'
      obtain ⟨t, ht, hbt⟩ := hb1 i (by omega)
      have hbl : b i < 2 ^ n := by rw [hbt]; exact hW.1 p t
      have hor : S ||| b i < 2 ^ n := Nat.or_lt_two_pow hS hbl
      refine wp_ite (fun hx => ?_) (fun hx => ?_)
      · rw [nI_inj (by omega) (by omega)] at hx
        refine wp_some ⟨by omega, nI_1 i, w, rfl, w1, w2, fun k hk hne => ?_⟩
        by_cases e : k = i
        · rw [e] at hne; exact absurd hx hne
        · exact w3 k (by omega) hne
      · have hx : S ||| b i ≠ S := fun z => hx (by rw [z])
        have hgt : S < S ||| b i := by
          have := Nat.left_le_or (n := S) (m := b i)
          omega
        obtain ⟨v, ev, hl⟩ := mf_in hn hW hm h5 hL hp hor hT (show S + 1 ≤ S ||| b i by omega) (fun l h1 h2 => by
          rw [Nat.testBit_or] at h2
          rcases Bool.or_eq_true_iff.mp h2 with z | z
          · exact hA l h1 z
          · rw [hbt] at z
            have := hW.2.1 p t l h1 z
            omega)
        have hvb := lst_b hl
        rw [LsT, hall] at hl
        refine wp_bindE ev ?_
        rw [nI_1]
        refine wp_bd (fun x7 h7 => wp_some ⟨by omega, nI_1 i, min w (v + 1), ?_, by omega, fun hlt => ?_, fun k hk hne j hj => ?_⟩)
        · show x7 = _
          rw [h7]
          apply Int32.toInt_inj.mp
          rw [ti_min, nI_ti (by omega), nI_ti (by omega), nI_ti (by omega)]
          omega
        · by_cases hle : w ≤ v + 1
          · rw [Nat.min_eq_left hle] at hlt ⊢; exact w2 hlt
          · rw [Nat.min_eq_right (by omega)] at hlt ⊢
            rcases hl with ⟨a1, a2, -⟩ | ⟨a1, -⟩
            · refine ⟨by omega, Or.inr (Or.inl ⟨t, ht, ?_⟩)⟩
              rw [← hbt]; exact a2
            · omega
        · by_cases e : k = i
          · subst e
            rcases hl with ⟨a1, -, a3⟩ | ⟨-, a3⟩
            · have : ¬ j < v := fun z => a3 j z hj
              omega
            · exact absurd hj (a3 j)
          · have := w3 k (by omega) hne j hj
            omega
  obtain ⟨w, ew, w1, w2, w3⟩ := loop
  rw [ew, bnd]
  have emin : imin (nI w) 100000 = nI (min w 100000) := by
    apply Int32.toInt_inj.mp
    have l5 : (100000 : Int32).toInt = 100000 := by decide
    rw [ti_min, nI_ti (by omega), l5, nI_ti (by omega)]
    omega
  refine ⟨min w 100000, by rw [emin], ?_⟩
  have cmp : ∀ j, FP W all 0 j p S → w ≤ j ∧ w < 100000 := fun j => by
    induction j with
    | zero => intro h; exact absurd h.1 hSa
    | succ j ih =>
      intro h
      rcases h with h | ⟨nt, h1, h2⟩ | ⟨h1, h2⟩
      · exact absurd h.1 hSa
      · by_cases e : S ||| W p nt = S
        · rw [e] at h2; have := ih h2; omega
        · have hw0 : W p nt ≠ 0 := fun z => e (by rw [z]; exact Nat.or_zero S)
          obtain ⟨k, hk, hs⟩ := hb2 nt h1 hw0
          obtain ⟨t, ht, hbt⟩ := hb1 k hk
          have hbl : b k < 2 ^ n := by rw [hbt]; exact hW.1 p t
          have hne : S ||| b k ≠ S := fun z => e (by
            refine sub_antisymm (sub_or (sub_refl S) (sub_trans hs ?_)) (sub_iff.mpr (fun i hi => by rw [Nat.testBit_or, hi]; rfl))
            rw [← z]
            exact sub_iff.mpr (fun i hi => by rw [Nat.testBit_or, hi, Bool.or_true]))
          have hmono : FP W all 0 j p (S ||| b k) := by
            rw [← hall] at h2 ⊢
            refine fp_mono (fun p t => sub_all (hW.1 p t)) j p _ _ ?_ (sub_all (Nat.or_lt_two_pow hS hbl)) h2
            refine sub_or (sub_iff.mpr (fun i hi => by rw [Nat.testBit_or, hi]; rfl)) (sub_trans hs (sub_iff.mpr (fun i hi => by rw [Nat.testBit_or, hi, Bool.or_true])))
          exact w3 k hk hne j hmono
      · by_cases hpL : p < L
        · have := c0 hpL j h2
          omega
        · have hpe : p = L := by omega
          subst hpe
          rw [← hall] at h2
          have h3 := fw_last hW hLl j (p + 1) S (by omega) hS h2
          rw [hall] at h3
          have := ih h3
          omega
  rw [LsT, hall]
  by_cases hlt : w < 100000
  · rw [Nat.min_eq_left (by omega)]
    obtain ⟨a1, a2⟩ := w2 hlt
    exact Or.inl ⟨a1, a2, fun j hj hc => by have := (cmp j hc).1; omega⟩
  · rw [Nat.min_eq_right (by omega)]
    exact Or.inr ⟨rfl, fun j hc => hlt (cmp j hc).2⟩
