/-! alone: whether some hum wakes both -/
def TB (pl wd fl : Nat → Int) (fr lo : Int) (a na b nb : Nat) : Bool := decide (((pl a - pl b).natAbs : Int) ≤ 2 * (lo - 1)) && decide (max (max ((na : Int) - fl a * fr - wd a) ((nb : Int) - fl b * fr - wd b)) 0 ≤ min (min ((na : Int) - fl a * fr + wd a) ((nb : Int) - fl b * fr + wd b)) 63)
theorem tb_notes {x y wa wb : Int} : (∃ n : Nat, n < 64 ∧ ((x - n).natAbs : Int) ≤ wa ∧ ((y - n).natAbs : Int) ≤ wb) ↔ max (max (x - wa) (y - wb)) 0 ≤ min (min (x + wa) (y + wb)) 63 := by
  constructor
  · rintro ⟨n, h1, h2, h3⟩; omega
  · intro h
    exact ⟨(max (max (x - wa) (y - wb)) 0).toNat, by omega, by omega, by omega⟩
theorem tb_places {x y lo : Int} (hx : 0 ≤ x ∧ x ≤ 49) (hy : 0 ≤ y ∧ y ≤ 49) : (∃ p : Nat, p < 50 ∧ ((x - p).natAbs : Int) < lo ∧ ((y - p).natAbs : Int) < lo) ↔ ((x - y).natAbs : Int) ≤ 2 * (lo - 1) := by
  constructor
  · rintro ⟨p, h1, h2, h3⟩; omega
  · intro h
    exact ⟨((x + y) / 2).toNat, by omega, by omega, by omega⟩
/-- the quay's lamps as numbers -/
def LOk (σ : jS) (nL : Nat) (pl wd fl : Nat → Int) (fr lo : Int) : Prop := nL ≤ 10 ∧ g_i σ 32 1 = nI nL ∧ g_i σ 36 1 = nI nL ∧ g_i σ 38 1 = nI nL ∧ (∀ l, l < nL → ((g_i σ 33 l).toInt = pl l ∧ 0 ≤ pl l ∧ pl l ≤ 49) ∧ ((g_i σ 37 l).toInt = wd l ∧ 0 ≤ wd l ∧ wd l ≤ 9) ∧ ((g_i σ 39 l).toInt = fl l ∧ 0 ≤ fl l ∧ fl l ≤ 5)) ∧ ((g_i σ 57 6).toInt = fr ∧ 0 ≤ fr ∧ fr ≤ 9) ∧ ((g_i σ 31 10).toInt = lo ∧ 1 ≤ lo ∧ lo ≤ 50)
theorem LOk.cg {W : Nat → Nat → Bool} {σ τ : jS} {nL : Nat} {pl wd fl : Nat → Int} {fr lo : Int} (hu : ux W σ τ) (hW : ∀ a k, 31 ≤ a → a ≤ 57 → W a k = false) (h : LOk σ nL pl wd fl fr lo) : LOk τ nL pl wd fl fr lo := by
  obtain ⟨a, b, c, d, e, f, g⟩ := h
  have q : ∀ a k, 31 ≤ a → a ≤ 57 → g_i τ a k = g_i σ a k := fun a k x y => hu a k (hW a k x y)
  refine ⟨a, (q _ _ (by omega) (by omega)).trans b, (q _ _ (by omega) (by omega)).trans c, (q _ _ (by omega) (by omega)).trans d, fun l hl => ?_, ?_, ?_⟩
  · rw [q 33 l (by omega) (by omega), q 37 l (by omega) (by omega), q 39 l (by omega) (by omega)]; exact e l hl
  · rw [q 57 6 (by omega) (by omega)]; exact f
  · rw [q 31 10 (by omega) (by omega)]; exact g
def filN2 (nm : Nat → Nat) : Prop := nm 1 = 31 ∧ nm 2 = 32 ∧ nm 3 = 33 ∧ nm 6 = 36 ∧ nm 7 = 37 ∧ nm 8 = 38 ∧ nm 9 = 39 ∧ nm 18 = 57 ∧ nm 19 = 58 ∧ nm 23 = 99
theorem xtog {nm : Nat → Nat} {σ : jS} {nL l o note ho : Nat} {pl wd fl : Nat → Int} {fr lo : Int} (hm : filN2 nm) (hL : LOk σ nL pl wd fl fr lo) (hl : l < nL) (ho' : o < nL) (hn : note ≤ 63) (hh : ho ≤ 63) (h99 : g_i σ 99 o = nI ho) : f_X0_isWokenWith nm (nI l) (nI note) (nI o) σ = some (if TB pl wd fl fr lo l note o ho = true then 1 else 0) := by
  obtain ⟨m1, m2, m3, m6, m7, m8, m9, m18, -, m23⟩ := hm
  obtain ⟨hn10, c1, c2, c3, c4, ⟨f1, f2, f3⟩, ⟨o1, o2, o3⟩⟩ := hL
  have at' : ∀ k, k < nL → f_X4_at (jn nm [2, 3]) 10 (nI k) σ = some (g_i σ 33 k) ∧ f_X4_at (jn nm [8, 9]) 10 (nI k) σ = some (g_i σ 39 k) ∧ f_X4_at (jn nm [6, 7]) 10 (nI k) σ = some (g_i σ 37 k) := fun k hk => by
    refine ⟨?_, ?_, ?_⟩
    · rw [row_atI (n := nL) (by show g_i σ (nm 2) 1 = _; rw [m2]; exact c1) hn10 (by omega) hk]
      show some (g_i σ (nm 3) k) = _
      rw [m3]
    · rw [row_atI (n := nL) (by show g_i σ (nm 8) 1 = _; rw [m8]; exact c3) hn10 (by omega) hk]
      show some (g_i σ (nm 9) k) = _
      rw [m9]
    · rw [row_atI (n := nL) (by show g_i σ (nm 6) 1 = _; rw [m6]; exact c2) hn10 (by omega) hk]
      show some (g_i σ (nm 7) k) = _
      rw [m7]
  obtain ⟨a1, a2, a3⟩ := at' l hl
  obtain ⟨b1, b2, b3⟩ := at' o ho'
  obtain ⟨⟨p1, p2, p3⟩, ⟨w1, w2, w3⟩, ⟨l1, l2, l3⟩⟩ := c4 l hl
  obtain ⟨⟨p4, p5, p6⟩, ⟨w4, w5, w6⟩, ⟨l4, l5, l6⟩⟩ := c4 o ho'
  have i1 : (1 : Int32).toInt = 1 := by decide
  have i2 : (2 : Int32).toInt = 2 := by decide
  have i0 : (0 : Int32).toInt = 0 := by decide
  have i63 : (63 : Int32).toInt = 63 := by decide
  have e1 : (g_i σ 33 l - g_i σ 33 o).toInt = pl l - pl o := by rw [ti_sub (by omega) (by omega), p1, p4]
  have e2 : (iabs (g_i σ 33 l - g_i σ 33 o)).toInt = ((pl l - pl o).natAbs : Int) := by rw [ti_abs (by omega), e1]
  have e3 : (g_i σ 31 10 - 1).toInt = lo - 1 := by rw [ti_sub (by omega) (by omega), o1, i1]
  have e4 : (2 * (g_i σ 31 10 - 1)).toInt = 2 * (lo - 1) := by rw [ti_mul (by rw [i2, e3]; omega) (by rw [i2, e3]; omega), i2, e3]
  unfold f_X0_isWokenWith
  rw [a1, bnd, b1, bnd, m1]
  unfold TB
  by_cases hp : ((pl l - pl o).natAbs : Int) ≤ 2 * (lo - 1)
  · rw [if_pos (Int32.le_iff_toInt_le.mpr (by rw [e2, e4]; exact hp)), if_neg (nI_neg0 (by omega)), if_neg (show ¬ (10 : Int32) ≤ nI o from nle_lit (a := 10) (by omega) (by omega)), gd_t (nI_in' (by omega) (by omega)), nI_cl (by omega), bnd, m23, h99, decide_eq_true hp, Bool.true_and]
    unfold f_X0_isWokenWith_J65
    rw [a2, bnd, bdx, b2, bnd, bdx, a3, bnd, b3, bnd, bdx, bnd, bnd, bdx, m18]
    have g1 := mul_le2 l2 l3 f2 f3
    have g2 := mul_le2 l5 l6 f2 f3
    have k1 : (g_i σ 39 l * g_i σ 57 6).toInt = fl l * fr := by rw [ti_mul (by rw [l1, f1]; omega) (by rw [l1, f1]; omega), l1, f1]
    have k2 : (g_i σ 39 o * g_i σ 57 6).toInt = fl o * fr := by rw [ti_mul (by rw [l4, f1]; omega) (by rw [l4, f1]; omega), l4, f1]
    have x1 : (nI note - g_i σ 39 l * g_i σ 57 6).toInt = (note : Int) - fl l * fr := by rw [ti_sub (by rw [k1, nI_ti (by omega)]; omega) (by rw [k1, nI_ti (by omega)]; omega), k1, nI_ti (by omega)]
    have x2 : (nI ho - g_i σ 39 o * g_i σ 57 6).toInt = (ho : Int) - fl o * fr := by rw [ti_sub (by rw [k2, nI_ti (by omega)]; omega) (by rw [k2, nI_ti (by omega)]; omega), k2, nI_ti (by omega)]
    generalize nI note - g_i σ 39 l * g_i σ 57 6 = X at x1 ⊢
    generalize nI ho - g_i σ 39 o * g_i σ 57 6 = Y at x2 ⊢
    generalize fl l * fr = A at g1 x1 ⊢
    generalize fl o * fr = B at g2 x2 ⊢
    have y1 : (X - g_i σ 37 l).toInt = (note : Int) - A - wd l := by rw [ti_sub (by omega) (by omega), x1, w1]
    have y2 : (Y - g_i σ 37 o).toInt = (ho : Int) - B - wd o := by rw [ti_sub (by omega) (by omega), x2, w4]
    have y3 : (X + g_i σ 37 l).toInt = (note : Int) - A + wd l := by rw [ti_add (by omega) (by omega), x1, w1]
    have y4 : (Y + g_i σ 37 o).toInt = (ho : Int) - B + wd o := by rw [ti_add (by omega) (by omega), x2, w4]
    have z1 : (imax (imax (X - g_i σ 37 l) (Y - g_i σ 37 o)) 0).toInt = max (max ((note : Int) - A - wd l) ((ho : Int) - B - wd o)) 0 := by rw [ti_max, ti_max, y1, y2, i0]
    have z2 : (imin (imin (X + g_i σ 37 l) (Y + g_i σ 37 o)) 63).toInt = min (min ((note : Int) - A + wd l) ((ho : Int) - B + wd o)) 63 := by rw [ti_min, ti_min, y3, y4, i63]
    by_cases hq : max (max ((note : Int) - A - wd l) ((ho : Int) - B - wd o)) 0 ≤ min (min ((note : Int) - A + wd l) ((ho : Int) - B + wd o)) 63
    · rw [if_neg (fun e => by have := Int32.lt_iff_toInt_lt.mp e; rw [z1, z2] at this; omega), if_pos (decide_eq_true hq)]
    · rw [if_pos (Int32.lt_iff_toInt_lt.mpr (by rw [z1, z2]; omega)), if_neg (by rw [decide_eq_false hq]; decide)]
  · rw [if_neg (fun e => hp (by have := Int32.le_iff_toInt_le.mp e; rw [e2, e4] at this; exact this)), decide_eq_false hp, Bool.false_and, if_neg (by decide)]
/-- a hum wakes lamp l at this note with one of those of D -/
theorem xone {nm : Nat → Nat} {σ : jS} {nL l note D : Nat} {h : Nat → Nat} {pl wd fl : Nat → Int} {fr lo : Int} (hm : filN2 nm) (hL : LOk σ nL pl wd fl fr lo) (hl : l < nL) (hn : note ≤ 63) (hD : D < 2 ^ nL) (hh : ∀ o, o < nL → D.testBit o = true → g_i σ 99 o = nI (h o) ∧ h o ≤ 63) : f_X0_isWokenWithOne nm (nI l) (nI note) (nI D) σ = some (if anyB (fun o => D.testBit o && TB pl wd fl fr lo l note o (h o)) 10 = true then 1 else 0) := by
  have hn10 := hL.1
  refine wp_eq ?_
  unfold f_X0_isWokenWithOne
  refine wp_bind ?_
  refine wp_up 10 (fun i s => s = nI i ∧ ∀ o, o < i → (D.testBit o && TB pl wd fl fr lo l note o (h o)) = false) (i := 0) (by omega) (by omega) ⟨rfl, fun j hj => absurd hj (Nat.not_lt_zero j)⟩ ?_
  rintro i s hi ⟨rfl, hk⟩
  unfold f_X0_isWokenWithOne_L3
  show wp (if nI 10 ≤ nI i then _ else _) _
  refine wp_ite (fun hc => ?_) (fun hc => ?_)
  · rw [nI_le' (by omega) (by omega)] at hc
    refine wp_some (wp_some ?_)
    rw [if_neg]
    rw [anyB_f (fun t ht => hk t (by omega))]; decide
  · rw [nI_le' (by omega) (by omega)] at hc
    rw [bit0 (by omega)]
    have stp1 : ∀ b : Bool, (D.testBit i && TB pl wd fl fr lo l note i (h i)) = false → ∀ o, o < i + 1 → (D.testBit o && TB pl wd fl fr lo l note o (h o)) = false := fun _ hb o ho => by
      by_cases e : o = i
      · rw [e]; exact hb
      · exact hk o (by omega)
    cases hb : D.testBit i with
    | false =>
      rw [if_pos (show (if false = true then (1 : Int32) else 0) = 0 by decide)]
      exact wp_some ⟨by omega, nI_1 i, stp1 true (by rw [hb]; rfl)⟩
    | true =>
      rw [if_neg (show ¬ (if true = true then (1 : Int32) else 0) = 0 by decide)]
      have hin : i < nL := Nat.lt_of_not_le (fun hle => by
        rw [Nat.testBit_lt_two_pow (Nat.lt_of_lt_of_le hD (Nat.pow_le_pow_right (by decide) hle))] at hb; cases hb)
      obtain ⟨q1, q2⟩ := hh i hin hb
      refine wp_bindE (xtog hm hL hl hin hn q2 q1) ?_
      cases ht : TB pl wd fl fr lo l note i (h i) with
      | false =>
        rw [if_pos (show (if false = true then (1 : Int32) else 0) = 0 by decide)]
        exact wp_some ⟨by omega, nI_1 i, stp1 true (by rw [ht, Bool.and_false])⟩
      | true =>
        rw [if_neg (show ¬ (if true = true then (1 : Int32) else 0) = 0 by decide)]
        refine wp_some (wp_some ?_)
        rw [if_pos (anyB_t (i := i) (by omega) (by rw [hb, ht]; rfl))]
theorem xfree {nm : Nat → Nat} {σ : jS} {nL l fr0 D : Nat} {h : Nat → Nat} {pl wd fl : Nat → Int} {fr lo : Int} (hm : filN2 nm) (hL : LOk σ nL pl wd fl fr lo) (hl : l < nL) (hf : fr0 ≤ 64) (hD : D < 2 ^ nL) (hh : ∀ o, o < nL → D.testBit o = true → g_i σ 99 o = nI (h o) ∧ h o ≤ 63) : f_X0_leastFree nm (nI l) (nI fr0) (nI D) σ = some (if fsN (fun t => !(anyB (fun o => D.testBit o && TB pl wd fl fr lo l t o (h o)) 10)) (64 - fr0) fr0 < 64 then nI (fsN (fun t => !(anyB (fun o => D.testBit o && TB pl wd fl fr lo l t o (h o)) 10)) (64 - fr0) fr0) else -1) := by
  generalize hP : (fun t => !(anyB (fun o => D.testBit o && TB pl wd fl fr lo l t o (h o)) 10)) = P
  have hPt : ∀ t, P t = !(anyB (fun o => D.testBit o && TB pl wd fl fr lo l t o (h o)) 10) := fun t => by rw [← hP]
  refine wp_eq ?_
  unfold f_X0_leastFree
  refine wp_bind ?_
  refine wp_up 64 (fun i s => s = nI i ∧ fsN P (64 - i) i = fsN P (64 - fr0) fr0) (i := fr0) (by omega) (by omega) ⟨rfl, rfl⟩ ?_
  rintro i s hi ⟨rfl, h0⟩
  unfold f_X0_leastFree_L3
  show wp (if nI 64 ≤ nI i then _ else _) _
  refine wp_ite (fun hc => ?_) (fun hc => ?_)
  · rw [nI_le' (by omega) (by omega)] at hc
    have : i = 64 := by omega
    subst this
    refine wp_some (wp_some ?_)
    rw [← h0]
    rfl
  · rw [nI_le' (by omega) (by omega)] at hc
    refine wp_bindE (xone hm hL hl (by omega) hD hh) ?_
    rw [show 64 - i = (64 - (i + 1)) + 1 by omega] at h0
    have h0 : (if P i = true then i else fsN P (64 - (i + 1)) (i + 1)) = fsN P (64 - fr0) fr0 := h0
    cases hb : anyB (fun o => D.testBit o && TB pl wd fl fr lo l i o (h o)) 10 with
    | false =>
      rw [if_pos (show (if false = true then (1 : Int32) else 0) = 0 by decide)]
      rw [if_pos (by rw [hPt, hb]; rfl)] at h0
      refine wp_some (wp_some ?_)
      rw [← h0, if_pos (by omega)]
    | true =>
      rw [if_neg (show ¬ (if true = true then (1 : Int32) else 0) = 0 by decide)]
      rw [if_neg (by rw [hPt, hb]; decide)] at h0
      exact wp_some ⟨by omega, nI_1 i, h0⟩
