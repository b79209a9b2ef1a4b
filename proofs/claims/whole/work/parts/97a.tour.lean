/-! round: the class's sets of lamps behind, near; the last place; the largest sets of a place -/
def bhS (pl : Nat → Int) (lo : Int) (n p : Nat) : Nat := bs (fun l => decide (lo ≤ (p : Int) - pl l)) n
def nrS (pl : Nat → Int) (lo : Int) (n p : Nat) : Nat := bs (fun l => decide ((((p : Int) - pl l).natAbs : Int) < lo)) n
def lsP (pl : Nat → Int) (lo : Int) : Nat → Nat
  | 0 => 0
  | l + 1 => max (lsP pl lo l) (pl l - lo + 1).toNat
theorem bs_bit {f : Nat → Bool} {l : Nat} : ∀ {n : Nat}, l < n → (bs f n).testBit l = f l
  | 0, h => absurd h (Nat.not_lt_zero l)
  | n + 1, h => by
    unfold bs
    have hlt := bs_lt f n
    by_cases hf : f n = true
    · rw [if_pos hf, ← or_two hlt, Nat.testBit_or, Nat.testBit_two_pow]
      by_cases e : l = n
      · rw [e, hf, decide_eq_true rfl, Bool.or_true]
      · rw [bs_bit (show l < n by omega), decide_eq_false (fun z => e z.symm), Bool.or_false]
    · rw [if_neg hf, Nat.add_zero]
      by_cases e : l = n
      · rw [e, Nat.testBit_lt_two_pow hlt, Bool.eq_false_iff.mpr hf]
      · exact bs_bit (show l < n by omega)
/-- the cells of the quay as the Tour's helpers see them -/
def siteNm (nm : Nat → Nat) : Prop := nm 0 = 31 ∧ nm 1 = 32 ∧ nm 2 = 33
theorem tlamps {nm : Nat → Nat} {n : Nat} {σ : jS} (hm : siteNm nm) (h : g_i σ 32 1 = nI n) : f_X6_lamps nm σ = some (nI n) := by
  show some (g_i σ (nm 1) 1) = _
  rw [hm.2.1, h]
theorem tplace {nm : Nat → Nat} {n l : Nat} {σ : jS} (hm : siteNm nm) (h : g_i σ 32 1 = nI n) (hn : n ≤ 10) (hl : l < n) : f_X4_at (jn nm [1, 2]) 10 (nI l) σ = some (g_i σ 33 l) := by
  rw [row_atI (n := n) (by show g_i σ (nm 1) 1 = _; rw [hm.2.1]; exact h) hn (by omega) hl]
  show some (g_i σ (nm 2) l) = _
  rw [hm.2.2]
theorem behind_c {nm : Nat → Nat} {n p : Nat} {pl wd fl : Nat → Int} {fr lo : Int} {σ : jS} (hm : siteNm nm) (hL : LOk σ n pl wd fl fr lo) (hp : p < 50) : f_X8_behindAt nm (nI p) σ = some (nI (bhS pl lo n p)) := by
  obtain ⟨hn, c1, -, -, c4, -, ⟨o1, o2, o3⟩⟩ := hL
  refine wp_eq ?_
  unfold f_X8_behindAt
  refine wp_bind ?_
  refine wp_up n (fun i s => s = (nI (bs (fun l => decide (lo ≤ (p : Int) - pl l)) i), nI i)) (i := 0) (by omega) (by omega) rfl ?_
  rintro i s hi rfl
  unfold f_X8_behindAt_L4
  show wp ((f_X6_lamps nm σ).bind _) _
  refine wp_bindE (tlamps hm c1) ?_
  refine wp_ite (fun hc => ?_) (fun hc => ?_)
  · rw [nI_le' (by omega) (by omega)] at hc
    have : i = n := by omega
    subst this
    exact wp_some (wp_some rfl)
  · rw [nI_le' (by omega) (by omega)] at hc
    obtain ⟨⟨p1, p2, p3⟩, -, -⟩ := c4 i (by omega)
    refine wp_bindE (tplace hm c1 hn (by omega)) ?_
    have e1 : (nI p - g_i σ 33 i).toInt = (p : Int) - pl i := by rw [ti_sub (by rw [nI_ti (by omega)]; omega) (by rw [nI_ti (by omega)]; omega), nI_ti (by omega), p1]
    rw [hm.1]
    refine wp_ite (fun hlt => ?_) (fun hlt => ?_)
    · have hlt := Int32.lt_iff_toInt_lt.mp hlt
      rw [e1, o1] at hlt
      refine wp_some ⟨by omega, ?_⟩
      rw [nI_1, bs_f (decide_eq_false (by omega))]
    · have hlt := mt Int32.lt_iff_toInt_lt.mpr hlt
      rw [e1, o1] at hlt
      refine wp_bd (fun x hx => wp_some ⟨by omega, ?_⟩)
      rw [hx, nI_1, bs_t (by omega) (decide_eq_true (by omega))]
theorem near_c {nm : Nat → Nat} {n p : Nat} {pl wd fl : Nat → Int} {fr lo : Int} {σ : jS} (hm : siteNm nm) (hL : LOk σ n pl wd fl fr lo) (hp : p < 50) : f_X8_nearTo nm (nI p) σ = some (nI (nrS pl lo n p)) := by
  obtain ⟨hn, c1, -, -, c4, -, ⟨o1, o2, o3⟩⟩ := hL
  refine wp_eq ?_
  unfold f_X8_nearTo
  refine wp_bind ?_
  refine wp_up n (fun i s => s = (nI (bs (fun l => decide ((((p : Int) - pl l).natAbs : Int) < lo)) i), nI i)) (i := 0) (by omega) (by omega) rfl ?_
  rintro i s hi rfl
  unfold f_X8_nearTo_L4
  show wp ((f_X6_lamps nm σ).bind _) _
  refine wp_bindE (tlamps hm c1) ?_
  refine wp_ite (fun hc => ?_) (fun hc => ?_)
  · rw [nI_le' (by omega) (by omega)] at hc
    have : i = n := by omega
    subst this
    exact wp_some (wp_some rfl)
  · rw [nI_le' (by omega) (by omega)] at hc
    obtain ⟨⟨p1, p2, p3⟩, -, -⟩ := c4 i (by omega)
    refine wp_bindE (tplace hm c1 hn (by omega)) ?_
    have e1 : (nI p - g_i σ 33 i).toInt = (p : Int) - pl i := by rw [ti_sub (by rw [nI_ti (by omega)]; omega) (by rw [nI_ti (by omega)]; omega), nI_ti (by omega), p1]
    have e2 : (iabs (nI p - g_i σ 33 i)).toInt = (((p : Int) - pl i).natAbs : Int) := by rw [ti_abs (by omega), e1]
    rw [hm.1]
    refine wp_ite (fun hlt => ?_) (fun hlt => ?_)
    · have hlt := Int32.le_iff_toInt_le.mp hlt
      rw [e2, o1] at hlt
      refine wp_some ⟨by omega, ?_⟩
      rw [nI_1, bs_f (decide_eq_false (by omega))]
    · have hlt := mt Int32.le_iff_toInt_le.mpr hlt
      rw [e2, o1] at hlt
      refine wp_bd (fun x hx => wp_some ⟨by omega, ?_⟩)
      rw [hx, nI_1, bs_t (by omega) (decide_eq_true (by omega))]
theorem last_c {nm : Nat → Nat} {n : Nat} {pl wd fl : Nat → Int} {fr lo : Int} {σ : jS} (hm : siteNm nm) (hL : LOk σ n pl wd fl fr lo) : f_X8_lastUseful nm σ = some (nI (lsP pl lo n)) ∧ lsP pl lo n < 50 ∧ ∀ l, l < n → pl l - (lsP pl lo n : Int) < lo := by
  obtain ⟨hn, c1, -, -, c4, -, ⟨o1, o2, o3⟩⟩ := hL
  have key : ∀ i, i ≤ n → lsP pl lo i < 50 ∧ ∀ l, l < i → pl l - (lsP pl lo i : Int) < lo := fun i => by
    induction i with
    | zero => intro _; exact ⟨by show (0 : Nat) < 50; omega, fun l hl => absurd hl (Nat.not_lt_zero l)⟩
    | succ i ih =>
      intro hi
      obtain ⟨a1, a2⟩ := ih (by omega)
      obtain ⟨⟨p1, p2, p3⟩, -, -⟩ := c4 i (by omega)
      show max (lsP pl lo i) (pl i - lo + 1).toNat < 50 ∧ ∀ l, l < i + 1 → pl l - ((max (lsP pl lo i) (pl i - lo + 1).toNat : Nat) : Int) < lo
      refine ⟨by omega, fun l hl => ?_⟩
      by_cases e : l = i
      · rw [e]; omega
      · have := a2 l (by omega); omega
  refine ⟨?_, key n (Nat.le_refl n)⟩
  refine wp_eq ?_
  unfold f_X8_lastUseful
  refine wp_bind ?_
  refine wp_up n (fun i s => s = (nI (lsP pl lo i), nI i)) (i := 0) (by omega) (by omega) rfl ?_
  rintro i s hi rfl
  unfold f_X8_lastUseful_L4
  show wp ((f_X6_lamps nm σ).bind _) _
  refine wp_bindE (tlamps hm c1) ?_
  refine wp_ite (fun hc => ?_) (fun hc => ?_)
  · rw [nI_le' (by omega) (by omega)] at hc
    have : i = n := by omega
    subst this
    exact wp_some (wp_some rfl)
  · rw [nI_le' (by omega) (by omega)] at hc
    obtain ⟨⟨p1, p2, p3⟩, -, -⟩ := c4 i (by omega)
    refine wp_bindE (tplace hm c1 hn (by omega)) (wp_bd (fun x3 h3 => wp_some ⟨by omega, ?_⟩))
    have i1 : (1 : Int32).toInt = 1 := by decide
    have a1 := (key i (by omega)).1
    have e1 : (g_i σ 33 i - g_i σ 31 10).toInt = pl i - lo := by rw [ti_sub (by omega) (by omega), p1, o1]
    have e2 : (g_i σ 33 i - g_i σ 31 10 + 1).toInt = pl i - lo + 1 := by rw [ti_add (by omega) (by omega), e1, i1]
    rw [h3, hm.1, nI_1]
    congr 1
    apply Int32.toInt_inj.mp
    show _ = (nI (max (lsP pl lo i) (pl i - lo + 1).toNat)).toInt
    rw [ti_max, nI_ti (by omega), e2, nI_ti (by omega)]
    omega
/-- the cells of a call of Tour -/
def toNm (nm : Nat → Nat) : Prop := nm 0 = 91 ∧ nm 2 = 82 ∧ nm 3 = 92 ∧ nm 4 = 93 ∧ nm 5 = 94 ∧ nm 6 = 95 ∧ nm 7 = 96 ∧ nm 8 = 97
theorem larg_c {nm : Nat → Nat} {W : Nat → Nat → Nat} {p : Nat} {σ : jS} (hm : toNm nm) (hp : p < 50) (hW : ∀ p t, p < 50 → t < 64 → g_i σ 82 (64 * p + t) = nI (W p t) ∧ W p t < 1024) : ∃ τ m b, f_X8_gatherLargest nm (nI p) σ = some τ ∧ ux (fun a _ => decide (94 ≤ a ∧ a ≤ 95)) σ τ ∧ m ≤ 64 ∧ RowS 94 95 b m τ ∧ (∀ k, k < m → ∃ t, t < 64 ∧ b k = W p t) ∧ (∀ t, t < 64 → W p t ≠ 0 → ∃ k, k < m ∧ sub (W p t) (b k)) := by
  have m5 := hm.2.2.2.2.1
  have m6 := hm.2.2.2.2.2.1
  suffices wp (f_X8_gatherLargest nm (nI p) σ) (fun τ => ∃ (m : Nat) (b : Nat → Nat), ux (fun a _ => decide (94 ≤ a ∧ a ≤ 95)) σ τ ∧ m ≤ 64 ∧ RowS 94 95 b m τ ∧ (∀ k, k < m → ∃ t, t < 64 ∧ b k = W p t) ∧ (∀ t, t < 64 → W p t ≠ 0 → ∃ k, k < m ∧ sub (W p t) (b k))) by
    obtain ⟨τ, e, m, b, h⟩ := this
    exact ⟨τ, m, b, e, h⟩
  unfold f_X8_gatherLargest
  have ee : f_X4_empty (jn nm [5, 6]) 64 σ = some (s_i σ 94 1 0) := by
    show some (s_i σ (nm 5) 1 0) = _
    rw [m5]
  refine wp_bindE ee (wp_bind ?_)
  refine wp_up 64 (fun i s => s.1 = nI i ∧ ∃ (m : Nat) (b : Nat → Nat), ux (fun a _ => decide (94 ≤ a ∧ a ≤ 95)) σ s.2 ∧ m ≤ i ∧ RowS 94 95 b m s.2 ∧ AC b m ∧ (∀ k, k < m → ∃ t, t < 64 ∧ b k = W p t) ∧ (∀ t, t < i → W p t ≠ 0 → ∃ k, k < m ∧ sub (W p t) (b k))) (i := 0) (by omega) (by omega) ⟨rfl, 0, fun _ => 0, ux_s (ux_refl _ _) rfl, by omega, ⟨s_i_eq _ _ _ _, fun k hk => absurd hk (Nat.not_lt_zero k)⟩, fun i j hi => absurd hi (Nat.not_lt_zero i), fun k hk => absurd hk (Nat.not_lt_zero k), fun t ht => absurd ht (Nat.not_lt_zero t)⟩ ?_
  rintro i ⟨v, τ⟩ hi ⟨hv, m, b, hu, hmi, hr, hac, hb1, hb2⟩
  have hv : v = nI i := hv
  have hu : ux (fun a _ => decide (94 ≤ a ∧ a ≤ 95)) σ τ := hu
  have hr : RowS 94 95 b m τ := hr
  subst hv
  unfold f_X8_gatherLargest_L9
  show wp (if nI 64 ≤ nI i then some (Sum.inr τ) else _) _
  refine wp_ite (fun hc => ?_) (fun hc => ?_)
  · rw [nI_le' (by omega) (by omega)] at hc
    exact wp_some (wp_some ⟨m, b, hu, by omega, hr, hb1, fun t ht => hb2 t (by omega)⟩)
  · rw [nI_le' (by omega) (by omega)] at hc
    refine wp_bindE (hat_c (nm := jn nm [1, 2]) hm.2.1 hp (by omega)) ?_
    obtain ⟨w1, w2⟩ := hW p i hp (by omega)
    rw [hu 82 _ rfl, w1]
    refine wp_ite (fun hz => ?_) (fun hz => ?_)
    · rw [nI_z (by omega)] at hz
      refine wp_some ⟨by omega, nI_1 i, m, b, hu, by omega, hr, hac, hb1, fun t ht hne => ?_⟩
      by_cases e : t = i
      · rw [e] at hne; exact absurd hz hne
      · exact hb2 t (by omega) hne
    · obtain ⟨ρ, n', b', ep, up, hn', hr', hac', hp1, hp2, hp3⟩ := pil_c (nm := jn nm [5, 6]) (c0 := 94) (c1 := 95) (N := 64) m5 m6 (by decide) (by omega) (by omega) w2 hr hac
      refine wp_bindE ep (wp_some ⟨by omega, nI_1 i, n', b', ux_tr hu (ux_w up (fun a k hk => decide_eq_false (fun e => (of_decide_eq_false hk) (by omega)))), by omega, hr', hac', fun k hk => ?_, fun t ht hne => ?_⟩)
      · rcases hp1 k hk with e | ⟨j, hj, e⟩
        · exact ⟨i, by omega, e⟩
        · rw [e]; exact hb1 j hj
      · by_cases e : t = i
        · rw [e]; exact hp3
        · obtain ⟨k, hk, hs⟩ := hb2 t (by omega) hne
          obtain ⟨k', hk', hs'⟩ := hp2 k hk
          exact ⟨k', hk', sub_trans hs hs'⟩
