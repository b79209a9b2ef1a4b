/-! fewest: how few notes; which -/
def FN (R : Nat → Nat) (n w : Nat) : Prop := ∃ t, n ≤ t ∧ t < 64 ∧ w = R t
theorem cv_fam {F G : Nat → Prop} (h : ∀ w, F w → G w) : ∀ k M, Cv F k M → Cv G k M
  | 0, _, hc => hc
  | k + 1, _, hc => by
    rcases hc with hc | ⟨w, hw, hc⟩
    · exact Or.inl hc
    · exact Or.inr ⟨w, h w hw, cv_fam h k _ hc⟩
theorem fn_dn {R : Nat → Nat} {n k M : Nat} (h : Cv (FN R (n + 1)) k M) : Cv (FN R n) k M := cv_fam (fun _ ⟨t, h1, h2, h3⟩ => ⟨t, by omega, h2, h3⟩) k M h
theorem fn_0 {R : Nat → Nat} {n k M : Nat} (h : Cv (FN R n) k M) : Cv (FN R 0) k M := cv_fam (fun _ ⟨t, _, h2, h3⟩ => ⟨t, by omega, h2, h3⟩) k M h
theorem fn_64 {R : Nat → Nat} {k M : Nat} (h : Cv (FN R 64) k M) : M = 0 := by
  cases k with
  | zero => exact h
  | succ k =>
    rcases h with h | ⟨w, ⟨t, h1, h2, -⟩, -⟩
    · exact h
    · omega
theorem sd_idem (M w : Nat) : sd (sd M w) w = sd M w := by
  apply Nat.eq_of_testBit_eq
  intro i
  rw [sd_bit, sd_bit]
  cases M.testBit i <;> cases w.testBit i <;> rfl
theorem fn_dis {R : Nat → Nat} {n : Nat} : ∀ k M, sd M (R n) = M → Cv (FN R n) k M → Cv (FN R (n + 1)) k M
  | 0, _, _, h => h
  | k + 1, M, hd, h => by
    rcases h with h | ⟨w, ⟨t, h1, h2, h3⟩, h⟩
    · exact Or.inl h
    · by_cases e : t = n
      · rw [h3, e, hd] at h
        exact cv_up _ _ (fn_dis k M hd h)
      · refine Or.inr ⟨w, ⟨t, by omega, h2, h3⟩, fn_dis k _ ?_ h⟩
        rw [sd_comm3, hd]
theorem fn_st {R : Nat → Nat} {n : Nat} : ∀ k M, Cv (FN R n) (k + 1) M → Cv (FN R (n + 1)) (k + 1) M ∨ Cv (FN R (n + 1)) k (sd M (R n))
  | k, M, h => by
    induction k generalizing M with
    | zero =>
      rcases h with h | ⟨w, ⟨t, h1, h2, h3⟩, h⟩
      · exact Or.inl (Or.inl h)
      · by_cases e : t = n
        · rw [h3, e] at h; exact Or.inr h
        · exact Or.inl (Or.inr ⟨w, ⟨t, by omega, h2, h3⟩, h⟩)
    | succ k ih =>
      rcases h with h | ⟨w, ⟨t, h1, h2, h3⟩, h⟩
      · exact Or.inl (Or.inl h)
      · by_cases e : t = n
        · rw [h3, e] at h
          exact Or.inr (fn_dis _ _ (sd_idem M (R n)) h)
        · rcases ih (sd M w) h with h4 | h4
          · exact Or.inl (Or.inr ⟨w, ⟨t, by omega, h2, h3⟩, h4⟩)
          · rw [sd_comm3] at h4
            exact Or.inr (Or.inr ⟨w, ⟨t, by omega, h2, h3⟩, h4⟩)
theorem fn_bk {R : Nat → Nat} {n k M : Nat} (hn : n < 64) (h : Cv (FN R (n + 1)) k (sd M (R n))) : Cv (FN R n) (k + 1) M := Or.inr ⟨R n, ⟨n, Nat.le_refl _, hn, rfl⟩, fn_dn h⟩
theorem fn_add {R : Nat → Nat} {t k M : Nat} (ht : t < 64) (h : Cv (FN R 0) k (sd M (R t))) : Cv (FN R 0) (k + 1) M := Or.inr ⟨R t, ⟨t, by omega, ht, rfl⟩, h⟩
/-- how it stands when the notes below n are passed: M is left, l notes are to be found -/
def Wk (R : Nat → Nat) (n M l : Nat) : Prop := n ≤ 64 ∧ Cv (FN R n) l M ∧ (∀ j, j < l → ¬ Cv (FN R 0) j M) ∧ (∀ l', l = l' + 1 → ∀ t, t < n → ¬ Cv (FN R 0) l' (sd M (R t)))
theorem wk_lt {R : Nat → Nat} {n M l : Nat} (h : Wk R n M (l + 1)) : n < 64 := by
  by_cases e : n = 64
  · have h2 := h.2.1
    rw [e] at h2
    have h3 := fn_64 h2
    exact absurd (show Cv (FN R 0) 0 M from h3) (h.2.2.1 0 (by omega))
  · have := h.1; omega
theorem wk_is {R : Nat → Nat} {n M l : Nat} (h : Wk R n M (l + 1)) (hi : Cv (FN R (n + 1)) l (sd M (R n))) : Wk R (n + 1) (sd M (R n)) l ∧ Cv (FN R 0) l (sd M (R n)) := by
  have hn := wk_lt h
  obtain ⟨-, h1, h2, h3⟩ := h
  refine ⟨⟨by omega, hi, fun j hj hc => h2 (j + 1) (by omega) (fn_add hn hc), fun l' hl' t ht hc => ?_⟩, fn_0 hi⟩
  by_cases e : t = n
  · rw [e, sd_idem] at hc
    exact h2 (l' + 1) (by omega) (fn_add hn hc)
  · rw [sd_comm3] at hc
    have := fn_add (R := R) hn hc
    rw [← hl'] at this
    exact h3 l rfl t (by omega) this
theorem wk_no {R : Nat → Nat} {n M l : Nat} (h : Wk R n M (l + 1)) (hi : ¬ Cv (FN R (n + 1)) l (sd M (R n))) : Wk R (n + 1) M (l + 1) ∧ ¬ Cv (FN R 0) l (sd M (R n)) := by
  have hn := wk_lt h
  obtain ⟨-, h1, h2, h3⟩ := h
  have key : ¬ Cv (FN R 0) l (sd M (R n)) := fun hc => by
    have up : ∀ t0, t0 ≤ n → Cv (FN R t0) l (sd M (R n)) := fun t0 => by
      induction t0 with
      | zero => intro _; exact hc
      | succ t0 ih =>
        intro ht
        have hp := ih (by omega)
        cases l with
        | zero => exact hp
        | succ l' =>
          rcases fn_st l' _ hp with h4 | h4
          · exact h4
          · rw [sd_comm3] at h4
            exact absurd (fn_add hn (fn_0 h4)) (h3 (l' + 1) rfl t0 (by omega))
    have hp := up n (Nat.le_refl _)
    exact hi (fn_dis l _ (sd_idem M (R n)) hp)
  refine ⟨⟨by omega, ?_, h2, fun l' hl' t ht => ?_⟩, key⟩
  · rcases fn_st l M h1 with h4 | h4
    · exact h4
    · exact absurd h4 hi
  · have : l' = l := by omega
    subst this
    by_cases e : t = n
    · rw [e]; exact key
    · exact h3 l' rfl t (by omega)
noncomputable def US (R : Nat → Nat) (M l t : Nat) : Bool := @decide (Cv (FN R 0) (l - 1) (sd M (R t))) (Classical.propDecidable _)
theorem US_t {R : Nat → Nat} {M l t : Nat} : US R M l t = true ↔ Cv (FN R 0) (l - 1) (sd M (R t)) := by
  unfold US; exact @decide_eq_true_iff _ (Classical.propDecidable _)
/-- the notes one by one: what is left behind k of them; the next one -/
noncomputable def sqM (R : Nat → Nat) (c M : Nat) : Nat → Nat
  | 0 => M
  | k + 1 => sd (sqM R c M k) (R (fsN (US R (sqM R c M k) (c - k)) 64 0))
noncomputable def sqN (R : Nat → Nat) (c M k : Nat) : Nat := fsN (US R (sqM R c M k) (c - k)) 64 0
theorem sqM_s (R : Nat → Nat) (c M k : Nat) : sqM R c M (k + 1) = sd (sqM R c M k) (R (sqN R c M k)) := rfl
theorem sq_ok {R : Nat → Nat} {c M : Nat} (h1 : Cv (FN R 0) c M) (h2 : ∀ j, j < c → ¬ Cv (FN R 0) j M) : ∀ k, k ≤ c → Cv (FN R 0) (c - k) (sqM R c M k) ∧ (∀ j, j < c - k → ¬ Cv (FN R 0) j (sqM R c M k)) ∧ sub (sqM R c M k) M
  | 0, _ => ⟨h1, h2, sub_refl M⟩
  | k + 1, hk => by
    obtain ⟨i1, i2, i3⟩ := sq_ok h1 h2 k (by omega)
    rw [sqM_s]
    have hex : ∃ t, t < 64 ∧ US R (sqM R c M k) (c - k) t = true := by
      rw [show c - k = (c - k - 1) + 1 by omega] at i1
      rcases i1 with h | ⟨w, ⟨t, -, ht, hw⟩, h⟩
      · exact absurd (show Cv (FN R 0) 0 (sqM R c M k) from h) (i2 0 (by omega))
      · rw [hw] at h
        exact ⟨t, ht, US_t.mpr h⟩
    obtain ⟨t, ht, hu⟩ := hex
    obtain ⟨f1, f2, -⟩ := fsN_ok (P := US R (sqM R c M k) (c - k)) (l := t) 64 0 (by omega) (by omega) hu
    have f1 : US R (sqM R c M k) (c - k) (sqN R c M k) = true := f1
    have f2 : sqN R c M k ≤ t := f2
    have f1 := US_t.mp f1
    rw [show c - (k + 1) = c - k - 1 by omega]
    refine ⟨f1, fun j hj hc => ?_, sub_trans (sd_sub _ _) i3⟩
    exact i2 (j + 1) (by omega) (fn_add (by omega) hc)
theorem sq_ex {R : Nat → Nat} {c M k : Nat} (h1 : Cv (FN R 0) c M) (h2 : ∀ j, j < c → ¬ Cv (FN R 0) j M) (hk : k < c) : sqN R c M k < 64 ∧ US R (sqM R c M k) (c - k) (sqN R c M k) = true ∧ ∀ t, t < sqN R c M k → US R (sqM R c M k) (c - k) t = false := by
  obtain ⟨i1, i2, -⟩ := sq_ok h1 h2 k (by omega)
  have hex : ∃ t, t < 64 ∧ US R (sqM R c M k) (c - k) t = true := by
    rw [show c - k = (c - k - 1) + 1 by omega] at i1
    rcases i1 with h | ⟨w, ⟨t, -, ht, hw⟩, h⟩
    · exact absurd (show Cv (FN R 0) 0 (sqM R c M k) from h) (i2 0 (by omega))
    · rw [hw] at h
      exact ⟨t, ht, US_t.mpr h⟩
  obtain ⟨t, ht, hu⟩ := hex
  obtain ⟨f1, f2, -⟩ := fsN_ok (P := US R (sqM R c M k) (c - k)) (l := t) 64 0 (by omega) (by omega) hu
  refine ⟨by have : sqN R c M k ≤ t := f2; omega, f1, fun t' ht' => ?_⟩
  cases hb : US R (sqM R c M k) (c - k) t' with
  | false => rfl
  | true =>
    have ht'' : t' < sqN R c M k := ht'
    have : sqN R c M k ≤ t := f2
    obtain ⟨-, f3, -⟩ := fsN_ok (P := US R (sqM R c M k) (c - k)) (l := t') 64 0 (by omega) (by omega) hb
    have f3 : sqN R c M k ≤ t' := f3
    omega
theorem sq_is {R : Nat → Nat} {c M k n : Nat} (hn : n < 64) (h1 : US R (sqM R c M k) (c - k) n = true) (h2 : ∀ t, t < n → US R (sqM R c M k) (c - k) t = false) : sqN R c M k = n := by
  obtain ⟨f1, f2, -⟩ := fsN_ok (P := US R (sqM R c M k) (c - k)) (l := n) 64 0 (by omega) (by omega) h1
  have f1 : US R (sqM R c M k) (c - k) (sqN R c M k) = true := f1
  have f2 : sqN R c M k ≤ n := f2
  by_cases e : sqN R c M k = n
  · exact e
  · rw [h2 _ (by omega)] at f1; cases f1
/-! the class's side -/
def unN (f : Nat → Nat) : Nat → Nat
  | 0 => 0
  | n + 1 => unN f n ||| f n
theorem unN_lt {f : Nat → Nat} {N : Nat} (h : ∀ p, f p < 2 ^ N) : ∀ n, unN f n < 2 ^ N
  | 0 => Nat.two_pow_pos N
  | n + 1 => Nat.or_lt_two_pow (unN_lt h n) (h n)
def Rn (W : Nat → Nat → Nat) (to t : Nat) : Nat := unN (fun p => if sd (W p t) to = 0 then W p t else 0) 50
theorem Rn_lt {W : Nat → Nat → Nat} {to t n : Nat} (h : ∀ p t, W p t < 2 ^ n) : Rn W to t < 2 ^ n := unN_lt (fun p => by
  show (if sd (W p t) to = 0 then W p t else 0) < 2 ^ n
  split
  · exact h p t
  · exact Nat.two_pow_pos n) 50
theorem reach_c {nm : Nat → Nat} {W : Nat → Nat → Nat} {to t : Nat} {σ : jS} (hm : whNm nm) (ht : t < 64) (hW : ∀ p t, p < 50 → t < 64 → g_i σ 82 (64 * p + t) = nI (W p t) ∧ W p t < 1024) : f_X9_reach nm (nI t) (nI to) σ = some (nI (Rn W to t)) := by
  refine wp_eq ?_
  unfold f_X9_reach
  refine wp_bind ?_
  refine wp_up 50 (fun i s => s = (nI (unN (fun p => if sd (W p t) to = 0 then W p t else 0) i), nI i)) (i := 0) (by omega) (by omega) rfl ?_
  rintro i s hi rfl
  unfold f_X9_reach_L5
  show wp (if nI 50 ≤ nI i then some (Sum.inr (nI (unN (fun p => if sd (W p t) to = 0 then W p t else 0) i))) else (f_X1_at (jn nm [1, 2]) (nI i) (nI t) σ).bind _) _
  refine wp_ite (fun hc => ?_) (fun hc => ?_)
  · rw [nI_le' (by omega) (by omega)] at hc
    have : i = 50 := by omega
    subst this
    exact wp_some (wp_some rfl)
  · rw [nI_le' (by omega) (by omega)] at hc
    refine wp_bindE (hat_c (nm := jn nm [1, 2]) hm.1 (by omega) ht) ?_
    obtain ⟨w1, w2⟩ := hW i t (by omega) ht
    rw [w1]
    have hs : (nI (W i t) &&& (nI to ^^^ (-1))) = 0 ↔ sub (W i t) to := nI_sub (Nat.lt_of_lt_of_le w2 (by decide))
    refine wp_ite (fun h => ?_) (fun h => ?_)
    · have h : sd (W i t) to = 0 := hs.mp h
      refine wp_bd (fun x hx => wp_some ⟨by omega, ?_⟩)
      rw [hx, nI_or, nI_1]
      show _ = (nI (unN _ i ||| (if sd (W i t) to = 0 then W i t else 0)), _)
      rw [if_pos h]
    · have h : ¬ sd (W i t) to = 0 := fun z => h (hs.mpr z)
      refine wp_some ⟨by omega, ?_⟩
      rw [nI_1]
      show _ = (nI (unN _ i ||| (if sd (W i t) to = 0 then W i t else 0)), _)
      rw [if_neg h, Nat.or_zero]
def wFn (a _k : Nat) : Bool := decide (87 ≤ a ∧ a ≤ 90)
theorem notes_c {nm : Nat → Nat} {W : Nat → Nat → Nat} {from' to : Nat} {σ : jS} (hm : whNm nm) (hW : ∀ p t, p < 50 → t < 64 → g_i σ 82 (64 * p + t) = nI (W p t) ∧ W p t < 1024) (hWl : ∀ p t, W p t < 2 ^ 10) (hf : from' < 1024) (ht : to < 1024) : ∃ r τ, f_X9_fewestNotes nm (nI from') (nI to) σ = some (r, τ) ∧ ux wFn σ τ ∧ ((¬ sub from' to ∧ r = -1) ∨ (sub from' to ∧ ∃ v, v ≤ 100000 ∧ Lst (FN (Rn W to) 0) v (sd to from') ∧ TL (FN (Rn W to) 0) (sd to from') (sd to from' + 1) τ ∧ (∀ t, t < 64 → g_i τ 90 t = nI (Rn W to t &&& sd to from')) ∧ r = if v < 100000 then nI v else -1)) := by
  have m6 := hm.2.2.2.2.1
  have m7 := hm.2.2.2.2.2.1
  have m9 := hm.2.2.2.2.2.2.2
  have hsub : (nI from' &&& (nI to ^^^ (-1))) = 0 ↔ sub from' to := nI_sub (Nat.lt_of_lt_of_le hf (by decide))
  unfold f_X9_fewestNotes
  by_cases hs : sub from' to
  · rw [if_pos (hsub.mpr hs), bdx, nI_sd]
    have hmis : sd to from' < 1024 := sd_lt (n := 10) ht
    generalize hM : sd to from' = M at hmis
    have ee : f_X4_empty (jn nm [6, 7]) 256 σ = some (s_i σ 87 1 0) := by
      show some (s_i σ (nm 6) 1 0) = _
      rw [m6]
    rw [ee, bnd]
    have hRl : ∀ t, Rn W to t < 1024 := fun t => Rn_lt (n := 10) hWl
    have loop : ∃ (τ : jS) (n : Nat) (b : Nat → Nat), lp (f_X9_fewestNotes_L26 nm (nI to) (nI M)) fu (0, s_i σ 87 1 0) = some τ ∧ ux wFn σ τ ∧ RowS 87 88 b n τ ∧ AC b n ∧ (∀ k, k < n → ∃ w, FN (Rn W to) 0 w ∧ b k = w &&& M) ∧ (∀ t, t < 64 → g_i τ 90 t = nI (Rn W to t &&& M) ∧ (Rn W to t &&& M ≠ 0 → ∃ k, k < n ∧ sub (Rn W to t &&& M) (b k))) := by
      suffices wp (lp (f_X9_fewestNotes_L26 nm (nI to) (nI M)) fu (0, s_i σ 87 1 0)) (fun τ => ∃ (n : Nat) (b : Nat → Nat), ux wFn σ τ ∧ RowS 87 88 b n τ ∧ AC b n ∧ (∀ k, k < n → ∃ w, FN (Rn W to) 0 w ∧ b k = w &&& M) ∧ (∀ t, t < 64 → g_i τ 90 t = nI (Rn W to t &&& M) ∧ (Rn W to t &&& M ≠ 0 → ∃ k, k < n ∧ sub (Rn W to t &&& M) (b k)))) by
        obtain ⟨τ, e, n, b, h⟩ := this
        exact ⟨τ, n, b, e, h⟩
      refine wp_up 64 (fun i s => s.1 = nI i ∧ ∃ (n : Nat) (b : Nat → Nat), ux wFn σ s.2 ∧ RowS 87 88 b n s.2 ∧ AC b n ∧ (∀ k, k < n → ∃ w, FN (Rn W to) 0 w ∧ b k = w &&& M) ∧ (∀ t, t < i → g_i s.2 90 t = nI (Rn W to t &&& M) ∧ (Rn W to t &&& M ≠ 0 → ∃ k, k < n ∧ sub (Rn W to t &&& M) (b k)))) (i := 0) (by omega) (by omega) ⟨rfl, 0, fun _ => 0, ux_s (ux_refl _ _) rfl, ⟨s_i_eq _ _ _ _, fun k hk => absurd hk (Nat.not_lt_zero k)⟩, fun i j hi => absurd hi (Nat.not_lt_zero i), fun k hk => absurd hk (Nat.not_lt_zero k), fun t ht => absurd ht (Nat.not_lt_zero t)⟩ ?_
      rintro i ⟨v, τ⟩ hi ⟨hv, n, b, hu, hr, hac, hb1, hb2⟩
      have hv : v = nI i := hv
      have hu : ux wFn σ τ := hu
      have hr : RowS 87 88 b n τ := hr
      have hb2 : ∀ t, t < i → g_i τ 90 t = nI (Rn W to t &&& M) ∧ (Rn W to t &&& M ≠ 0 → ∃ k, k < n ∧ sub (Rn W to t &&& M) (b k)) := hb2
      subst hv
      unfold f_X9_fewestNotes_L26
      show wp (if nI 64 ≤ nI i then some (Sum.inr τ) else _) _
      refine wp_ite (fun hc => ?_) (fun hc => ?_)
      · rw [nI_le' (by omega) (by omega)] at hc
        exact wp_some ⟨n, b, hu, hr, hac, hb1, fun t ht => hb2 t (by omega)⟩
      · rw [nI_le' (by omega) (by omega)] at hc
        refine wp_bindE (reach_c hm (by omega) (fun p t hp ht => by rw [hu 82 _ rfl]; exact hW p t hp ht)) ?_
        refine wp_gd (nI_in' (by omega) (by omega)) (wp_bd (fun s4 h4 => wp_gd (nI_in' (by omega) (by omega)) ?_))
        rw [nI_and, nI_cl (by omega), m9] at h4
        have hx : Rn W to i &&& M < 1024 := Nat.lt_of_le_of_lt Nat.and_le_left (hRl i)
        have e90 : g_i s4 90 i = nI (Rn W to i &&& M) := by rw [h4]; exact s_i_eq _ _ _ _
        have o90 : ∀ t, t ≠ i → g_i s4 90 t = g_i τ 90 t := fun t h => by rw [h4]; exact s_i_k h
        have u4 : ux wFn σ s4 := by rw [h4]; exact ux_s hu rfl
        have r4 : RowS 87 88 b n s4 := by
          refine ⟨by rw [h4]; exact (s_i_a (by decide)).trans hr.1, fun k hk => ?_⟩
          rw [h4, s_i_a (by decide)]; exact hr.2 k hk
        rw [nI_cl (by omega), m9, e90]
        refine wp_ite (fun hz => ?_) (fun hz => ?_)
        · rw [nI_z (by omega)] at hz
          refine wp_some ⟨by omega, nI_1 i, n, b, u4, r4, hac, hb1, fun t ht => ?_⟩
          show g_i s4 90 t = _ ∧ _
          by_cases e : t = i
          · rw [e]; exact ⟨e90, fun h => absurd hz h⟩
          · rw [o90 t e]; exact hb2 t (by omega)
        · rw [nI_z (by omega)] at hz
          have hn252 := ac_252 hac (fun k hk => (hr.2 k hk).2)
          obtain ⟨ρ, n', b', ep, up, hn', hr', hac', hp1, hp2, hp3⟩ := pil_c (nm := jn nm [6, 7]) (c0 := 87) (c1 := 88) (N := 256) m6 m7 (by decide) (by omega) (by omega) hx r4 hac
          refine wp_gd (nI_in' (by omega) (by omega)) (wp_bindE ep (wp_some ⟨by omega, nI_1 i, n', b', ux_tr u4 (ux_w up (fun a k hk => decide_eq_false (fun e => (of_decide_eq_false hk) (by omega)))), hr', hac', fun k hk => ?_, fun t ht => ?_⟩))
          · rcases hp1 k hk with e | ⟨j, hj, e⟩
            · exact ⟨Rn W to i, ⟨i, by omega, by omega, rfl⟩, e⟩
            · rw [e]; exact hb1 j hj
          · show g_i ρ 90 t = _ ∧ _
            rw [up 90 t rfl]
            by_cases e : t = i
            · rw [e]; exact ⟨e90, fun _ => hp3⟩
            · rw [o90 t e]
              obtain ⟨z1, z2⟩ := hb2 t (by omega)
              refine ⟨z1, fun h => ?_⟩
              obtain ⟨k, hk, hsk⟩ := z2 h
              obtain ⟨k', hk', hsk'⟩ := hp2 k hk
              exact ⟨k', hk', sub_trans hsk hsk'⟩
    obtain ⟨τ, n, b, e, hu, hr, hac, hb1, hb2⟩ := loop
    rw [e, bnd]
    have hG : GOk (FN (Rn W to) 0) M b n := by
      refine ⟨hb1, fun w hw hz => ?_⟩
      obtain ⟨t, -, ht', rfl⟩ := hw
      exact (hb2 t ht').2 hz
    have hn252 := ac_252 hac (fun k hk => (hr.2 k hk).2)
    obtain ⟨ρ, v, ev, uv, hl, hv, hTL⟩ := hold_c hm hr (by omega) hmis hG
    rw [ev, bnd]
    refine ⟨_, ρ, rfl, ?_, Or.inr ⟨hs, v, hv, hl, hTL, fun t ht => (uv 90 t rfl).trans (hb2 t ht).1, rfl⟩⟩
    exact ux_tr hu (ux_w uv (fun a k hk => decide_eq_false (fun e => (of_decide_eq_false hk) (by omega))))
  · rw [if_neg (fun e => hs (hsub.mp e))]
    exact ⟨_, σ, rfl, ux_refl _ _, Or.inl ⟨hs, rfl⟩⟩
