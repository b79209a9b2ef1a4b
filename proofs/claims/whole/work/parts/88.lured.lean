/-! how few sounds: class side -/
def FamL (W : Nat → Nat → Nat) (nb : Nat → Bool) (to w : Nat) : Prop := w ≠ 0 ∧ sub w to ∧ ∃ p t, p < 50 ∧ t < 64 ∧ nb t = true ∧ W p t = w
def wFs (a _k : Nat) : Bool := decide (87 ≤ a ∧ a ≤ 89)
theorem sounds_c {nm : Nat → Nat} {W : Nat → Nat → Nat} {nb : Nat → Bool} {from' to : Nat} {σ : jS} (hm : whNm nm) (hS : SOk W nb (fun _ _ => True) σ) (hf : from' < 1024) (ht : to < 1024) : ∃ r τ, f_X9_fewestSounds nm (nI from') (nI to) σ = some (r, τ) ∧ ux wFs σ τ ∧ ((¬ sub from' to ∧ r = -1) ∨ (sub from' to ∧ ∃ v, v ≤ 100000 ∧ Lst (FamL W nb to) v (sd to from') ∧ r = if v < 100000 then nI v else -1)) := by
  obtain ⟨m, a, h1, h2, h3, h4, h5, h6⟩ := hS
  have m3 := hm.2.1
  have m4 := hm.2.2.1
  have m6 := hm.2.2.2.2.1
  have m7 := hm.2.2.2.2.2.1
  have hsub : (nI from' &&& (nI to ^^^ (-1))) = 0 ↔ sub from' to := nI_sub (Nat.lt_of_lt_of_le hf (by decide))
  unfold f_X9_fewestSounds
  by_cases hs : sub from' to
  · rw [if_pos (hsub.mpr hs), bdx, nI_sd]
    have hmis : sd to from' < 1024 := sd_lt (n := 10) ht
    generalize hM : sd to from' = M at hmis
    have ee : f_X4_empty (jn nm [6, 7]) 256 σ = some (s_i σ 87 1 0) := by
      show some (s_i σ (nm 6) 1 0) = _
      rw [m6]
    rw [ee, bnd]
    have loop : ∃ τ n b, lp (f_X9_fewestSounds_L26 nm (nI to) (nI M)) fu (0, s_i σ 87 1 0) = some τ ∧ ux (fun a _ => decide (87 ≤ a ∧ a ≤ 88)) σ τ ∧ RowS 87 88 b n τ ∧ AC b n ∧ (∀ k, k < n → ∃ w, FamL W nb to w ∧ b k = w &&& M) ∧ (∀ j, j < m → sub (a j) to → a j &&& M ≠ 0 → ∃ k, k < n ∧ sub (a j &&& M) (b k)) := by
      suffices wp (lp (f_X9_fewestSounds_L26 nm (nI to) (nI M)) fu (0, s_i σ 87 1 0)) (fun τ => ∃ n b, ux (fun a _ => decide (87 ≤ a ∧ a ≤ 88)) σ τ ∧ RowS 87 88 b n τ ∧ AC b n ∧ (∀ k, k < n → ∃ w, FamL W nb to w ∧ b k = w &&& M) ∧ (∀ j, j < m → sub (a j) to → a j &&& M ≠ 0 → ∃ k, k < n ∧ sub (a j &&& M) (b k))) by
        obtain ⟨τ, e, n, b, h⟩ := this
        exact ⟨τ, n, b, e, h⟩
      refine wp_up m (fun i s => s.1 = nI i ∧ ∃ n b, ux (fun a _ => decide (87 ≤ a ∧ a ≤ 88)) σ s.2 ∧ RowS 87 88 b n s.2 ∧ AC b n ∧ (∀ k, k < n → ∃ w, FamL W nb to w ∧ b k = w &&& M) ∧ (∀ j, j < i → sub (a j) to → a j &&& M ≠ 0 → ∃ k, k < n ∧ sub (a j &&& M) (b k))) (i := 0) (by omega) (by omega) ⟨rfl, 0, fun _ => 0, ux_s (ux_refl _ _) rfl, ⟨s_i_eq _ _ _ _, fun k hk => absurd hk (Nat.not_lt_zero k)⟩, fun i j hi => absurd hi (Nat.not_lt_zero i), fun k hk => absurd hk (Nat.not_lt_zero k), fun j hj => absurd hj (Nat.not_lt_zero j)⟩ ?_
      rintro i ⟨v, τ⟩ hi ⟨hv, n, b, hu, hr, hac, hb1, hb2⟩
      have hv : v = nI i := hv
      have hu : ux (fun a _ => decide (87 ≤ a ∧ a ≤ 88)) σ τ := hu
      have hr : RowS 87 88 b n τ := hr
      subst hv
      unfold f_X9_fewestSounds_L26
      have e84 : g_i τ 84 1 = nI m := (hu 84 1 rfl).trans h2.1
      have hsz : f_X4_size (jn nm [3, 4]) 1024 τ = some (nI m) := by
        show some (g_i τ (nm 3) 1) = _
        rw [m3, e84]
      show wp ((f_X4_size (jn nm [3, 4]) 1024 τ).bind _) _
      refine wp_bindE hsz ?_
      refine wp_ite (fun hc => ?_) (fun hc => ?_)
      · rw [nI_le' (by omega) (by omega)] at hc
        have : i = m := by omega
        subst this
        exact wp_some ⟨n, b, hu, hr, hac, hb1, hb2⟩
      · rw [nI_le' (by omega) (by omega)] at hc
        obtain ⟨q1, q2⟩ := h2.2 i (by omega)
        have hat : f_X4_at (jn nm [3, 4]) 1024 (nI i) τ = some (nI (a i)) := by
          rw [row_atI (n := m) (by show g_i τ (nm 3) 1 = _; rw [m3]; exact e84) h1 (by omega) (by omega)]
          show some (g_i τ (nm 4) i) = _
          rw [m4, hu 85 i rfl, q1]
        refine wp_bindE hat ?_
        have hsi : (nI (a i) &&& (nI to ^^^ (-1))) = 0 ↔ sub (a i) to := nI_sub (Nat.lt_of_lt_of_le q2 (by decide))
        have hlt : a i &&& M < 1024 := Nat.lt_of_le_of_lt Nat.and_le_left q2
        have stay : ¬ (sub (a i) to ∧ a i &&& M ≠ 0) → i < m ∧ nI i + 1 = nI (i + 1) ∧ ∃ n b, ux (fun a _ => decide (87 ≤ a ∧ a ≤ 88)) σ τ ∧ RowS 87 88 b n τ ∧ AC b n ∧ (∀ k, k < n → ∃ w, FamL W nb to w ∧ b k = w &&& M) ∧ (∀ j, j < i + 1 → sub (a j) to → a j &&& M ≠ 0 → ∃ k, k < n ∧ sub (a j &&& M) (b k)) := fun hno => ⟨by omega, nI_1 i, n, b, hu, hr, hac, hb1, fun j hj hj1 hj2 => by
          by_cases e : j = i
          · rw [e] at hj1 hj2; exact absurd ⟨hj1, hj2⟩ hno
          · exact hb2 j (by omega) hj1 hj2⟩
        refine wp_ite (fun hs1 => ?_) (fun hs1 => ?_)
        · have hs1 := hsi.mp hs1
          rw [nI_and]
          refine wp_ite (fun hz => ?_) (fun hz => ?_)
          · rw [nI_z (by omega)] at hz
            exact wp_some (stay (fun h => h.2 hz))
          · rw [nI_z (by omega)] at hz
            have hn252 := ac_252 hac (fun k hk => (hr.2 k hk).2)
            obtain ⟨ρ, n', b', ep, up, hn', hr', hac', hp1, hp2, hp3⟩ := pil_c (nm := jn nm [6, 7]) (c0 := 87) (c1 := 88) (N := 256) m6 m7 (by decide) (by omega) (by omega) hlt hr hac
            refine wp_bindE ep (wp_some ⟨by omega, nI_1 i, n', b', ux_tr hu (ux_w up (fun a k hk => decide_eq_false (fun e => (of_decide_eq_false hk) (by omega)))), hr', hac', fun k hk => ?_, fun j hj hj1 hj2 => ?_⟩)
            · rcases hp1 k hk with e | ⟨j, hj, e⟩
              · obtain ⟨p, t, z1, z2, z3, z4⟩ := h4 i (by omega)
                refine ⟨a i, ⟨fun z => hz (by rw [z]; exact Nat.zero_and _), hs1, p, t, z1, z2, z3, z4.symm⟩, e⟩
              · rw [e]; exact hb1 j hj
            · by_cases e : j = i
              · rw [e]; exact hp3
              · obtain ⟨k, hk, hsk⟩ := hb2 j (by omega) hj1 hj2
                obtain ⟨k', hk', hsk'⟩ := hp2 k hk
                exact ⟨k', hk', sub_trans hsk hsk'⟩
        · exact wp_some (stay (fun h => hs1 (hsi.mpr h.1)))
    obtain ⟨τ, n, b, e, hu, hr, hac, hb1, hb2⟩ := loop
    rw [e, bnd]
    have hG : GOk (FamL W nb to) M b n := by
      refine ⟨hb1, fun w hw hz => ?_⟩
      obtain ⟨hw0, hws, p, t, hp, ht', hb, hwe⟩ := hw
      obtain ⟨k, hk, ek⟩ := h5 p t hp ht' trivial hb
      have hk2 := hb2 k hk
      rw [ek, hwe] at hk2
      exact hk2 hws hz
    have hn252 := ac_252 hac (fun k hk => (hr.2 k hk).2)
    obtain ⟨ρ, v, ev, uv, hl, hv, -⟩ := hold_c hm hr (by omega) hmis hG
    rw [ev, bnd]
    refine ⟨_, ρ, rfl, ?_, Or.inr ⟨hs, v, hv, hl, rfl⟩⟩
    exact ux_tr (ux_w hu (fun a k hk => decide_eq_false (fun e => (of_decide_eq_false hk) (by omega)))) (ux_w uv (fun a k hk => decide_eq_false (fun e => (of_decide_eq_false hk) (by omega))))
  · rw [if_neg (fun e => hs (hsub.mp e))]
    exact ⟨_, σ, rfl, ux_refl _ _, Or.inl ⟨hs, rfl⟩⟩
/-! how few sounds: from one set to another, step by step -/
def Fm (Fam : Nat → Prop) (from' : Nat) : Nat → Nat → Prop
  | 0, S => S = from'
  | k + 1, S => Fm Fam from' k S ∨ ∃ S' w, Fm Fam from' k S' ∧ Fam w ∧ S' ||| w = S
theorem sd_or (to S w : Nat) : sd to (S ||| w) = sd (sd to S) w := by
  apply Nat.eq_of_testBit_eq
  intro i
  rw [sd_bit, sd_bit, sd_bit, Nat.testBit_or]
  cases to.testBit i <;> cases S.testBit i <;> cases w.testBit i <;> rfl
theorem fm_to {Fam : Nat → Prop} {from' to : Nat} : ∀ j k S, Fm Fam from' j S → Cv Fam k (sd to S) → Cv Fam (j + k) (sd to from')
  | 0, k, S, h, hc => by
    have h : S = from' := h
    rw [h] at hc
    rw [Nat.zero_add]; exact hc
  | j + 1, k, S, h, hc => by
    rcases h with h | ⟨S', w, h, hw, e⟩
    · have := fm_to j k S h hc
      rw [show j + 1 + k = j + k + 1 by omega]
      exact cv_up _ _ this
    · rw [← e, sd_or] at hc
      have := fm_to j (k + 1) S' h (Or.inr ⟨w, hw, hc⟩)
      rw [show j + 1 + k = j + (k + 1) by omega]
      exact this
theorem fm_le {Fam : Nat → Prop} {from' k j S : Nat} (hkj : k ≤ j) (h : Fm Fam from' k S) : Fm Fam from' j S := by
  obtain ⟨d, rfl⟩ : ∃ d, j = k + d := ⟨j - k, by omega⟩
  clear hkj
  induction d with
  | zero => exact h
  | succ d ih => exact Or.inl ih
theorem sub_or {a b c : Nat} (h1 : sub a c) (h2 : sub b c) : sub (a ||| b) c := sub_iff.mpr (fun i hi => by
  rw [Nat.testBit_or] at hi
  rcases Bool.or_eq_true_iff.mp hi with h | h
  · exact sub_iff.mp h1 i h
  · exact sub_iff.mp h2 i h)
theorem sd_eq0 {S to : Nat} (h1 : sub S to) (h2 : sd to S = 0) : S = to := sub_antisymm h1 h2
theorem fm_of {Fam : Nat → Prop} {from' to : Nat} (hF : ∀ w, Fam w → sub w to) : ∀ k S j, sub S to → Fm Fam from' j S → Cv Fam k (sd to S) → Fm Fam from' (j + k) to
  | 0, S, j, hs, hf, hc => by
    rw [sd_eq0 hs hc] at hf; exact hf
  | k + 1, S, j, hs, hf, hc => by
    rcases hc with hc | ⟨w, hw, hc⟩
    · rw [sd_eq0 hs hc] at hf
      exact fm_le (by omega) hf
    · rw [← sd_or] at hc
      have := fm_of hF k (S ||| w) (j + 1) (sub_or hs (hF w hw)) (Or.inr ⟨S, w, hf, hw, rfl⟩) hc
      rw [show j + (k + 1) = j + 1 + k by omega]; exact this
theorem fm_iff {Fam : Nat → Prop} {from' to : Nat} (hF : ∀ w, Fam w → sub w to) (hs : sub from' to) (k : Nat) : Fm Fam from' k to ↔ Cv Fam k (sd to from') := by
  constructor
  · intro h
    exact fm_to k 0 to h (show sd to to = 0 from sub_refl to)
  · intro h
    have := fm_of hF k from' 0 hs rfl h
    rw [Nat.zero_add] at this; exact this
theorem fm_ge {Fam : Nat → Prop} {from' : Nat} : ∀ k S, Fm Fam from' k S → from' ≤ S
  | 0, S, h => by have h : S = from' := h; omega
  | k + 1, S, h => by
    rcases h with h | ⟨S', w, h, -, e⟩
    · exact fm_ge k S h
    · have h1 := fm_ge k S' h
      have h2 : S' ≤ S' ||| w := Nat.left_le_or
      omega
