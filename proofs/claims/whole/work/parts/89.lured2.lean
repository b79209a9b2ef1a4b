/-! how few sounds: reference side -/
theorem div64a : ∀ p, p < 50 → ∀ t, t < 64 → nI (64 * p + t) / 64 = nI p ∧ nI (64 * p + t) - nI (64 * p + t) / 64 * 64 = nI t := by decide +kernel
theorem div64 (k : Nat) (hk : k < 3200) : nI k / 64 = nI (k / 64) ∧ nI k - nI k / 64 * 64 = nI (k % 64) := by
  have h := div64a (k / 64) (by omega) (k % 64) (Nat.mod_lt _ (by omega))
  rw [show 64 * (k / 64) + k % 64 = k from Nat.div_add_mod k 64] at h
  exact h
/-- which sets a sound wakes, marked -/
def CWk (W : Nat → Nat → Nat) (nb : Nat → Bool) (n i : Nat) (σ : jS) : Prop := ∀ x, x < 2 ^ n → (g_i σ 117 x = 0 ∧ ∀ k, k < i → nb (k % 64) = true → W (k / 64) (k % 64) ≠ x) ∨ (g_i σ 117 x = 1 ∧ ∃ k, k < i ∧ nb (k % 64) = true ∧ W (k / 64) (k % 64) = x)
def wLu (a _k : Nat) : Bool := decide (117 ≤ a ∧ a ≤ 118)
/-- the counts so far: each is a way; and those behind cur are passed on -/
def FS (Fam : Nat → Prop) (n from' cur : Nat) (d : Nat → Nat) : Prop := d from' = 0 ∧ (∀ T, d T ≤ 1000000) ∧ (∀ T, T < 2 ^ n → d T < 1000000 → Fm Fam from' (d T) T) ∧ (∀ S, S < cur → S < 2 ^ n → ∀ k w, Fm Fam from' k S → Fam w → d (S ||| w) ≤ k + 1)
theorem fs_exact {Fam : Nat → Prop} {n from' cur : Nat} {d : Nat → Nat} (h : FS Fam n from' cur d) (hc : cur < 2 ^ n) : ∀ k, Fm Fam from' k cur → d cur ≤ k
  | 0, hf => by
    have hf : cur = from' := hf
    rw [hf, h.1]; omega
  | k + 1, hf => by
    rcases hf with hf | ⟨S', w, hf, hw, e⟩
    · have := fs_exact h hc k hf; omega
    · have hle : S' ≤ S' ||| w := Nat.left_le_or
      by_cases e2 : S' = cur
      · rw [e2] at hf
        have := fs_exact h hc k hf; omega
      · have := h.2.2.2 S' (by omega) (by omega) k w hf hw
        rw [e] at this; exact this
theorem lured_c {n m from' to : Nat} {notes : Int64} {lo : Int32} {σ : jS} (hS : RSite n m σ) (hN : RNow n σ) (hlo : rg lo 1 50) (hf : from' < 2 ^ n) (ht : to < 2 ^ n) : ∃ r τ, f_X11_luredBy nmM (nI from') (nI to) notes lo σ = some (r, τ) ∧ ux wLu σ τ ∧ ((¬ sub from' to ∧ r = -1) ∨ (sub from' to ∧ ∃ v, v ≤ 1000000 ∧ ((v < 1000000 ∧ Cv (FamL (Wt σ n lo) (bN notes.toBitVec) to) v (sd to from')) ∨ v = 1000000) ∧ (∀ k, Cv (FamL (Wt σ n lo) (bN notes.toBitVec) to) k (sd to from') → v ≤ k) ∧ r = if v < 1000000 then nI v else -1)) := by
  have hn := hS.1.1
  have hp := pow10 hn
  have h0 := hS.2.1.2.2.2.2
  have hsub : (nI from' &&& (nI to ^^^ (-1))) = 0 ↔ sub from' to := nI_sub (Nat.lt_of_lt_of_le (show from' < 1024 by omega) (by decide))
  unfold f_X11_luredBy
  by_cases hs : ¬ sub from' to
  · rw [if_neg (fun e => hs (hsub.mp e))]
    exact ⟨_, σ, rfl, ux_refl _ _, Or.inl ⟨hs, rfl⟩⟩
  have hs := Classical.not_not.mp hs
  rw [if_pos (hsub.mpr hs)]
  generalize hWd : Wt σ n lo = W
  have hWlt : ∀ p t, W p t < 2 ^ n := fun p t => by rw [← hWd]; exact Wt_lt _ _ _ _ _
  generalize hnbd : bN notes.toBitVec = nb
  -- first: all is cleared
  have l1 : ∃ τ, lp (f_X11_luredBy_L13 nmM (nI from') (nI to) notes lo) fu (0, σ) = some τ ∧ ux wLu σ τ ∧ ∀ x, x < 2 ^ n → g_i τ 117 x = 0 ∧ g_i τ 118 x = nI 1000000 := by
    suffices wp (lp (f_X11_luredBy_L13 nmM (nI from') (nI to) notes lo) fu (0, σ)) (fun τ => ux wLu σ τ ∧ ∀ x, x < 2 ^ n → g_i τ 117 x = 0 ∧ g_i τ 118 x = nI 1000000) by
      obtain ⟨τ, e, h⟩ := this
      exact ⟨τ, e, h⟩
    refine wp_up (2 ^ n) (fun i s => s.1 = nI i ∧ ux wLu σ s.2 ∧ ∀ x, x < i → g_i s.2 117 x = 0 ∧ g_i s.2 118 x = nI 1000000) (i := 0) (by omega) (by omega) ⟨rfl, ux_refl _ _, fun x hx => absurd hx (Nat.not_lt_zero x)⟩ ?_
    rintro i ⟨v, τ⟩ hi ⟨hv, hu, hk⟩
    have hv : v = nI i := hv
    have hu : ux wLu σ τ := hu
    have hk : ∀ x, x < i → g_i τ 117 x = 0 ∧ g_i τ 118 x = nI 1000000 := hk
    subst hv
    unfold f_X11_luredBy_L13
    have eall : f_X11_all nmM τ = some (nI (2 ^ n - 1)) := by
      show some (((1 : Int32) <<< (g_i τ 101 0 &&& 31)) - 1) = _
      rw [hu 101 0 rfl, h0, all_eq n hn]
    show wp ((f_X11_all nmM τ).bind _) _
    refine wp_bindE eall ?_
    have hp1 := Nat.two_pow_pos n
    refine wp_ite (fun hc => ?_) (fun hc => ?_)
    · rw [nI_lt' (by omega) (by omega)] at hc
      exact wp_some ⟨hu, fun x hx => hk x (by omega)⟩
    · rw [nI_lt' (by omega) (by omega)] at hc
      refine wp_gd (nI_in' (by omega) (by omega)) (wp_bd (fun s2 h2 => wp_gd (nI_in' (by omega) (by omega)) (wp_bd (fun s3 h3 => wp_some ⟨by omega, nI_1 i, ?_, fun x hx => ?_⟩))))
      · rw [h3, h2]; exact ux_s (ux_s hu rfl) rfl
      · show g_i s3 117 x = 0 ∧ g_i s3 118 x = nI 1000000
        rw [h3, h2, nI_cl (by omega)]
        show g_i (s_i (s_i τ 117 i 0) 118 i 1000000) 117 x = 0 ∧ g_i (s_i (s_i τ 117 i 0) 118 i 1000000) 118 x = nI 1000000
        rw [s_i_a (by decide)]
        by_cases e : x = i
        · rw [e, s_i_eq, s_i_eq]; exact ⟨rfl, rfl⟩
        · rw [s_i_k e, s_i_k e, s_i_a (by decide)]; exact hk x (by omega)
  obtain ⟨τ1, e1, u1, z1⟩ := l1
  rw [e1, bnd]
  -- second: what sounds wake
  have l2 : ∃ τ, lp (f_X11_luredBy_L49 nmM (nI from') (nI to) notes lo) fu (0, τ1) = some τ ∧ ux (fun a _ => decide (a = 117)) τ1 τ ∧ CWk W nb n 3200 τ := by
    suffices wp (lp (f_X11_luredBy_L49 nmM (nI from') (nI to) notes lo) fu (0, τ1)) (fun τ => ux (fun a _ => decide (a = 117)) τ1 τ ∧ CWk W nb n 3200 τ) by
      obtain ⟨τ, e, h⟩ := this
      exact ⟨τ, e, h⟩
    refine wp_up 3200 (fun i s => s.1 = nI i ∧ ux (fun a _ => decide (a = 117)) τ1 s.2 ∧ CWk W nb n i s.2) (i := 0) (by omega) (by omega) ⟨rfl, ux_refl _ _, fun x hx => Or.inl ⟨(z1 x hx).1, fun k hk => absurd hk (Nat.not_lt_zero k)⟩⟩ ?_
    rintro i ⟨v, τ⟩ hi ⟨hv, hu, hk⟩
    have hv : v = nI i := hv
    have hu : ux (fun a _ => decide (a = 117)) τ1 τ := hu
    have hk : CWk W nb n i τ := hk
    subst hv
    unfold f_X11_luredBy_L49
    show wp (if nI 3200 ≤ nI i then some (Sum.inr τ) else _) _
    refine wp_ite (fun hc => ?_) (fun hc => ?_)
    · rw [nI_le' (by omega) (by omega)] at hc
      have : i = 3200 := by omega
      subst this
      exact wp_some ⟨hu, hk⟩
    · rw [nI_le' (by omega) (by omega)] at hc
      obtain ⟨d1, d2⟩ := div64 i (by omega)
      have hm64 : i % 64 < 64 := Nat.mod_lt _ (by omega)
      have hd64 : i / 64 < 50 := by omega
      rw [d2, d1]
      refine wp_gd (by decide) ?_
      have hno := note_m notes hm64
      rw [hnbd] at hno
      refine wp_bindE hno ?_
      have h64 : ¬ (64 : Int32) = 0 := by decide
      cases hb : nb (i % 64) with
      | false =>
        rw [if_pos (show (if false = true then (1 : Int32) else 0) = 0 by decide)]
        refine wp_some ⟨by omega, nI_1 i, hu, fun x hx => ?_⟩
        rcases hk x hx with ⟨y1, y2⟩ | ⟨y1, k, y2, y3⟩
        · refine Or.inl ⟨y1, fun k hk2 hkb => ?_⟩
          by_cases e : k = i
          · rw [e, hb] at hkb; cases hkb
          · exact y2 k (by omega) hkb
        · exact Or.inr ⟨y1, k, by omega, y3⟩
      | true =>
        rw [if_neg (show ¬ (if true = true then (1 : Int32) else 0) = 0 by decide)]
        refine wp_gd h64 (wp_gd h64 ?_)
        have u01 : ux wLu σ τ := ux_tr u1 (ux_w hu (fun a k hk => decide_eq_false (fun e => (of_decide_eq_false hk) (by omega))))
        have hSτ : RSite n m τ := RSite.cg u01 ⟨fun _ => rfl, fun _ => rfl, fun _ => rfl, fun _ => rfl, fun _ => rfl, fun _ => rfl, fun _ => rfl, fun _ => rfl, fun _ => rfl, fun _ => rfl, fun _ => rfl, fun _ => rfl, fun _ => rfl, fun _ => rfl, fun _ => rfl, fun _ => rfl, fun _ => rfl, rfl, rfl, rfl, rfl, rfl⟩ (fun l _ => ⟨rfl, rfl, rfl⟩) hS
        have hNτ : RNow n τ := RNow.cg u01 ⟨fun _ => rfl, fun _ => rfl, fun _ => rfl, fun _ => rfl, fun _ => rfl, fun _ => rfl, fun _ => rfl, rfl, rfl, rfl, rfl, rfl, rfl, rfl, rfl⟩ (fun _ _ => rfl) hN
        have hWτ : Wt τ n lo = W := by
          rw [← hWd]
          funext p t
          unfold Wt
          congr 1
          funext l
          unfold hd
          rw [u01 (57 + 1) l rfl, u01 39 l rfl, u01 57 6 rfl, u01 37 l rfl, u01 33 l rfl]
        have hwk := mwk hSτ hNτ hd64 hm64 hlo
        rw [hWτ] at hwk
        refine wp_bindE hwk ?_
        have hlt := hWlt (i / 64) (i % 64)
        refine wp_gd (nI_in' (by omega) (by omega)) (wp_bd (fun s7 h7 => wp_some ⟨by omega, nI_1 i, ?_, fun x hx => ?_⟩))
        · rw [h7]; exact ux_s hu (decide_eq_true rfl)
        · show (g_i s7 117 x = 0 ∧ _) ∨ (g_i s7 117 x = 1 ∧ _)
          rw [h7, nI_cl (by omega)]
          show (g_i (s_i τ 117 (W (i / 64) (i % 64)) 1) 117 x = 0 ∧ _) ∨ (g_i (s_i τ 117 (W (i / 64) (i % 64)) 1) 117 x = 1 ∧ _)
          by_cases e : x = W (i / 64) (i % 64)
          · exact Or.inr ⟨by rw [e]; exact s_i_eq _ _ _ _, i, by omega, hb, e.symm⟩
          · rw [s_i_k e]
            rcases hk x hx with ⟨y1, y2⟩ | ⟨y1, k, y2, y3⟩
            · refine Or.inl ⟨y1, fun k hk2 hkb => ?_⟩
              by_cases e2 : k = i
              · rw [e2]; exact fun z => e z.symm
              · exact y2 k (by omega) hkb
            · exact Or.inr ⟨y1, k, by omega, y3⟩
  obtain ⟨τ2, e2, u2, hCW⟩ := l2
  rw [e2, bnd]
  generalize hFam : FamL W nb to = Fam
  have hFsub : ∀ w, Fam w → sub w to := fun w hw => by rw [← hFam] at hw; exact hw.2.1
  have hFmark : ∀ w, w < 2 ^ n → w ≠ 0 → sub w to → (g_i τ2 117 w = 0 ∧ ¬ Fam w) ∨ (g_i τ2 117 w = 1 ∧ Fam w) := fun w hw hw0 hws => by
    rcases hCW w hw with ⟨y1, y2⟩ | ⟨y1, k, y2, y3, y4⟩
    · refine Or.inl ⟨y1, fun hF => ?_⟩
      rw [← hFam] at hF
      obtain ⟨-, -, p, t, hp', ht', hb, he⟩ := hF
      have e1 : (64 * p + t) / 64 = p := by omega
      have e2 : (64 * p + t) % 64 = t := by omega
      have := y2 (64 * p + t) (by omega)
      rw [e1, e2] at this
      exact this hb he
    · refine Or.inr ⟨y1, ?_⟩
      rw [← hFam]
      exact ⟨hw0, hws, k / 64, k % 64, by omega, Nat.mod_lt _ (by omega), y3, y4⟩
  rw [gd_t (nI_in' (by omega) (by omega)), bdx, nI_cl (show from' < 2147483648 by omega)]
  show ∃ r τ, (lp (f_X11_luredBy_L111 nmM (nI to)) fu (nI from', s_i τ2 118 from' 0)).bind _ = some (r, τ) ∧ _
  have l3 : ∃ τ, lp (f_X11_luredBy_L111 nmM (nI to)) fu (nI from', s_i τ2 118 from' 0) = some τ ∧ ux (fun a _ => decide (a = 118)) τ2 τ ∧ ∃ d, (∀ T, T < 2 ^ n → g_i τ 118 T = nI (d T)) ∧ FS Fam n from' (to + 1) d := by
    suffices wp (lp (f_X11_luredBy_L111 nmM (nI to)) fu (nI from', s_i τ2 118 from' 0)) (fun τ => ux (fun a _ => decide (a = 118)) τ2 τ ∧ ∃ d, (∀ T, T < 2 ^ n → g_i τ 118 T = nI (d T)) ∧ FS Fam n from' (to + 1) d) by
      obtain ⟨τ, e, h⟩ := this
      exact ⟨τ, e, h⟩
    have hft := sub_le hs
    refine wp_up (to + 1) (fun cur s => s.1 = nI cur ∧ ux (fun a _ => decide (a = 118)) τ2 s.2 ∧ ∃ d, (∀ T, T < 2 ^ n → g_i s.2 118 T = nI (d T)) ∧ FS Fam n from' cur d) (i := from') (by omega) (by omega) ⟨rfl, ux_s (ux_refl _ _) (decide_eq_true rfl), fun T => if T = from' then 0 else 1000000, fun T hT => ?_, ⟨if_pos rfl, fun T => ?_, fun T hT hd => ?_, fun S hS2 _ k w hf2 _ => ?_⟩⟩ ?_
    · show g_i (s_i τ2 118 from' 0) 118 T = nI (if T = from' then 0 else 1000000)
      by_cases e : T = from'
      · rw [e, s_i_eq, if_pos rfl]; rfl
      · rw [s_i_k e, if_neg e]
        exact (u2 118 T rfl).trans (z1 T hT).2
    · show (if T = from' then 0 else 1000000) ≤ 1000000
      split <;> omega
    · have hd : (if T = from' then 0 else 1000000) < 1000000 := hd
      show Fm Fam from' (if T = from' then 0 else 1000000) T
      by_cases e : T = from'
      · rw [if_pos e]; exact e
      · rw [if_neg e] at hd; omega
    · have := fm_ge k S hf2; omega
    rintro cur ⟨v, τ⟩ hcur ⟨hv, hu, d, hd, hF⟩
    have hv : v = nI cur := hv
    have hu : ux (fun a _ => decide (a = 118)) τ2 τ := hu
    have hd : ∀ T, T < 2 ^ n → g_i τ 118 T = nI (d T) := hd
    subst hv
    unfold f_X11_luredBy_L111
    show wp (if nI to < nI cur then some (Sum.inr τ) else (lp (f_X11_luredBy_L120 nmM (nI to) (nI cur)) fu (1, τ)).bind _) _
    refine wp_ite (fun hc => ?_) (fun hc => ?_)
    · rw [nI_lt' (by omega) (by omega)] at hc
      have : cur = to + 1 := by omega
      subst this
      exact wp_some ⟨hu, d, hd, hF⟩
    · rw [nI_lt' (by omega) (by omega)] at hc
      have hc2 : cur < 2 ^ n := by omega
      refine wp_bind ?_
      have hD0 := hF.2.1 cur
      have fin : ∀ (d' : Nat → Nat), FS Fam n from' cur d' → d' cur = d cur → (d cur < 1000000 → ∀ w, Fam w → d' (cur ||| w) ≤ d cur + 1) → FS Fam n from' (cur + 1) d' := fun d' hF' hdc hw => by
        refine ⟨hF'.1, hF'.2.1, hF'.2.2.1, fun S hS2 hS3 k w hk hw2 => ?_⟩
        by_cases e : S = cur
        · subst e
          have hx := fs_exact hF hc2 k hk
          by_cases hlt : d S < 1000000
          · have := hw hlt w hw2; omega
          · have := hF'.2.1 (S ||| w); omega
        · exact hF'.2.2.2 S (by omega) hS3 k w hk hw2
      refine wp_up (to + 1) (fun w s => 1 ≤ w ∧ s.1 = nI w ∧ ux (fun a _ => decide (a = 118)) τ2 s.2 ∧ ∃ d', (∀ T, T < 2 ^ n → g_i s.2 118 T = nI (d' T)) ∧ FS Fam n from' cur d' ∧ d' cur = d cur ∧ (∀ w', w' < w → Fam w' → d' (cur ||| w') ≤ d cur + 1)) (i := 1) (by omega) (by omega) ⟨by omega, rfl, hu, d, hd, hF, rfl, fun w' hw' hFw => by
        have : w' = 0 := by omega
        rw [this, Nat.or_zero]; omega⟩ ?_
      rintro w ⟨v, ρ⟩ hw ⟨hw1, hv, hur, d', hd', hF', hdc, hpass⟩
      have hv : v = nI w := hv
      have hur : ux (fun a _ => decide (a = 118)) τ2 ρ := hur
      have hd' : ∀ T, T < 2 ^ n → g_i ρ 118 T = nI (d' T) := hd'
      subst hv
      unfold f_X11_luredBy_L120
      show wp (if nI to < nI w then some (Sum.inr ρ) else _) _
      refine wp_ite (fun hc3 => ?_) (fun hc3 => ?_)
      · rw [nI_lt' (by omega) (by omega)] at hc3
        exact wp_some (wp_some ⟨by omega, nI_1 cur, hur, d', hd', fin d' hF' hdc (fun _ w' hw' => hpass w' (by have := sub_le (hFsub w' hw'); omega) hw')⟩)
      · rw [nI_lt' (by omega) (by omega)] at hc3
        have hw2 : w < 2 ^ n := by omega
        refine wp_gd (nI_in' (by omega) (by omega)) ?_
        have e118 : g_i ρ (nmM 17) (nI cur).toNatClampNeg = nI (d cur) := by
          rw [nI_cl (by omega), ← hdc]; exact hd' cur hc2
        rw [e118]
        refine wp_ite (fun hfar => ?_) (fun hfar => ?_)
        · have hfar : nI 1000000 ≤ nI (d cur) := hfar
          rw [nI_le' (by omega) (by omega)] at hfar
          exact wp_some (wp_some ⟨by omega, nI_1 cur, hur, d', hd', fin d' hF' hdc (fun h => by omega)⟩)
        · have hfar : ¬ nI 1000000 ≤ nI (d cur) := hfar
          rw [nI_le' (by omega) (by omega)] at hfar
          refine wp_gd (nI_in' (by omega) (by omega)) ?_
          rw [nI_cl (show w < 2147483648 by omega), show g_i ρ (nmM 16) w = g_i τ2 117 w from hur 117 w rfl]
          have hsw : (nI w &&& (nI to ^^^ (-1))) = 0 ↔ sub w to := nI_sub (Nat.lt_of_lt_of_le (show w < 1024 by omega) (by decide))
          have next : ¬ Fam w → w < to + 1 ∧ 1 ≤ w + 1 ∧ nI w + 1 = nI (w + 1) ∧ ux (fun a _ => decide (a = 118)) τ2 ρ ∧ ∃ d', (∀ T, T < 2 ^ n → g_i ρ 118 T = nI (d' T)) ∧ FS Fam n from' cur d' ∧ d' cur = d cur ∧ (∀ w', w' < w + 1 → Fam w' → d' (cur ||| w') ≤ d cur + 1) := fun hnF => ⟨by omega, by omega, nI_1 w, hur, d', hd', hF', hdc, fun w' hw' hFw => by
            by_cases e : w' = w
            · rw [e] at hFw; exact absurd hFw hnF
            · exact hpass w' (by omega) hFw⟩
          refine wp_ite (fun hz => ?_) (fun hz => ?_)
          · refine wp_some (next (fun hFw => ?_))
            rcases hFmark w hw2 (by omega) (hFsub w hFw) with ⟨-, h⟩ | ⟨h, -⟩
            · exact h hFw
            · rw [h] at hz; exact absurd hz i10
          · refine wp_ite (fun hsu => ?_) (fun hsu => ?_)
            · have hsu := hsw.mp hsu
              have hFw : Fam w := by
                rcases hFmark w hw2 (by omega) hsu with ⟨h, -⟩ | ⟨-, h⟩
                · exact absurd h hz
                · exact h
              have hor : cur ||| w < 2 ^ n := Nat.or_lt_two_pow hc2 hw2
              rw [nI_or, nI_cl (show cur ||| w < 2147483648 by omega), show g_i ρ (nmM 17) (cur ||| w) = nI (d' (cur ||| w)) from hd' _ hor, nI_1]
              refine wp_gd (nI_in' (by omega) (by omega)) (wp_gd (nI_in' (by omega) (by omega)) ?_)
              have hb1 := hF'.2.1 (cur ||| w)
              have les : f_X11_lesser (nI (d' (cur ||| w))) (nI (d cur + 1)) = some (nI (min (d' (cur ||| w)) (d cur + 1))) := by
                unfold f_X11_lesser
                by_cases hle : d cur + 1 ≤ d' (cur ||| w)
                · rw [if_pos (by rw [nI_le' (by omega) (by omega)]; exact hle), Nat.min_eq_right hle]
                · rw [if_neg (by rw [nI_le' (by omega) (by omega)]; exact hle), Nat.min_eq_left (by omega)]
              refine wp_bindE les (wp_gd (nI_in' (by omega) (by omega)) (wp_bd (fun s11 h11 => wp_some ⟨by omega, by omega, nI_1 w, ?_, fun T => if T = cur ||| w then min (d' (cur ||| w)) (d cur + 1) else d' T, fun T hT => ?_, ⟨?_, fun T => ?_, fun T hT hdT => ?_, fun S hS2 hS3 k w' hk hw' => ?_⟩, ?_, fun w' hw' hFw' => ?_⟩)))
              · show ux _ τ2 s11
                rw [h11]; exact ux_s hur (decide_eq_true rfl)
              · show g_i s11 118 T = nI (if T = cur ||| w then min (d' (cur ||| w)) (d cur + 1) else d' T)
                rw [h11]
                show g_i (s_i ρ 118 (cur ||| w) _) 118 T = _
                by_cases e : T = cur ||| w
                · rw [e, s_i_eq, if_pos rfl]
                · rw [s_i_k e, if_neg e]; exact hd' T hT
              · show (if from' = cur ||| w then min (d' (cur ||| w)) (d cur + 1) else d' from') = 0
                by_cases e : from' = cur ||| w
                · rw [if_pos e, ← e, hF'.1]; omega
                · rw [if_neg e]; exact hF'.1
              · show (if T = cur ||| w then min (d' (cur ||| w)) (d cur + 1) else d' T) ≤ 1000000
                have := hF'.2.1 T
                split <;> omega
              · have hdT : (if T = cur ||| w then min (d' (cur ||| w)) (d cur + 1) else d' T) < 1000000 := hdT
                show Fm Fam from' (if T = cur ||| w then min (d' (cur ||| w)) (d cur + 1) else d' T) T
                by_cases e : T = cur ||| w
                · rw [if_pos e] at hdT ⊢
                  rw [e]
                  by_cases hle : d' (cur ||| w) ≤ d cur + 1
                  · rw [Nat.min_eq_left hle] at hdT ⊢
                    exact hF'.2.2.1 _ hor hdT
                  · rw [Nat.min_eq_right (by omega)]
                    exact Or.inr ⟨cur, w, by have := hF.2.2.1 cur hc2 (by omega); exact this, hFw, rfl⟩
                · rw [if_neg e] at hdT ⊢
                  exact hF'.2.2.1 T hT hdT
              · show (if S ||| w' = cur ||| w then min (d' (cur ||| w)) (d cur + 1) else d' (S ||| w')) ≤ k + 1
                have := hF'.2.2.2 S hS2 hS3 k w' hk hw'
                by_cases e : S ||| w' = cur ||| w
                · rw [if_pos e]; rw [e] at this; omega
                · rw [if_neg e]; exact this
              · show (if cur = cur ||| w then min (d' (cur ||| w)) (d cur + 1) else d' cur) = d cur
                by_cases e : cur = cur ||| w
                · rw [if_pos e, ← e, hdc]; omega
                · rw [if_neg e]; exact hdc
              · show (if cur ||| w' = cur ||| w then min (d' (cur ||| w)) (d cur + 1) else d' (cur ||| w')) ≤ d cur + 1
                by_cases e : cur ||| w' = cur ||| w
                · rw [if_pos e]; omega
                · rw [if_neg e]
                  exact hpass w' (by
                    have : w' ≠ w := fun z => e (by rw [z])
                    omega) hFw'
            · exact wp_some (next (fun hFw => hsu (hsw.mpr (hFsub w hFw))))
  obtain ⟨τ3, e3, u3, d, hd, hF⟩ := l3
  rw [e3, bnd]
  refine ⟨if d to < 1000000 then nI (d to) else -1, τ3, ?_, ?_, Or.inr ⟨hs, d to, hF.2.1 to, ?_, fun k hk => ?_, rfl⟩⟩
  · have hb := hF.2.1 to
    rw [gd_t (nI_in' (by omega) (by omega)), gd_t (nI_in' (by omega) (by omega)), nI_cl (by omega), show g_i τ3 (nmM 17) to = nI (d to) from hd to ht]
    by_cases hlt : d to < 1000000
    · rw [if_pos (show nI (d to) < (1000000 : Int32) from (nI_lt' (b := 1000000) (by omega) (by omega)).mpr hlt), if_pos hlt]
    · rw [if_neg (show ¬ nI (d to) < (1000000 : Int32) from fun e => hlt ((nI_lt' (b := 1000000) (by omega) (by omega)).mp e)), if_neg hlt]
  · exact ux_tr u1 (ux_tr (ux_w u2 (fun a k hk => decide_eq_false (fun e => (of_decide_eq_false hk) (by omega)))) (ux_w u3 (fun a k hk => decide_eq_false (fun e => (of_decide_eq_false hk) (by omega)))))
  · have hb := hF.2.1 to
    by_cases hlt : d to < 1000000
    · exact Or.inl ⟨hlt, (fm_iff hFsub hs _).mp (hF.2.2.1 to ht hlt)⟩
    · exact Or.inr (by omega)
  · have hk := (fm_iff hFsub hs k).mpr hk
    refine fs_exact (cur := to) ⟨hF.1, hF.2.1, hF.2.2.1, fun S hS2 hS3 => hF.2.2.2 S (by omega) hS3⟩ ht k hk
