def wFx (c : Nat) : Nat → Nat → Bool := fun a k => (a == 1 && k == 1) || (a == 2 && decide (c ≤ k))
theorem xfeed {c k : Nat} {v : Int64} {σ : jS} (hck : c + k ≤ 400) (hc : g_i σ 1 1 = nI c) : wp (lp (f_X10_feed_L39 nmX v) fu (nI k + (-1), σ)) (fun τ => ux (wFx c) σ τ ∧ g_i τ 1 1 = nI (c + k) ∧ ∀ i, i < k → g_i τ 2 (c + i) = bf v (k - 1 - i)) := by
  refine wp_lp (fun t s => t ≤ k ∧ s.1 = nI t + (-1) ∧ ux (wFx c) σ s.2 ∧ g_i s.2 1 1 = nI (c + (k - t)) ∧ ∀ i, i < k - t → g_i s.2 2 (c + i) = bf v (k - 1 - i)) (n := k) (by omega) ⟨Nat.le_refl _, rfl, ux_refl _ _, by rw [Nat.sub_self]; exact hc, fun i hi => by omega⟩ ?_
  rintro t ⟨x, υ⟩ ⟨ht, hx, hu, h1, hlo⟩
  have hx : x = nI t + (-1) := hx
  subst hx
  have hu : ux (wFx c) σ υ := hu
  have h1 : g_i υ 1 1 = nI (c + (k - t)) := h1
  have hlo : ∀ i, i < k - t → g_i υ 2 (c + i) = bf v (k - 1 - i) := hlo
  unfold f_X10_feed_L39
  by_cases h0 : t = 0
  · subst h0
    refine wp_ite (fun _ => wp_some ⟨hu, h1, hlo⟩) (fun h => absurd (show nI 0 + (-1) < 0 by decide) h)
  · obtain ⟨t, rfl⟩ : ∃ u, t = u + 1 := ⟨t - 1, by omega⟩
    rw [nI_m1]
    refine wp_ite (fun h => absurd h (nI_neg0 (by omega))) (fun _ => ?_)
    have hp := row_put (nm := jn nmX [1, 2]) (σ := υ) (N := 400) (v := bf v t) (by decide) h1 (by omega) (by omega)
    refine wp_bindE hp (wp_some ⟨t, by omega, by omega, rfl, ?_, ?_, ?_⟩)
    · exact ux_s (ux_s hu (by show wFx c 2 _ = true; simp [wFx])) rfl
    · show nI (c + (k - (t + 1)) + 1) = nI (c + (k - t))
      rw [show c + (k - (t + 1)) + 1 = c + (k - t) by omega]
    · intro i hi
      show g_i (s_i (s_i υ 2 (c + (k - (t + 1))) (bf v t)) 1 1 _) 2 (c + i) = _
      rw [s_i_a (show (2 : Nat) ≠ 1 by decide)]
      by_cases hii : i = k - (t + 1)
      · subst hii
        rw [s_i_eq, show k - 1 - (k - (t + 1)) = t by omega]
      · rw [s_i_k (by omega)]
        exact hlo i (by omega)
def wFm (c : Nat) : Nat → Nat → Bool := fun a k => (a == 101 && k == 19) || (a == 109 && decide (c ≤ k))
theorem mfeed {c k : Nat} {v : Int64} {σ : jS} (hk : k ≤ 8) (hck : c + k ≤ 400) (hc : g_i σ 101 19 = nI c) : wp (lp (f_X11_feed_L37 nmM v) fu (nI k + (-1), σ)) (fun τ => ux (wFm c) σ τ ∧ g_i τ 101 19 = nI (c + k) ∧ ∀ i, i < k → g_i τ 109 (c + i) = bf v (k - 1 - i)) := by
  refine wp_lp (fun t s => t ≤ k ∧ s.1 = nI t + (-1) ∧ ux (wFm c) σ s.2 ∧ g_i s.2 101 19 = nI (c + (k - t)) ∧ ∀ i, i < k - t → g_i s.2 109 (c + i) = bf v (k - 1 - i)) (n := k) (by omega) ⟨Nat.le_refl _, rfl, ux_refl _ _, by rw [Nat.sub_self]; exact hc, fun i hi => by omega⟩ ?_
  rintro t ⟨x, υ⟩ ⟨ht, hx, hu, h1, hlo⟩
  have hx : x = nI t + (-1) := hx
  subst hx
  have hu : ux (wFm c) σ υ := hu
  have h1 : g_i υ 101 19 = nI (c + (k - t)) := h1
  have hlo : ∀ i, i < k - t → g_i υ 109 (c + i) = bf v (k - 1 - i) := hlo
  unfold f_X11_feed_L37
  by_cases h0 : t = 0
  · subst h0
    refine wp_ite (fun _ => wp_some ⟨hu, h1, hlo⟩) (fun h => absurd (show nI 0 + (-1) < 0 by decide) h)
  · obtain ⟨t, rfl⟩ : ∃ u, t = u + 1 := ⟨t - 1, by omega⟩
    rw [nI_m1]
    refine wp_ite (fun h => absurd h (nI_neg0 (by omega))) (fun _ => ?_)
    have h1' : g_i υ (nmM 0) 19 = nI (c + (k - (t + 1))) := h1
    rw [h1', bf_m v (show t < 8 by omega), nI_cl (by omega)]
    refine wp_gd (nI_in' (by omega) (by omega)) (wp_bd (fun s3 h3 => wp_bd (fun s4 h4 => wp_some ⟨t, by omega, by omega, rfl, ?_⟩)))
    have q3 : s3 = s_i υ 109 (c + (k - (t + 1))) (bf v t) := h3
    have q4 : s4 = s_i s3 101 19 (nI (c + (k - (t + 1))) + 1) := h4.trans (congrArg (fun z => s_i s3 101 19 (z + 1)) (by rw [q3]; exact h1))
    show ux (wFm c) σ s4 ∧ g_i s4 101 19 = nI (c + (k - t)) ∧ ∀ i, i < k - t → g_i s4 109 (c + i) = bf v (k - 1 - i)
    rw [q4, q3]
    refine ⟨ux_s (ux_s hu (by simp [wFm])) rfl, ?_, fun i hi => ?_⟩
    · rw [s_i_eq, nI_1, show c + (k - (t + 1)) + 1 = c + (k - t) by omega]
    · rw [s_i_a (show (109 : Nat) ≠ 101 by decide)]
      by_cases hii : i = k - (t + 1)
      · subst hii
        rw [s_i_eq, show k - 1 - (k - (t + 1)) = t by omega]
      · rw [s_i_k (by omega)]
        exact hlo i (by omega)
