def w125 : Nat → Nat → Bool := fun a _ => a == 125
theorem msave (σ : jS) : wp (lp (f_X11_judge_L2 nmM) fu (0, σ)) (fun τ => ux w125 σ τ ∧ ∀ l, l < 10 → g_i τ 125 l = g_i σ 103 l ∧ g_i τ 125 (10 + l) = g_i σ 104 l ∧ g_i τ 125 (20 + l) = g_i σ 105 l) := by
  refine wp_up 10 (fun j s => s.1 = nI j ∧ ux w125 σ s.2 ∧ ∀ l, l < j → g_i s.2 125 l = g_i σ 103 l ∧ g_i s.2 125 (10 + l) = g_i σ 104 l ∧ g_i s.2 125 (20 + l) = g_i σ 105 l) (i := 0) (by omega) (by omega) ⟨rfl, ux_refl _ _, fun l hl => absurd hl (Nat.not_lt_zero l)⟩ ?_
  rintro j ⟨v, υ⟩ hj ⟨hv, hu, hlo⟩
  have hv : v = nI j := hv
  subst hv
  have hu : ux w125 σ υ := hu
  have hlo : ∀ l, l < j → g_i υ 125 l = g_i σ 103 l ∧ g_i υ 125 (10 + l) = g_i σ 104 l ∧ g_i υ 125 (20 + l) = g_i σ 105 l := hlo
  unfold f_X11_judge_L2
  show wp (if nI 10 ≤ nI j then _ else _) _
  refine wp_ite (fun hc => ?_) (fun hc => ?_)
  · rw [nI_le' (by omega) (by omega)] at hc
    exact wp_some ⟨hu, fun l hl => hlo l (by omega)⟩
  · rw [nI_le' (by omega) (by omega)] at hc
    have hin : vp_in (nI j) 10 := nI_in' (by omega) (by omega)
    have x1 : 10 + nI j = nI (10 + j) := nI_add 10 j
    have x2 : 20 + nI j = nI (20 + j) := nI_add 20 j
    rw [x1, x2]
    have hg : ∀ c, c < 32 → vp_in (nI c) 32 := fun c h => nI_in' h (by omega)
    refine wp_gd hin (wp_gd (hg _ (by omega)) (wp_bd (fun s3 h3 => wp_gd hin (wp_gd (hg _ (by omega)) (wp_bd (fun s4 h4 => wp_gd hin (wp_gd (hg _ (by omega)) (wp_bd (fun s5 h5 => wp_some ⟨by omega, nI_1 j, ?_⟩)))))))))
    rw [nI_cl (by omega)] at h3
    rw [nI_cl (by omega), nI_cl (by omega)] at h4 h5
    have f3 : g_i υ (nmM 2) j = g_i σ 103 j := hu 103 _ rfl
    rw [f3] at h3
    have f4 : g_i s3 (nmM 3) j = g_i σ 104 j := by rw [h3]; exact hu 104 _ rfl
    rw [f4] at h4
    have f5 : g_i s4 (nmM 4) j = g_i σ 105 j := by rw [h4, h3]; exact hu 105 _ rfl
    rw [f5] at h5
    have e5 : s5 = s_i (s_i (s_i υ 125 j (g_i σ 103 j)) 125 (10 + j) (g_i σ 104 j)) 125 (20 + j) (g_i σ 105 j) := by rw [h5, h4, h3]; rfl
    refine ⟨?_, fun l hl => ?_⟩
    · show ux w125 σ s5
      rw [e5]
      exact ux_s (ux_s (ux_s hu rfl) rfl) rfl
    · show g_i s5 125 l = _ ∧ g_i s5 125 (10 + l) = _ ∧ g_i s5 125 (20 + l) = _
      rw [e5]
      by_cases hlj : l = j
      · subst hlj
        refine ⟨?_, ?_, s_i_eq _ _ _ _⟩
        · rw [s_i_k (by omega), s_i_k (by omega), s_i_eq]
        · rw [s_i_k (by omega), s_i_eq]
      · have hl' : l < j := by omega
        have hx : ∀ k, k ≠ j → k ≠ 10 + j → k ≠ 20 + j → g_i (s_i (s_i (s_i υ 125 j (g_i σ 103 j)) 125 (10 + j) (g_i σ 104 j)) 125 (20 + j) (g_i σ 105 j)) 125 k = g_i υ 125 k := fun k a b c => by rw [s_i_k c, s_i_k b, s_i_k a]
        rw [hx _ (by omega) (by omega) (by omega), hx _ (by omega) (by omega) (by omega), hx _ (by omega) (by omega) (by omega)]
        exact hlo l hl'
theorem mback {r : Int32} (σ : jS) : wp (f_X11_judge_J124 nmM r σ) (fun x => x.1 = r ∧ ux wMm σ x.2 ∧ (∀ l, l < 10 → g_i x.2 103 l = g_i σ 125 l ∧ g_i x.2 104 l = g_i σ 125 (10 + l) ∧ g_i x.2 105 l = g_i σ 125 (20 + l)) ∧ g_i x.2 101 14 = g_i σ 125 30 ∧ g_i x.2 101 17 = g_i σ 125 31) := by
  unfold f_X11_judge_J124
  refine wp_bind ?_
  refine wp_up 10 (fun j s => s.1 = nI j ∧ ux wMm σ s.2 ∧ ∀ l, l < j → g_i s.2 103 l = g_i σ 125 l ∧ g_i s.2 104 l = g_i σ 125 (10 + l) ∧ g_i s.2 105 l = g_i σ 125 (20 + l)) (i := 0) (by omega) (by omega) ⟨rfl, ux_refl _ _, fun l hl => absurd hl (Nat.not_lt_zero l)⟩ ?_
  rintro j ⟨v, υ⟩ hj ⟨hv, hu, hlo⟩
  have hv : v = nI j := hv
  subst hv
  have hu : ux wMm σ υ := hu
  have hlo : ∀ l, l < j → g_i υ 103 l = g_i σ 125 l ∧ g_i υ 104 l = g_i σ 125 (10 + l) ∧ g_i υ 105 l = g_i σ 125 (20 + l) := hlo
  unfold f_X11_judge_L126
  show wp (if nI 10 ≤ nI j then _ else _) _
  refine wp_ite (fun hc => ?_) (fun hc => ?_)
  · rw [nI_le' (by omega) (by omega)] at hc
    refine wp_some (wp_gd (nI_in' (n := 30) (by omega) (by omega)) (wp_bd (fun s15 h15 => wp_gd (nI_in' (n := 31) (by omega) (by omega)) (wp_bd (fun s16 h16 => wp_some ⟨rfl, ?_⟩)))))
    have q15 : s15 = s_i υ 101 14 (g_i σ 125 30) := h15.trans (congrArg (s_i υ 101 14) (hu 125 30 rfl))
    have q16 : s16 = s_i s15 101 17 (g_i σ 125 31) := h16.trans (congrArg (s_i s15 101 17) (by rw [q15]; exact hu 125 31 rfl))
    show ux wMm σ s16 ∧ (∀ l, l < 10 → g_i s16 103 l = g_i σ 125 l ∧ g_i s16 104 l = g_i σ 125 (10 + l) ∧ g_i s16 105 l = g_i σ 125 (20 + l)) ∧ g_i s16 101 14 = g_i σ 125 30 ∧ g_i s16 101 17 = g_i σ 125 31
    rw [q16, q15]
    exact ⟨ux_s (ux_s hu rfl) rfl, fun l hl => hlo l (by omega), (s_i_k (by decide)).trans (s_i_eq _ _ _ _), s_i_eq _ _ _ _⟩
  · rw [nI_le' (by omega) (by omega)] at hc
    have hin : vp_in (nI j) 10 := nI_in' (by omega) (by omega)
    have x1 : 10 + nI j = nI (10 + j) := nI_add 10 j
    have x2 : 20 + nI j = nI (20 + j) := nI_add 20 j
    rw [x1, x2]
    have hg : ∀ c, c < 32 → vp_in (nI c) 32 := fun c h => nI_in' h (by omega)
    refine wp_gd (hg _ (by omega)) (wp_gd hin (wp_bd (fun s3 h3 => wp_gd (hg _ (by omega)) (wp_gd hin (wp_bd (fun s4 h4 => wp_gd (hg _ (by omega)) (wp_gd hin (wp_bd (fun s5 h5 => wp_some ⟨by omega, nI_1 j, ?_⟩)))))))))
    rw [nI_cl (by omega)] at h3
    rw [nI_cl (by omega), nI_cl (by omega)] at h4 h5
    have f3 : g_i υ (nmM 24) j = g_i σ 125 j := hu 125 _ rfl
    rw [f3] at h3
    have f4 : g_i s3 (nmM 24) (10 + j) = g_i σ 125 (10 + j) := by rw [h3]; exact hu 125 _ rfl
    rw [f4] at h4
    have f5 : g_i s4 (nmM 24) (20 + j) = g_i σ 125 (20 + j) := by rw [h4, h3]; exact hu 125 _ rfl
    rw [f5] at h5
    have e5 : s5 = s_i (s_i (s_i υ 103 j (g_i σ 125 j)) 104 j (g_i σ 125 (10 + j))) 105 j (g_i σ 125 (20 + j)) := by rw [h5, h4, h3]; rfl
    refine ⟨?_, fun l hl => ?_⟩
    · show ux wMm σ s5
      rw [e5]
      exact ux_s (ux_s (ux_s hu rfl) rfl) rfl
    · show g_i s5 103 l = _ ∧ g_i s5 104 l = _ ∧ g_i s5 105 l = _
      rw [e5]
      rw [s_i_a (show (103 : Nat) ≠ 105 by decide), s_i_a (show (103 : Nat) ≠ 104 by decide), s_i_a (show (104 : Nat) ≠ 105 by decide)]
      by_cases hlj : l = j
      · subst hlj
        exact ⟨s_i_eq _ _ _ _, s_i_eq _ _ _ _, s_i_eq _ _ _ _⟩
      · have hl' : l < j := by omega
        exact ⟨(s_i_k hlj).trans (hlo l hl').1, (s_i_k hlj).trans (hlo l hl').2.1, (s_i_k hlj).trans (hlo l hl').2.2⟩
