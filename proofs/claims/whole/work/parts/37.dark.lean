def wDk (b : Nat) : Nat → Nat → Bool := fun a k => a == b + 2 || a == b + 3 || a == b + 4 || (a == b && k == 5)
theorem darken_c {nm : Nat → Nat} {b : Nat} (hm : momNm nm b) (σ : jS) : wp (f_X2_darken nm σ) (fun τ => ux (wDk b) σ τ ∧ (∀ l, l < 10 → g_i τ (b + 2) l = 0 ∧ g_i τ (b + 3) l = 0 ∧ g_i τ (b + 4) l = -1) ∧ g_i τ b 5 = 0) := by
  unfold f_X2_darken
  refine wp_bind ?_
  refine wp_up 10 (fun i s => s.1 = nI i ∧ ux (fun a _ => a == b + 2 || a == b + 3 || a == b + 4) σ s.2 ∧ ∀ l, l < i → g_i s.2 (b + 2) l = 0 ∧ g_i s.2 (b + 3) l = 0 ∧ g_i s.2 (b + 4) l = -1) (i := 0) (by omega) (by omega) ⟨rfl, ux_refl _ _, fun l hl => absurd hl (Nat.not_lt_zero l)⟩ ?_
  rintro i ⟨v, υ⟩ hi ⟨hv, hu, hlo⟩
  have hv : v = nI i := hv
  subst hv
  have hu : ux (fun a _ => a == b + 2 || a == b + 3 || a == b + 4) σ υ := hu
  have hlo : ∀ l, l < i → g_i υ (b + 2) l = 0 ∧ g_i υ (b + 3) l = 0 ∧ g_i υ (b + 4) l = -1 := hlo
  unfold f_X2_darken_L2
  show wp (if nI 10 ≤ nI i then _ else _) _
  refine wp_ite (fun hc => ?_) (fun hc => ?_)
  · rw [nI_le' (by omega) (by omega)] at hc
    refine wp_some (wp_bd (fun s5 h5 => wp_some ⟨?_, ?_, ?_⟩))
    · rw [h5, hm.1.1]
      exact ux_s (ux_w hu (fun a k h => by simp [wDk] at h ⊢; omega)) (by simp [wDk])
    · intro l hl
      rw [h5, hm.1.1, s_i_a (show b + 2 ≠ b by omega), s_i_a (show b + 3 ≠ b by omega), s_i_a (show b + 4 ≠ b by omega)]
      exact hlo l (by omega)
    · rw [h5, hm.1.1]; exact s_i_eq _ _ _ _
  · rw [nI_le' (by omega) (by omega)] at hc
    have hin : vp_in (nI i) 10 := nI_in' (by omega) (by omega)
    refine wp_gd hin (wp_bd (fun s1 h1 => wp_gd hin (wp_bd (fun s2 h2 => wp_gd hin (wp_bd (fun s3 h3 => wp_some ⟨by omega, nI_1 i, ?_, ?_⟩))))))
    · rw [h3, h2, h1, hm.2.2.1, hm.2.2.2.1, hm.2.2.2.2]
      exact ux_s (ux_s (ux_s hu (by simp)) (by simp)) (by simp)
    · intro l hl
      show g_i s3 (b + 2) l = 0 ∧ g_i s3 (b + 3) l = 0 ∧ g_i s3 (b + 4) l = -1
      rw [h3, h2, h1, hm.2.2.1, hm.2.2.2.1, hm.2.2.2.2, nI_cl (by omega)]
      by_cases hli : l = i
      · subst hli
        rw [s_i_a (show b + 2 ≠ b + 4 by omega), s_i_a (show b + 2 ≠ b + 3 by omega), s_i_eq, s_i_a (show b + 3 ≠ b + 4 by omega), s_i_eq, s_i_eq]
        exact ⟨rfl, rfl, rfl⟩
      · rw [s_i_k hli, s_i_k hli, s_i_k hli, s_i_k hli, s_i_k hli, s_i_k hli, s_i_k hli, s_i_k hli, s_i_k hli]
        exact hlo l (by omega)
def wAo : Nat → Nat → Bool := fun a k => a == 103 || a == 104 || a == 105 || (a == 101 && k == 14)
theorem allOut_c (σ : jS) : wp (f_X11_allOut nmM σ) (fun τ => ux wAo σ τ ∧ (∀ l, l < 10 → g_i τ 103 l = 0 ∧ g_i τ 104 l = 0 ∧ g_i τ 105 l = -1) ∧ g_i τ 101 14 = 0) := by
  unfold f_X11_allOut
  refine wp_bd (fun s0 h0 => wp_bind ?_)
  have hu0 : ux wAo σ s0 := by rw [h0]; exact ux_s (ux_refl _ _) rfl
  have e14 : g_i s0 101 14 = 0 := by rw [h0]; exact s_i_eq _ _ _ _
  refine wp_up 10 (fun i s => s.1 = nI i ∧ ux wAo σ s.2 ∧ g_i s.2 101 14 = 0 ∧ ∀ l, l < i → g_i s.2 103 l = 0 ∧ g_i s.2 104 l = 0 ∧ g_i s.2 105 l = -1) (i := 0) (by omega) (by omega) ⟨rfl, hu0, e14, fun l hl => absurd hl (Nat.not_lt_zero l)⟩ ?_
  rintro i ⟨v, υ⟩ hi ⟨hv, hu, he, hlo⟩
  have hv : v = nI i := hv
  subst hv
  have hu : ux wAo σ υ := hu
  have hlo : ∀ l, l < i → g_i υ 103 l = 0 ∧ g_i υ 104 l = 0 ∧ g_i υ 105 l = -1 := hlo
  unfold f_X11_allOut_L7
  show wp (if nI 10 ≤ nI i then _ else _) _
  refine wp_ite (fun hc => ?_) (fun hc => ?_)
  · rw [nI_le' (by omega) (by omega)] at hc
    exact wp_some (wp_some ⟨hu, fun l hl => hlo l (by omega), he⟩)
  · rw [nI_le' (by omega) (by omega)] at hc
    have hin : vp_in (nI i) 10 := nI_in' (by omega) (by omega)
    refine wp_gd hin (wp_bd (fun s1 h1 => wp_gd hin (wp_bd (fun s2 h2 => wp_gd hin (wp_bd (fun s3 h3 => wp_some ⟨by omega, nI_1 i, ?_, ?_, ?_⟩))))))
    · rw [h3, h2, h1]
      exact ux_s (ux_s (ux_s hu rfl) rfl) rfl
    · rw [h3, h2, h1]; exact he
    · intro l hl
      show g_i s3 103 l = 0 ∧ g_i s3 104 l = 0 ∧ g_i s3 105 l = -1
      rw [h3, h2, h1, nI_cl (by omega)]
      show g_i (s_i (s_i (s_i υ 103 i 0) 104 i 0) 105 i (-1)) 103 l = 0 ∧ g_i (s_i (s_i (s_i υ 103 i 0) 104 i 0) 105 i (-1)) 104 l = 0 ∧ g_i (s_i (s_i (s_i υ 103 i 0) 104 i 0) 105 i (-1)) 105 l = -1
      by_cases hli : l = i
      · subst hli
        rw [s_i_a (show (103 : Nat) ≠ 105 by omega), s_i_a (show (103 : Nat) ≠ 104 by omega), s_i_eq, s_i_a (show (104 : Nat) ≠ 105 by omega), s_i_eq, s_i_eq]
        exact ⟨rfl, rfl, rfl⟩
      · rw [s_i_k hli, s_i_k hli, s_i_k hli, s_i_k hli, s_i_k hli, s_i_k hli, s_i_k hli, s_i_k hli, s_i_k hli]
        exact hlo l (by omega)
theorem rg0 : rg 0 0 99 := ⟨by decide, by decide⟩
theorem st_dark : sII Rel (fun σ => f_X10_dark nmX σ) (fun σ => f_X11_dark nmM σ) := by
  rintro σ ⟨n, m, hSi, hN, hSo, hD, hSg, hL, hI0, hI1, hT, hF, hTo⟩
  obtain ⟨τ1, ht1, hu1, hv1, hm1⟩ := darken_c momX σ
  obtain ⟨τ2, ht2, hu2, hv2, hm2⟩ := allOut_c τ1
  have hu := ux_trans hu1 hu2
  have h57 : ∀ a k, a < 57 → (wDk 57 a k || wAo a k) = false := fun a k h => by simp [wDk, wAo]; omega
  refine ⟨g_i σ 57 5, τ1, τ2, ?_, ?_, n, m, ?_, ?_, ?_, ?_, ?_, ?_, ?_, ?_, ?_, ?_, ?_⟩
  · show f_X10_dark nmX σ = _
    unfold f_X10_dark
    rw [bdx, ht1]; rfl
  · show f_X11_dark nmM τ1 = _
    unfold f_X11_dark
    rw [bdx, ht2]
    have e : g_i τ1 (nmM 0) 14 = g_i σ 57 5 := (hu1 101 14 rfl).trans hN.2.2.2.1
    rw [e]; rfl
  · exact RSite.cg hu (okS_ux h57 (fun _ => rfl) (fun k h => by simp [wDk, wAo]; omega)) (fun l _ => ⟨rfl, rfl, rfl⟩) hSi
  · obtain ⟨⟨m1, m2, m3, m4, m5⟩, n0, n1, n2, n3, n4, n5⟩ := hN
    have ex : ∀ l, l < 10 → g_i τ2 59 l = 0 ∧ g_i τ2 60 l = 0 ∧ g_i τ2 61 l = -1 := fun l hl => ⟨(hu2 59 l rfl).trans (hv1 l hl).1, (hu2 60 l rfl).trans (hv1 l hl).2.1, (hu2 61 l rfl).trans (hv1 l hl).2.2⟩
    have e5 : g_i τ2 57 5 = 0 := (hu2 57 5 rfl).trans hm1
    refine ⟨⟨fun l hl => ?_, fun l hl => ?_, ?_, ?_, ?_⟩, fun l hl => ?_, fun l hl => ?_, ?_, ?_, ?_, ?_⟩
    · show rg (g_i τ2 58 l) 0 63
      rw [hu 58 l rfl]; exact m1 l hl
    · show rg (g_i τ2 59 l) 0 99 ∧ rg (g_i τ2 60 l) 0 99 ∧ (n ≤ l → g_i τ2 59 l = 0)
      rw [(ex l hl).1, (ex l hl).2.1]; exact ⟨rg0, rg0, fun _ => rfl⟩
    · rw [hu 57 6 rfl]; exact m3
    · rw [hu 57 7 rfl]; exact m4
    · rw [hu 57 8 rfl]; exact m5
    · rw [hu 102 _ rfl, hu 58 l rfl]; exact n0 l hl
    · rw [(ex l hl).1, (ex l hl).2.1, (ex l hl).2.2]; exact ⟨(hv2 l hl).1, (hv2 l hl).2.1, fun _ => (hv2 l hl).2.2⟩
    · rw [e5]; exact hm2
    · rw [hu 101 15 rfl, hu 57 6 rfl]; exact n3
    · rw [hu 101 16 rfl, hu 57 7 rfl]; exact n4
    · rw [hu 101 17 rfl, hu 57 8 rfl]; exact n5
  · exact RSongs.cg hu ⟨fun _ => rfl, fun _ => rfl, fun _ => rfl, fun _ => rfl, fun _ => rfl, fun _ => rfl, fun _ => rfl, rfl⟩ hSo
  · exact RDays.cg hu ⟨fun _ => rfl, fun _ => rfl, fun _ => rfl, rfl⟩ hD
  · exact RSig.cg hu ⟨fun _ => rfl, fun _ => rfl, fun _ => rfl, rfl⟩ hSg
  · exact RLog.cg hu ⟨fun _ => rfl, fun _ => rfl, fun _ => rfl, rfl⟩ hL
  · exact RImg.cg hu ⟨fun _ => rfl, fun _ => rfl, fun _ => rfl, fun _ => rfl, fun _ => rfl, fun _ => rfl, fun _ => rfl⟩ hI0
  · exact RImg.cg hu ⟨fun _ => rfl, fun _ => rfl, fun _ => rfl, fun _ => rfl, fun _ => rfl, fun _ => rfl, fun _ => rfl⟩ hI1
  · exact RText.cg hu ⟨fun _ => rfl, fun _ => rfl, fun _ => rfl, rfl⟩ hT
  · exact RFault.cg hu ⟨rfl, rfl⟩ hF
  · exact RTour.cg hu ⟨fun _ => rfl, fun _ => rfl, fun _ => rfl, fun _ => rfl, fun _ => rfl, fun _ => rfl, fun _ => rfl, rfl, rfl⟩ hTo
/-! copies of a moment -/
def wCp (b : Nat) : Nat → Nat → Bool := fun a k => a == b + 1 || a == b + 2 || a == b + 3 || a == b + 4 || (a == b && (k == 5 || k == 6 || k == 7 || k == 8))
theorem copy_c {nm : Nat → Nat} {b e : Nat} (hbe : b + 4 < e ∨ e + 4 < b) (h0 : nm 0 = b) (h18 : nm 18 = b + 1) (h19 : nm 19 = b + 2) (h20 : nm 20 = b + 3) (h21 : nm 21 = b + 4) (h22 : nm 22 = e) (h40 : nm 40 = e + 1) (h41 : nm 41 = e + 2) (h42 : nm 42 = e + 3) (h43 : nm 43 = e + 4) (σ : jS) : wp (f_X2_copy nm σ) (fun τ => ux (wCp b) σ τ ∧ (∀ l, l < 10 → g_i τ (b + 1) l = g_i σ (e + 1) l ∧ g_i τ (b + 2) l = g_i σ (e + 2) l ∧ g_i τ (b + 3) l = g_i σ (e + 3) l ∧ g_i τ (b + 4) l = g_i σ (e + 4) l) ∧ g_i τ b 5 = g_i σ e 5 ∧ g_i τ b 6 = g_i σ e 6 ∧ g_i τ b 7 = g_i σ e 7 ∧ g_i τ b 8 = g_i σ e 8) := by
  unfold f_X2_copy
  refine wp_bind ?_
  refine wp_up 10 (fun i s => s.1 = nI i ∧ ux (fun a _ => a == b + 1 || a == b + 2 || a == b + 3 || a == b + 4) σ s.2 ∧ ∀ l, l < i → g_i s.2 (b + 1) l = g_i σ (e + 1) l ∧ g_i s.2 (b + 2) l = g_i σ (e + 2) l ∧ g_i s.2 (b + 3) l = g_i σ (e + 3) l ∧ g_i s.2 (b + 4) l = g_i σ (e + 4) l) (i := 0) (by omega) (by omega) ⟨rfl, ux_refl _ _, fun l hl => absurd hl (Nat.not_lt_zero l)⟩ ?_
  rintro i ⟨v, υ⟩ hi ⟨hv, hu, hlo⟩
  have hv : v = nI i := hv
  subst hv
  have hu : ux (fun a _ => a == b + 1 || a == b + 2 || a == b + 3 || a == b + 4) σ υ := hu
  have hlo : ∀ l, l < i → g_i υ (b + 1) l = g_i σ (e + 1) l ∧ g_i υ (b + 2) l = g_i σ (e + 2) l ∧ g_i υ (b + 3) l = g_i σ (e + 3) l ∧ g_i υ (b + 4) l = g_i σ (e + 4) l := hlo
  have hue : ∀ a k, (a = e ∨ a = e + 1 ∨ a = e + 2 ∨ a = e + 3 ∨ a = e + 4 ∨ a = b) → g_i υ a k = g_i σ a k := fun a k h => hu a k (by simp; omega)
  unfold f_X2_copy_L2
  show wp (if nI 10 ≤ nI i then _ else _) _
  refine wp_ite (fun hc => ?_) (fun hc => ?_)
  · rw [nI_le' (by omega) (by omega)] at hc
    refine wp_some (wp_bd (fun s6 h6 => wp_bd (fun s7 h7 => wp_bd (fun s8 h8 => wp_bd (fun s9 h9 => wp_some ?_)))))
    rw [h0, h22] at h6 h7 h8 h9
    have k6 : ∀ k, g_i s6 e k = g_i σ e k := fun k => by rw [h6, s_i_a (show e ≠ b by omega)]; exact hue e k (by omega)
    have k7 : ∀ k, g_i s7 e k = g_i σ e k := fun k => by rw [h7, s_i_a (show e ≠ b by omega)]; exact k6 k
    have k8 : ∀ k, g_i s8 e k = g_i σ e k := fun k => by rw [h8, s_i_a (show e ≠ b by omega)]; exact k7 k
    rw [hue e 5 (by omega)] at h6
    rw [k6] at h7
    rw [k7] at h8
    rw [k8] at h9
    refine ⟨?_, fun l hl => ?_, ?_, ?_, ?_, ?_⟩
    · rw [h9, h8, h7, h6]
      exact ux_s (ux_s (ux_s (ux_s (ux_w hu (fun a k h => by simp [wCp] at h ⊢; omega)) (by simp [wCp])) (by simp [wCp])) (by simp [wCp])) (by simp [wCp])
    · have hx : ∀ a, a ≠ b → g_i s9 a l = g_i υ a l := fun a ha => by rw [h9, h8, h7, h6, s_i_a ha, s_i_a ha, s_i_a ha, s_i_a ha]
      rw [hx _ (by omega), hx _ (by omega), hx _ (by omega), hx _ (by omega)]
      exact hlo l (by omega)
    · rw [h9, h8, h7, h6, s_i_k (by decide), s_i_k (by decide), s_i_k (by decide), s_i_eq]
    · rw [h9, h8, h7, s_i_k (by decide), s_i_k (by decide), s_i_eq]
    · rw [h9, h8, s_i_k (by decide), s_i_eq]
    · rw [h9, s_i_eq]
  · rw [nI_le' (by omega) (by omega)] at hc
    have hin : vp_in (nI i) 10 := nI_in' (by omega) (by omega)
    refine wp_gd hin (wp_gd hin (wp_bd (fun s1 h1 => wp_gd hin (wp_gd hin (wp_bd (fun s2 h2 => wp_gd hin (wp_gd hin (wp_bd (fun s3 h3 => wp_gd hin (wp_gd hin (wp_bd (fun s4 h4 => wp_some ⟨by omega, nI_1 i, ?_⟩))))))))))))
    rw [nI_cl (by omega)] at h1 h2 h3 h4
    rw [h18, h40, hue _ i (by omega)] at h1
    rw [h19, h41, h1, s_i_a (show e + 2 ≠ b + 1 by omega), hue _ i (by omega), ← h1] at h2
    rw [h20, h42, h2, s_i_a (show e + 3 ≠ b + 2 by omega), h1, s_i_a (show e + 3 ≠ b + 1 by omega), hue _ i (by omega), ← h1, ← h2] at h3
    rw [h21, h43, h3, s_i_a (show e + 4 ≠ b + 3 by omega), h2, s_i_a (show e + 4 ≠ b + 2 by omega), h1, s_i_a (show e + 4 ≠ b + 1 by omega), hue _ i (by omega), ← h1, ← h2, ← h3] at h4
    refine ⟨?_, fun l hl => ?_⟩
    · rw [h4, h3, h2, h1]
      exact ux_s (ux_s (ux_s (ux_s hu (by simp)) (by simp)) (by simp)) (by simp)
    · show g_i s4 (b + 1) l = _ ∧ g_i s4 (b + 2) l = _ ∧ g_i s4 (b + 3) l = _ ∧ g_i s4 (b + 4) l = _
      by_cases hli : l = i
      · subst hli
        refine ⟨?_, ?_, ?_, ?_⟩
        · rw [h4, s_i_a (show b + 1 ≠ b + 4 by omega), h3, s_i_a (show b + 1 ≠ b + 3 by omega), h2, s_i_a (show b + 1 ≠ b + 2 by omega), h1, s_i_eq]
        · rw [h4, s_i_a (show b + 2 ≠ b + 4 by omega), h3, s_i_a (show b + 2 ≠ b + 3 by omega), h2, s_i_eq]
        · rw [h4, s_i_a (show b + 3 ≠ b + 4 by omega), h3, s_i_eq]
        · rw [h4, s_i_eq]
      · have hx : ∀ a, g_i s4 a l = g_i υ a l := fun a => by rw [h4, h3, h2, h1, s_i_k hli, s_i_k hli, s_i_k hli, s_i_k hli]
        rw [hx, hx, hx, hx]
        exact hlo l (by omega)
