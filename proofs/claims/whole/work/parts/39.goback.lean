def wGb : Nat → Nat → Bool := fun a k => (a == 102 && k % 4 == 1) || a == 103 || a == 104 || a == 105 || (a == 101 && (k == 14 || k == 15 || k == 16 || k == 17))
theorem gob_lp {i : Nat} (hi2 : i < 2) (σ : jS) : wp (lp (f_X11_goBack_L34 nmM (nI (50 * i))) fu (0, σ)) (fun τ => ux wGb σ τ ∧ (∀ k, g_i τ 101 k = g_i σ 101 k) ∧ ∀ l, l < 10 → g_i τ 102 (4 * l + 1) = g_i σ 126 (50 * i + l) ∧ g_i τ 103 l = g_i σ 126 (50 * i + 10 + l) ∧ g_i τ 104 l = g_i σ 126 (50 * i + 20 + l) ∧ g_i τ 105 l = g_i σ 126 (50 * i + 30 + l)) := by
  refine wp_up 10 (fun j s => s.1 = nI j ∧ ux wGb σ s.2 ∧ (∀ k, g_i s.2 101 k = g_i σ 101 k) ∧ ∀ l, l < j → g_i s.2 102 (4 * l + 1) = g_i σ 126 (50 * i + l) ∧ g_i s.2 103 l = g_i σ 126 (50 * i + 10 + l) ∧ g_i s.2 104 l = g_i σ 126 (50 * i + 20 + l) ∧ g_i s.2 105 l = g_i σ 126 (50 * i + 30 + l)) (i := 0) (by omega) (by omega) ⟨rfl, ux_refl _ _, fun _ => rfl, fun l hl => absurd hl (Nat.not_lt_zero l)⟩ ?_
  rintro j ⟨v, υ⟩ hj ⟨hv, hu, h101, hlo⟩
  have hv : v = nI j := hv
  subst hv
  have hu : ux wGb σ υ := hu
  have h101 : ∀ k, g_i υ 101 k = g_i σ 101 k := h101
  have hlo : ∀ l, l < j → g_i υ 102 (4 * l + 1) = g_i σ 126 (50 * i + l) ∧ g_i υ 103 l = g_i σ 126 (50 * i + 10 + l) ∧ g_i υ 104 l = g_i σ 126 (50 * i + 20 + l) ∧ g_i υ 105 l = g_i σ 126 (50 * i + 30 + l) := hlo
  unfold f_X11_goBack_L34
  show wp (if nI 10 ≤ nI j then _ else _) _
  refine wp_ite (fun hc => ?_) (fun hc => ?_)
  · rw [nI_le' (by omega) (by omega)] at hc
    exact wp_some ⟨hu, h101, fun l hl => hlo l (by omega)⟩
  · rw [nI_le' (by omega) (by omega)] at hc
    have hin : vp_in (nI j) 10 := nI_in' (by omega) (by omega)
    have g4 : vp_in (4 * nI j + 1) 40 := nI_41 (c := 1) (by omega) (by omega)
    have c4 : (4 * nI j + 1).toNatClampNeg = 4 * j + 1 := nI_41c (c := 1) (by omega)
    have x0 : nI (50 * i) + nI j = nI (50 * i + j) := nI_add _ _
    have x1 : nI (50 * i) + 10 + nI j = nI (50 * i + 10 + j) := ix1 (c := 10) (by omega)
    have x2 : nI (50 * i) + 20 + nI j = nI (50 * i + 20 + j) := ix1 (c := 20) (by omega)
    have x3 : nI (50 * i) + 30 + nI j = nI (50 * i + 30 + j) := ix1 (c := 30) (by omega)
    rw [x0, x1, x2, x3]
    have hg : ∀ c, c < 100 → vp_in (nI c) 100 := fun c h => nI_in' h (by omega)
    refine wp_gd (hg _ (by omega)) (wp_gd g4 (wp_bd (fun s3 h3 => wp_gd (hg _ (by omega)) (wp_gd hin (wp_bd (fun s4 h4 => wp_gd (hg _ (by omega)) (wp_gd hin (wp_bd (fun s5 h5 => wp_gd (hg _ (by omega)) (wp_gd hin (wp_bd (fun s6 h6 => wp_some ⟨by omega, nI_1 j, ?_⟩))))))))))))
    rw [c4, nI_cl (by omega)] at h3
    rw [nI_cl (by omega), nI_cl (by omega)] at h4 h5 h6
    have f3 : g_i υ (nmM 25) (50 * i + j) = g_i σ 126 (50 * i + j) := hu 126 _ rfl
    rw [f3] at h3
    have f4 : g_i s3 (nmM 25) (50 * i + 10 + j) = g_i σ 126 (50 * i + 10 + j) := by rw [h3]; exact hu 126 _ rfl
    rw [f4] at h4
    have f5 : g_i s4 (nmM 25) (50 * i + 20 + j) = g_i σ 126 (50 * i + 20 + j) := by rw [h4, h3]; exact hu 126 _ rfl
    rw [f5] at h5
    have f6 : g_i s5 (nmM 25) (50 * i + 30 + j) = g_i σ 126 (50 * i + 30 + j) := by rw [h5, h4, h3]; exact hu 126 _ rfl
    rw [f6] at h6
    have e6 : s6 = s_i (s_i (s_i (s_i υ 102 (4 * j + 1) (g_i σ 126 (50 * i + j))) 103 j (g_i σ 126 (50 * i + 10 + j))) 104 j (g_i σ 126 (50 * i + 20 + j))) 105 j (g_i σ 126 (50 * i + 30 + j)) := by rw [h6, h5, h4, h3]; rfl
    refine ⟨?_, fun k => ?_, fun l hl => ?_⟩
    · show ux wGb σ s6
      rw [e6]
      exact ux_s (ux_s (ux_s (ux_s hu (by simp [wGb])) rfl) rfl) rfl
    · show g_i s6 101 k = _
      rw [e6, s_i_a (show (101 : Nat) ≠ 105 by decide), s_i_a (show (101 : Nat) ≠ 104 by decide), s_i_a (show (101 : Nat) ≠ 103 by decide), s_i_a (show (101 : Nat) ≠ 102 by decide)]
      exact h101 k
    · show g_i s6 102 (4 * l + 1) = _ ∧ g_i s6 103 l = _ ∧ g_i s6 104 l = _ ∧ g_i s6 105 l = _
      rw [e6]
      rw [s_i_a (show (102 : Nat) ≠ 105 by decide), s_i_a (show (102 : Nat) ≠ 104 by decide), s_i_a (show (102 : Nat) ≠ 103 by decide), s_i_a (show (103 : Nat) ≠ 105 by decide), s_i_a (show (103 : Nat) ≠ 104 by decide), s_i_a (show (104 : Nat) ≠ 105 by decide)]
      by_cases hlj : l = j
      · subst hlj
        exact ⟨s_i_eq _ _ _ _, s_i_eq _ _ _ _, s_i_eq _ _ _ _, s_i_eq _ _ _ _⟩
      · have hl' : l < j := by omega
        exact ⟨(s_i_k (show 4 * l + 1 ≠ 4 * j + 1 by omega)).trans (hlo l hl').1, (s_i_k hlj).trans (hlo l hl').2.1, (s_i_k hlj).trans (hlo l hl').2.2.1, (s_i_k hlj).trans (hlo l hl').2.2.2⟩
theorem mgob {i : Nat} {σ : jS} (hi2 : i < 2) (h1 : g_i σ 127 i = 1) : wp (f_X11_goBack nmM (nI i) σ) (fun x => x.1 = 1 ∧ ux wGb σ x.2 ∧ (∀ l, l < 10 → g_i x.2 102 (4 * l + 1) = g_i σ 126 (50 * i + l) ∧ g_i x.2 103 l = g_i σ 126 (50 * i + 10 + l) ∧ g_i x.2 104 l = g_i σ 126 (50 * i + 20 + l) ∧ g_i x.2 105 l = g_i σ 126 (50 * i + 30 + l)) ∧ g_i x.2 101 14 = g_i σ 126 (50 * i + 40) ∧ g_i x.2 101 15 = g_i σ 126 (50 * i + 41) ∧ g_i x.2 101 16 = g_i σ 126 (50 * i + 42) ∧ g_i x.2 101 17 = g_i σ 126 (50 * i + 43)) := by
  unfold f_X11_goBack
  refine wp_bindE (in_yes (by rw [ti64, nI_ti (by omega)]; show (0 : Int) ≤ i; omega) (by rw [ti64, nI_ti (by omega)]; show (i : Int) ≤ 1; omega)) ?_
  rw [if_neg i10]
  refine wp_gd (nI_in' hi2 (by omega)) ?_
  have h1' : g_i σ (nmM 26) (nI i).toNatClampNeg = 1 := by rw [nI_cl (by omega)]; exact h1
  rw [h1', if_neg i10]
  refine wp_bd (fun x2 hx2 => ?_)
  have hx2 : x2 = nI (50 * i) := hx2.trans (nI_mul 50 i)
  subst hx2
  refine wp_bind (wp_mono (gob_lp hi2 σ) ?_)
  rintro s7 ⟨hu, -, hv⟩
  have y0 : nI (50 * i) + 40 = nI (50 * i + 40) := nI_add _ 40
  have y1 : nI (50 * i) + 41 = nI (50 * i + 41) := nI_add _ 41
  have y2 : nI (50 * i) + 42 = nI (50 * i + 42) := nI_add _ 42
  have y3 : nI (50 * i) + 43 = nI (50 * i + 43) := nI_add _ 43
  rw [y0, y1, y2, y3]
  have hg : ∀ c, c < 100 → vp_in (nI c) 100 := fun c h => nI_in' h (by omega)
  refine wp_gd (hg _ (by omega)) (wp_bd (fun s8 h8 => wp_gd (hg _ (by omega)) (wp_bd (fun s9 h9 => wp_gd (hg _ (by omega)) (wp_bd (fun s10 h10 => wp_gd (hg _ (by omega)) (wp_bd (fun s11 h11 => wp_some ⟨rfl, ?_⟩))))))))
  rw [nI_cl (by omega)] at h8 h9 h10 h11
  have q8 : g_i s7 (nmM 25) (50 * i + 40) = g_i σ 126 (50 * i + 40) := hu 126 _ rfl
  rw [q8] at h8
  have q9 : g_i s8 (nmM 25) (50 * i + 41) = g_i σ 126 (50 * i + 41) := by rw [h8]; exact hu 126 _ rfl
  rw [q9] at h9
  have q10 : g_i s9 (nmM 25) (50 * i + 42) = g_i σ 126 (50 * i + 42) := by rw [h9, h8]; exact hu 126 _ rfl
  rw [q10] at h10
  have q11 : g_i s10 (nmM 25) (50 * i + 43) = g_i σ 126 (50 * i + 43) := by rw [h10, h9, h8]; exact hu 126 _ rfl
  rw [q11] at h11
  have e11 : s11 = s_i (s_i (s_i (s_i s7 101 14 (g_i σ 126 (50 * i + 40))) 101 15 (g_i σ 126 (50 * i + 41))) 101 16 (g_i σ 126 (50 * i + 42))) 101 17 (g_i σ 126 (50 * i + 43)) := by rw [h11, h10, h9, h8]; rfl
  show ux wGb σ s11 ∧ (∀ l, l < 10 → g_i s11 102 (4 * l + 1) = g_i σ 126 (50 * i + l) ∧ g_i s11 103 l = g_i σ 126 (50 * i + 10 + l) ∧ g_i s11 104 l = g_i σ 126 (50 * i + 20 + l) ∧ g_i s11 105 l = g_i σ 126 (50 * i + 30 + l)) ∧ g_i s11 101 14 = g_i σ 126 (50 * i + 40) ∧ g_i s11 101 15 = g_i σ 126 (50 * i + 41) ∧ g_i s11 101 16 = g_i σ 126 (50 * i + 42) ∧ g_i s11 101 17 = g_i σ 126 (50 * i + 43)
  rw [e11]
  refine ⟨ux_s (ux_s (ux_s (ux_s hu rfl) rfl) rfl) rfl, fun l hl => hv l hl, ?_, ?_, ?_, s_i_eq _ _ _ _⟩
  · rw [s_i_k (by decide), s_i_k (by decide), s_i_k (by decide), s_i_eq]
  · rw [s_i_k (by decide), s_i_k (by decide), s_i_eq]
  · rw [s_i_k (by decide), s_i_eq]
/-- both sides of goBack, for one image that was kept -/
theorem gob_one {i b : Nat} {σ τ1 s4 : jS} {n m : Nat} (hi2 : i < 2) (hb : b = 67 + 5 * i) (hSi : RSite n m σ) (hSo : RSongs m σ) (hD : RDays σ) (hSg : RSig n σ) (hL : RLog σ) (hI0 : RImg n 67 0 σ) (hI1 : RImg n 72 1 σ) (hT : RText σ) (hF : RFault σ) (hI : RImg n b i σ) (hk : g_i σ b 9 = 1) (hu4 : ux (wCp 57) σ s4) (hv4 : (∀ l, l < 10 → g_i s4 (57 + 1) l = g_i σ (b + 1) l ∧ g_i s4 (57 + 2) l = g_i σ (b + 2) l ∧ g_i s4 (57 + 3) l = g_i σ (b + 3) l ∧ g_i s4 (57 + 4) l = g_i σ (b + 4) l) ∧ g_i s4 57 5 = g_i σ b 5 ∧ g_i s4 57 6 = g_i σ b 6 ∧ g_i s4 57 7 = g_i σ b 7 ∧ g_i s4 57 8 = g_i σ b 8) (h1 : τ1 = s_i s4 91 7 0) : ∃ τ, f_X11_goBack nmM (nI i) τ1 = some (1, τ) ∧ Rel τ := by
  rcases hI with ⟨h9, -⟩ | ⟨-, g127, ⟨m1, m2, m3, m4, m5⟩, n0, n1, n2, n3, n4, n5⟩
  · rw [hk] at h9; exact absurd h9 (by decide)
  have hu1 : ux (fun a k => wCp 57 a k || (a == 91 && k == 7)) σ τ1 := by
    rw [h1]
    exact ux_s (ux_w hu4 (fun a k h => (Bool.or_eq_false_iff.mp h).1)) rfl
  have k127 : g_i τ1 127 i = 1 := (hu1 127 i rfl).trans g127
  obtain ⟨⟨r, τ⟩, ht, hr, hut, hvt, t14, t15, t16, t17⟩ := mgob (i := i) (σ := τ1) hi2 k127
  have hr : r = 1 := hr
  subst hr
  have hu := ux_trans hu1 hut
  obtain ⟨c1, c5, c6, c7, c8⟩ := hv4
  have k126 : ∀ k, g_i τ1 126 k = g_i σ 126 k := fun k => hu1 126 k rfl
  have t1 : ∀ a k, a ≠ 91 → g_i τ1 a k = g_i s4 a k := fun a k h => by rw [h1]; exact s_i_a h
  have e5 : ∀ l, l < 10 → g_i τ 58 l = g_i σ (b + 1) l ∧ g_i τ 59 l = g_i σ (b + 2) l ∧ g_i τ 60 l = g_i σ (b + 3) l ∧ g_i τ 61 l = g_i σ (b + 4) l := fun l hl => by
    rw [hut 58 l rfl, hut 59 l rfl, hut 60 l rfl, hut 61 l rfl, t1 _ l (by decide), t1 _ l (by decide), t1 _ l (by decide), t1 _ l (by decide)]
    exact c1 l hl
  have f5 : g_i τ 57 5 = g_i σ b 5 := by rw [hut 57 5 rfl, t1 _ _ (by decide)]; exact c5
  have f6 : g_i τ 57 6 = g_i σ b 6 := by rw [hut 57 6 rfl, t1 _ _ (by decide)]; exact c6
  have f7 : g_i τ 57 7 = g_i σ b 7 := by rw [hut 57 7 rfl, t1 _ _ (by decide)]; exact c7
  have f8 : g_i τ 57 8 = g_i σ b 8 := by rw [hut 57 8 rfl, t1 _ _ (by decide)]; exact c8
  have hn := hSi.1.1
  have hw : ∀ a k, a < 57 → ((wCp 57 a k || (a == 91 && k == 7)) || wGb a k) = false := fun a k h => by simp [wCp, wGb]; omega
  refine ⟨τ, ht, n, m, RSite.cg hu (okS_ux hw (fun _ => rfl) (fun k h => by simp [wCp, wGb]; omega)) (fun l _ => ⟨by simp [wCp, wGb], by simp [wCp, wGb], by simp [wCp, wGb]⟩) hSi, ⟨⟨fun l hl => ?_, fun l hl => ?_, ?_, ?_, ?_⟩, fun l hl => ?_, fun l hl => ?_, ?_, ?_, ?_, ?_⟩, RSongs.cg hu ⟨fun _ => rfl, fun _ => rfl, fun _ => rfl, fun _ => rfl, fun _ => rfl, fun _ => rfl, fun _ => rfl, rfl⟩ hSo, RDays.cg hu ⟨fun _ => rfl, fun _ => rfl, fun _ => rfl, rfl⟩ hD, RSig.cg hu ⟨fun _ => rfl, fun _ => rfl, fun _ => rfl, rfl⟩ hSg, RLog.cg hu ⟨fun _ => rfl, fun _ => rfl, fun _ => rfl, rfl⟩ hL, RImg.cg hu ⟨fun _ => rfl, fun _ => rfl, fun _ => rfl, fun _ => rfl, fun _ => rfl, fun _ => rfl, fun _ => rfl⟩ hI0, RImg.cg hu ⟨fun _ => rfl, fun _ => rfl, fun _ => rfl, fun _ => rfl, fun _ => rfl, fun _ => rfl, fun _ => rfl⟩ hI1, RText.cg hu ⟨fun _ => rfl, fun _ => rfl, fun _ => rfl, rfl⟩ hT, RFault.cg hu ⟨rfl, rfl⟩ hF, Or.inl ?_⟩
  · show rg (g_i τ 58 l) 0 63
    rw [(e5 l (by omega)).1]; exact m1 l hl
  · show rg (g_i τ 59 l) 0 99 ∧ rg (g_i τ 60 l) 0 99 ∧ (n ≤ l → g_i τ 59 l = 0)
    rw [(e5 l hl).2.1, (e5 l hl).2.2.1]; exact m2 l hl
  · rw [f6]; exact m3
  · rw [f7]; exact m4
  · rw [f8]; exact m5
  · rw [(e5 l (by omega)).1, (hvt l (by omega)).1, k126]; exact n0 l hl
  · rw [(e5 l hl).2.1, (e5 l hl).2.2.1, (e5 l hl).2.2.2, (hvt l hl).2.1, (hvt l hl).2.2.1, (hvt l hl).2.2.2, k126, k126, k126]
    exact n1 l hl
  · rw [f5, t14, k126]; exact n2
  · rw [f6, t15, k126]; exact n3
  · rw [f7, t16, k126]; exact n4
  · rw [f8, t17, k126]; exact n5
  · rw [hut 91 7 rfl, h1]; exact s_i_eq _ _ _ _
theorem img_bool {n b i : Nat} {σ : jS} (h : RImg n b i σ) (h0 : g_i σ b 9 ≠ 0) : g_i σ b 9 = 1 := by
  rcases h with ⟨a, -⟩ | ⟨a, -⟩
  · exact absurd a h0
  · exact a
theorem img_none {n b i : Nat} {σ : jS} (hi2 : i < 2) (h : RImg n b i σ) (h0 : g_i σ b 9 = 0) : f_X11_goBack nmM (nI i) σ = some (-1003, σ) := by
  have e : g_i σ 127 i = 0 := by
    rcases h with ⟨-, a⟩ | ⟨a, -⟩
    · exact a
    · rw [h0] at a; exact absurd a (by decide)
  unfold f_X11_goBack
  rw [in_yes (by rw [ti64, nI_ti (by omega)]; show (0 : Int) ≤ i; omega) (by rw [ti64, nI_ti (by omega)]; show (i : Int) ≤ 1; omega), bnd, if_neg i10, gd_t (nI_in' hi2 (by omega)), nI_cl (by omega)]
  exact if_pos e
theorem st_goBack (a : Int32) : sII Rel (fun σ => f_X10_goBack nmX a σ) (fun σ => f_X11_goBack nmM a σ) := by
  rintro σ ⟨n, m, hSi, hN, hSo, hD, hSg, hL, hI0, hI1, hT, hF, hTo⟩
  by_cases h0 : a = 0
  · subst h0
    by_cases hk : g_i σ 67 9 = 0
    · refine ⟨-1003, σ, σ, ?_, img_none (i := 0) (by omega) hI0 hk, n, m, hSi, hN, hSo, hD, hSg, hL, hI0, hI1, hT, hF, hTo⟩
      show f_X10_goBack nmX 0 σ = _
      unfold f_X10_goBack f_X10_imageOf
      rw [if_pos rfl, bnd, if_pos rfl]
      exact if_pos hk
    · obtain ⟨s4, ht, hu4, hv4⟩ := copy_c (nm := jn nmX [57, 31, 32, 33, 34, 35, 36, 37, 38, 39, 40, 41, 42, 43, 44, 45, 46, 47, 58, 59, 60, 61, 67, 31, 32, 33, 34, 35, 36, 37, 38, 39, 40, 41, 42, 43, 44, 45, 46, 47, 68, 69, 70, 71]) (b := 57) (e := 67) (by omega) rfl rfl rfl rfl rfl rfl rfl rfl rfl rfl σ
      obtain ⟨τ, hm, hR⟩ := gob_one (i := 0) (b := 67) (by omega) rfl hSi hSo hD hSg hL hI0 hI1 hT hF hI0 (img_bool hI0 hk) hu4 hv4 (τ1 := s_i s4 91 7 0) rfl
      refine ⟨1, s_i s4 91 7 0, τ, ?_, hm, hR⟩
      show f_X10_goBack nmX 0 σ = _
      unfold f_X10_goBack f_X10_imageOf
      rw [if_pos rfl, bnd, if_pos rfl, ht]
      exact if_neg hk
  · by_cases h1 : a = 1
    · subst h1
      by_cases hk : g_i σ 72 9 = 0
      · refine ⟨-1003, σ, σ, ?_, img_none (i := 1) (by omega) hI1 hk, n, m, hSi, hN, hSo, hD, hSg, hL, hI0, hI1, hT, hF, hTo⟩
        show f_X10_goBack nmX 1 σ = _
        unfold f_X10_goBack f_X10_imageOf
        rw [if_neg (by decide), if_pos rfl, bnd, if_neg (by decide), if_pos rfl]
        exact if_pos hk
      · obtain ⟨s4, ht, hu4, hv4⟩ := copy_c (nm := jn nmX [57, 31, 32, 33, 34, 35, 36, 37, 38, 39, 40, 41, 42, 43, 44, 45, 46, 47, 58, 59, 60, 61, 72, 31, 32, 33, 34, 35, 36, 37, 38, 39, 40, 41, 42, 43, 44, 45, 46, 47, 73, 74, 75, 76]) (b := 57) (e := 72) (by omega) rfl rfl rfl rfl rfl rfl rfl rfl rfl rfl σ
        obtain ⟨τ, hm, hR⟩ := gob_one (i := 1) (b := 72) (by omega) rfl hSi hSo hD hSg hL hI0 hI1 hT hF hI1 (img_bool hI1 hk) hu4 hv4 (τ1 := s_i s4 91 7 0) rfl
        refine ⟨1, s_i s4 91 7 0, τ, ?_, hm, hR⟩
        show f_X10_goBack nmX 1 σ = _
        unfold f_X10_goBack f_X10_imageOf
        rw [if_neg (by decide), if_pos rfl, bnd, if_neg (by decide), if_pos rfl, ht]
        exact if_neg hk
    · refine ⟨-1001, σ, σ, ?_, ?_, n, m, hSi, hN, hSo, hD, hSg, hL, hI0, hI1, hT, hF, hTo⟩
      · show f_X10_goBack nmX a σ = _
        unfold f_X10_goBack f_X10_imageOf
        rw [if_neg h0, if_neg h1, bnd, if_neg (by decide), if_neg (by decide), if_pos rfl]
      · show f_X11_goBack nmM a σ = _
        unfold f_X11_goBack
        rw [in_no, bnd, if_pos rfl]
        rw [ti64]
        show ¬ ((0 : Int) ≤ a.toInt ∧ a.toInt ≤ 1)
        intro hh
        obtain ⟨j, hj, e⟩ := rg_nI (x := a) (hi := 1) hh
        have : j = 0 ∨ j = 1 := by omega
        rcases this with rfl | rfl
        · exact h0 e
        · exact h1 e