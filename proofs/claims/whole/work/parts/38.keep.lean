theorem RImg.cg2 {W : Nat → Nat → Bool} {σ τ : jS} {n b i : Nat} (hu : ux W σ τ) (hb : (∀ k, W b k = false) ∧ (∀ k, W (b + 1) k = false) ∧ (∀ k, W (b + 2) k = false) ∧ (∀ k, W (b + 3) k = false) ∧ (∀ k, W (b + 4) k = false)) (h126 : ∀ k, k < 44 → W 126 (50 * i + k) = false) (h127 : W 127 i = false) (hn : n ≤ 10) (h : RImg n b i σ) : RImg n b i τ := by
  obtain ⟨w0, w1, w2, w3, w4⟩ := hb
  have e126 : ∀ k, k < 44 → g_i τ 126 (50 * i + k) = g_i σ 126 (50 * i + k) := fun k hk => hu 126 _ (h126 k hk)
  unfold RImg at h ⊢
  rw [hu b 9 (w0 9), hu 127 i h127]
  rcases h with h | ⟨h1, h2, h3, h4, h5, h6, h7, h8, h9⟩
  · exact Or.inl h
  · refine Or.inr ⟨h1, h2, RMom.cg hu ⟨w1, w2, w3, w0 6, w0 7, w0 8⟩ h3, fun l hl => ?_, fun l hl => ?_, ?_, ?_, ?_, ?_⟩
    · rw [e126 l (by omega), hu _ l (w1 l)]; exact h4 l hl
    · have a1 := e126 (10 + l) (by omega)
      have a2 := e126 (20 + l) (by omega)
      have a3 := e126 (30 + l) (by omega)
      rw [← Nat.add_assoc] at a1 a2 a3
      rw [a1, a2, a3, hu _ l (w2 l), hu _ l (w3 l), hu _ l (w4 l)]; exact h5 l hl
    · rw [e126 40 (by omega), hu b 5 (w0 5)]; exact h6
    · rw [e126 41 (by omega), hu b 6 (w0 6)]; exact h7
    · rw [e126 42 (by omega), hu b 7 (w0 7)]; exact h8
    · rw [e126 43 (by omega), hu b 8 (w0 8)]; exact h9
def wKp (i : Nat) : Nat → Nat → Bool := fun a k => (a == 126 && (decide (50 * i ≤ k) && decide (k < 50 * i + 44))) || (a == 127 && k == i)
theorem ix1 {i l c : Nat} (h : 50 * i + c + l < 100) : nI (50 * i) + nI c + nI l = nI (50 * i + c + l) := by rw [nI_add, nI_add]
theorem keep_lp {i : Nat} {v1 : Int32} (hi2 : i < 2) (σ : jS) : wp (lp (f_X11_keep_L21 nmM v1 (nI (50 * i))) fu (0, σ)) (fun τ => ux (wKp i) σ τ ∧ ∀ l, l < 10 → g_i τ 126 (50 * i + l) = g_i σ 102 (4 * l + 1) ∧ g_i τ 126 (50 * i + 10 + l) = g_i σ 103 l ∧ g_i τ 126 (50 * i + 20 + l) = g_i σ 104 l ∧ g_i τ 126 (50 * i + 30 + l) = g_i σ 105 l) := by
  refine wp_up 10 (fun j s => s.1 = nI j ∧ ux (wKp i) σ s.2 ∧ ∀ l, l < j → g_i s.2 126 (50 * i + l) = g_i σ 102 (4 * l + 1) ∧ g_i s.2 126 (50 * i + 10 + l) = g_i σ 103 l ∧ g_i s.2 126 (50 * i + 20 + l) = g_i σ 104 l ∧ g_i s.2 126 (50 * i + 30 + l) = g_i σ 105 l) (i := 0) (by omega) (by omega) ⟨rfl, ux_refl _ _, fun l hl => absurd hl (Nat.not_lt_zero l)⟩ ?_
  rintro j ⟨v, υ⟩ hj ⟨hv, hu, hlo⟩
  have hv : v = nI j := hv
  subst hv
  have hu : ux (wKp i) σ υ := hu
  have hlo : ∀ l, l < j → g_i υ 126 (50 * i + l) = g_i σ 102 (4 * l + 1) ∧ g_i υ 126 (50 * i + 10 + l) = g_i σ 103 l ∧ g_i υ 126 (50 * i + 20 + l) = g_i σ 104 l ∧ g_i υ 126 (50 * i + 30 + l) = g_i σ 105 l := hlo
  unfold f_X11_keep_L21
  show wp (if nI 10 ≤ nI j then _ else _) _
  refine wp_ite (fun hc => ?_) (fun hc => ?_)
  · rw [nI_le' (by omega) (by omega)] at hc
    exact wp_some ⟨hu, fun l hl => hlo l (by omega)⟩
  · rw [nI_le' (by omega) (by omega)] at hc
    have hin : vp_in (nI j) 10 := nI_in' (by omega) (by omega)
    have g4 : vp_in (4 * nI j + 1) 40 := nI_41 (c := 1) (by omega) (by omega)
    have c4 : (4 * nI j + 1).toNatClampNeg = 4 * j + 1 := nI_41c (c := 1) (by omega)
    have x0 : nI (50 * i) + nI j = nI (50 * i + j) := nI_add _ _
    have x1 : nI (50 * i) + 10 + nI j = nI (50 * i + 10 + j) := ix1 (c := 10) (by omega)
    have x2 : nI (50 * i) + 20 + nI j = nI (50 * i + 20 + j) := ix1 (c := 20) (by omega)
    have x3 : nI (50 * i) + 30 + nI j = nI (50 * i + 30 + j) := ix1 (c := 30) (by omega)
    rw [x0, x1, x2, x3]
    have hg : ∀ c, c < 100 → vp_in (nI c) 100 := fun c h => nI_in' h (by omega)
    refine wp_gd g4 (wp_gd (hg _ (by omega)) (wp_bd (fun s3 h3 => wp_gd hin (wp_gd (hg _ (by omega)) (wp_bd (fun s4 h4 => wp_gd hin (wp_gd (hg _ (by omega)) (wp_bd (fun s5 h5 => wp_gd hin (wp_gd (hg _ (by omega)) (wp_bd (fun s6 h6 => wp_some ⟨by omega, nI_1 j, ?_⟩))))))))))))
    rw [c4, nI_cl (by omega)] at h3
    rw [nI_cl (by omega), nI_cl (by omega)] at h4 h5 h6
    have f3 : g_i υ (nmM 1) (4 * j + 1) = g_i σ 102 (4 * j + 1) := hu 102 _ rfl
    rw [f3] at h3
    have f4 : g_i s3 (nmM 2) j = g_i σ 103 j := by rw [h3]; exact hu 103 j rfl
    rw [f4] at h4
    have f5 : g_i s4 (nmM 3) j = g_i σ 104 j := by rw [h4, h3]; exact hu 104 j rfl
    rw [f5] at h5
    have f6 : g_i s5 (nmM 4) j = g_i σ 105 j := by rw [h5, h4, h3]; exact hu 105 j rfl
    rw [f6] at h6
    have e6 : s6 = s_i (s_i (s_i (s_i υ 126 (50 * i + j) (g_i σ 102 (4 * j + 1))) 126 (50 * i + 10 + j) (g_i σ 103 j)) 126 (50 * i + 20 + j) (g_i σ 104 j)) 126 (50 * i + 30 + j) (g_i σ 105 j) := by rw [h6, h5, h4, h3]; rfl
    have wk : ∀ c, 50 * i ≤ c → c < 50 * i + 44 → wKp i 126 c = true := fun c h1 h2 => by simp [wKp, h1, h2]
    refine ⟨?_, fun l hl => ?_⟩
    · show ux (wKp i) σ s6
      rw [e6]
      exact ux_s (ux_s (ux_s (ux_s hu (wk _ (by omega) (by omega))) (wk _ (by omega) (by omega))) (wk _ (by omega) (by omega))) (wk _ (by omega) (by omega))
    · show g_i s6 126 (50 * i + l) = _ ∧ g_i s6 126 (50 * i + 10 + l) = _ ∧ g_i s6 126 (50 * i + 20 + l) = _ ∧ g_i s6 126 (50 * i + 30 + l) = _
      rw [e6]
      by_cases hlj : l = j
      · subst hlj
        refine ⟨?_, ?_, ?_, ?_⟩
        · rw [s_i_k (by omega), s_i_k (by omega), s_i_k (by omega), s_i_eq]
        · rw [s_i_k (by omega), s_i_k (by omega), s_i_eq]
        · rw [s_i_k (by omega), s_i_eq]
        · rw [s_i_eq]
      · have hx : ∀ c, (∀ d, d = 0 ∨ d = 10 ∨ d = 20 ∨ d = 30 → c ≠ 50 * i + d + j) → g_i (s_i (s_i (s_i (s_i υ 126 (50 * i + j) (g_i σ 102 (4 * j + 1))) 126 (50 * i + 10 + j) (g_i σ 103 j)) 126 (50 * i + 20 + j) (g_i σ 104 j)) 126 (50 * i + 30 + j) (g_i σ 105 j)) 126 c = g_i υ 126 c := fun c h => by
          rw [s_i_k (h 30 (by omega)), s_i_k (h 20 (by omega)), s_i_k (h 10 (by omega)), s_i_k (show c ≠ 50 * i + j from h 0 (by omega))]
        have hl' : l < j := by omega
        rw [hx _ (fun d hd => by omega), hx _ (fun d hd => by omega), hx _ (fun d hd => by omega), hx _ (fun d hd => by omega)]
        exact hlo l hl'
theorem mkeep {i : Nat} {σ : jS} (hi2 : i < 2) : wp (f_X11_keep nmM (nI i) σ) (fun x => x.1 = 1 ∧ ux (wKp i) σ x.2 ∧ (∀ l, l < 10 → g_i x.2 126 (50 * i + l) = g_i σ 102 (4 * l + 1) ∧ g_i x.2 126 (50 * i + 10 + l) = g_i σ 103 l ∧ g_i x.2 126 (50 * i + 20 + l) = g_i σ 104 l ∧ g_i x.2 126 (50 * i + 30 + l) = g_i σ 105 l) ∧ g_i x.2 126 (50 * i + 40) = g_i σ 101 14 ∧ g_i x.2 126 (50 * i + 41) = g_i σ 101 15 ∧ g_i x.2 126 (50 * i + 42) = g_i σ 101 16 ∧ g_i x.2 126 (50 * i + 43) = g_i σ 101 17 ∧ g_i x.2 127 i = 1) := by
  unfold f_X11_keep
  refine wp_bindE (in_yes (by rw [ti64, nI_ti (by omega)]; show (0 : Int) ≤ i; omega) (by rw [ti64, nI_ti (by omega)]; show (i : Int) ≤ 1; omega)) ?_
  rw [if_neg i10]
  refine wp_bd (fun x2 hx2 => ?_)
  have hx2 : x2 = nI (50 * i) := hx2.trans (nI_mul 50 i)
  subst hx2
  refine wp_bind (wp_mono (keep_lp hi2 σ) ?_)
  rintro s7 ⟨hu, hv⟩
  have y0 : nI (50 * i) + 40 = nI (50 * i + 40) := nI_add _ 40
  have y1 : nI (50 * i) + 41 = nI (50 * i + 41) := nI_add _ 41
  have y2 : nI (50 * i) + 42 = nI (50 * i + 42) := nI_add _ 42
  have y3 : nI (50 * i) + 43 = nI (50 * i + 43) := nI_add _ 43
  rw [y0, y1, y2, y3]
  have hg : ∀ c, c < 100 → vp_in (nI c) 100 := fun c h => nI_in' h (by omega)
  refine wp_gd (hg _ (by omega)) (wp_bd (fun s8 h8 => wp_gd (hg _ (by omega)) (wp_bd (fun s9 h9 => wp_gd (hg _ (by omega)) (wp_bd (fun s10 h10 => wp_gd (hg _ (by omega)) (wp_bd (fun s11 h11 => wp_gd (nI_in' hi2 (by omega)) (wp_bd (fun s12 h12 => wp_some ⟨rfl, ?_⟩))))))))))
  rw [nI_cl (by omega)] at h8 h9 h10 h11 h12
  have q8 : g_i s7 (nmM 0) 14 = g_i σ 101 14 := hu 101 14 rfl
  rw [q8] at h8
  have q9 : g_i s8 (nmM 0) 15 = g_i σ 101 15 := by rw [h8]; exact hu 101 15 rfl
  rw [q9] at h9
  have q10 : g_i s9 (nmM 0) 16 = g_i σ 101 16 := by rw [h9, h8]; exact hu 101 16 rfl
  rw [q10] at h10
  have q11 : g_i s10 (nmM 0) 17 = g_i σ 101 17 := by rw [h10, h9, h8]; exact hu 101 17 rfl
  rw [q11] at h11
  have e12 : s12 = s_i (s_i (s_i (s_i (s_i s7 126 (50 * i + 40) (g_i σ 101 14)) 126 (50 * i + 41) (g_i σ 101 15)) 126 (50 * i + 42) (g_i σ 101 16)) 126 (50 * i + 43) (g_i σ 101 17)) 127 i 1 := by rw [h12, h11, h10, h9, h8]; rfl
  have wk : ∀ c, 50 * i ≤ c → c < 50 * i + 44 → wKp i 126 c = true := fun c h1 h2 => by simp [wKp, h1, h2]
  show ux (wKp i) σ s12 ∧ (∀ l, l < 10 → g_i s12 126 (50 * i + l) = g_i σ 102 (4 * l + 1) ∧ g_i s12 126 (50 * i + 10 + l) = g_i σ 103 l ∧ g_i s12 126 (50 * i + 20 + l) = g_i σ 104 l ∧ g_i s12 126 (50 * i + 30 + l) = g_i σ 105 l) ∧ g_i s12 126 (50 * i + 40) = g_i σ 101 14 ∧ g_i s12 126 (50 * i + 41) = g_i σ 101 15 ∧ g_i s12 126 (50 * i + 42) = g_i σ 101 16 ∧ g_i s12 126 (50 * i + 43) = g_i σ 101 17 ∧ g_i s12 127 i = 1
  rw [e12]
  refine ⟨ux_s (ux_s (ux_s (ux_s (ux_s hu (wk _ (by omega) (by omega))) (wk _ (by omega) (by omega))) (wk _ (by omega) (by omega))) (wk _ (by omega) (by omega))) (by simp [wKp]), fun l hl => ?_, ?_, ?_, ?_, ?_, s_i_eq _ _ _ _⟩
  · have hx : ∀ c, c < 50 * i + 40 → g_i (s_i (s_i (s_i (s_i (s_i s7 126 (50 * i + 40) (g_i σ 101 14)) 126 (50 * i + 41) (g_i σ 101 15)) 126 (50 * i + 42) (g_i σ 101 16)) 126 (50 * i + 43) (g_i σ 101 17)) 127 i 1) 126 c = g_i s7 126 c := fun c h => by
      rw [s_i_a (show (126 : Nat) ≠ 127 by decide), s_i_k (by omega), s_i_k (by omega), s_i_k (by omega), s_i_k (by omega)]
    rw [hx _ (by omega), hx _ (by omega), hx _ (by omega), hx _ (by omega)]
    exact hv l hl
  · rw [s_i_a (show (126 : Nat) ≠ 127 by decide), s_i_k (by omega), s_i_k (by omega), s_i_k (by omega), s_i_eq]
  · rw [s_i_a (show (126 : Nat) ≠ 127 by decide), s_i_k (by omega), s_i_k (by omega), s_i_eq]
  · rw [s_i_a (show (126 : Nat) ≠ 127 by decide), s_i_k (by omega), s_i_eq]
  · rw [s_i_a (show (126 : Nat) ≠ 127 by decide), s_i_eq]
/-- the class side of keep, for one image -/
theorem keep_one {i b : Nat} {σ τ1 s4 : jS} {n m : Nat} (hi2 : i < 2) (hb : b = 67 + 5 * i) (hSi : RSite n m σ) (hN : RNow n σ) (hSo : RSongs m σ) (hD : RDays σ) (hSg : RSig n σ) (hL : RLog σ) (hI0 : RImg n 67 0 σ) (hI1 : RImg n 72 1 σ) (hT : RText σ) (hF : RFault σ) (hTo : RTour n σ) (hu4 : ux (wCp b) σ s4) (hv4 : (∀ l, l < 10 → g_i s4 (b + 1) l = g_i σ (57 + 1) l ∧ g_i s4 (b + 2) l = g_i σ (57 + 2) l ∧ g_i s4 (b + 3) l = g_i σ (57 + 3) l ∧ g_i s4 (b + 4) l = g_i σ (57 + 4) l) ∧ g_i s4 b 5 = g_i σ 57 5 ∧ g_i s4 b 6 = g_i σ 57 6 ∧ g_i s4 b 7 = g_i σ 57 7 ∧ g_i s4 b 8 = g_i σ 57 8) (h1 : τ1 = s_i s4 b 9 1) : ∃ τ, f_X11_keep nmM (nI i) τ1 = some (1, τ) ∧ Rel τ := by
  obtain ⟨⟨r, τ⟩, ht, hr, hut, hvt, g40, g41, g42, g43, g127⟩ := mkeep (i := i) (σ := τ1) hi2
  have hr : r = 1 := hr
  subst hr
  have hu1 : ux (fun a k => wCp b a k || (a == b && k == 9)) σ τ1 := by
    rw [h1]
    exact ux_s (ux_w hu4 (fun a k h => (Bool.or_eq_false_iff.mp h).1)) (by simp)
  have hu := ux_trans hu1 hut
  obtain ⟨c1, c5, c6, c7, c8⟩ := hv4
  have t1 : ∀ a k, a ≠ b ∨ k ≠ 9 → g_i τ1 a k = g_i s4 a k := fun a k h => by rw [h1]; exact s_i_ne (fun z => by omega)
  have hw : ∀ a k, a < 67 ∨ (76 < a ∧ a < 126) → ((wCp b a k || (a == b && k == 9)) || wKp i a k) = false := fun a k h => by simp [wCp, wKp]; omega
  have hw1 : ∀ a k, a < 67 ∨ (76 < a ∧ a < 130) → (wCp b a k || (a == b && k == 9)) = false := fun a k h => by simp [wCp]; omega
  have hkb : ∀ a k, a < 126 → g_i τ a k = g_i τ1 a k := fun a k h => hut a k (by simp [wKp]; omega)
  refine ⟨τ, ht, n, m, RSite.cg hu (okS_ux (fun a k h => hw a k (by omega)) (fun k => hw 106 k (by omega)) (fun k _ => hw 101 k (by omega))) (fun l _ => ⟨hw 102 _ (by omega), hw 102 _ (by omega), hw 102 _ (by omega)⟩) hSi, RNow.cg hu ⟨fun k => hw 58 k (by omega), fun k => hw 59 k (by omega), fun k => hw 60 k (by omega), fun k => hw 61 k (by omega), fun k => hw 103 k (by omega), fun k => hw 104 k (by omega), fun k => hw 105 k (by omega), hw 57 5 (by omega), hw 57 6 (by omega), hw 57 7 (by omega), hw 57 8 (by omega), hw 101 14 (by omega), hw 101 15 (by omega), hw 101 16 (by omega), hw 101 17 (by omega)⟩ (fun l _ => hw 102 _ (by omega)) hN, ?_⟩
  have himg : RImg n b i τ := by
    have e5 : ∀ l, l < 10 → g_i τ (b + 1) l = g_i σ 58 l ∧ g_i τ (b + 2) l = g_i σ 59 l ∧ g_i τ (b + 3) l = g_i σ 60 l ∧ g_i τ (b + 4) l = g_i σ 61 l := fun l hl => by
      rw [hkb _ l (by omega), hkb _ l (by omega), hkb _ l (by omega), hkb _ l (by omega), t1 _ l (by omega), t1 _ l (by omega), t1 _ l (by omega), t1 _ l (by omega)]
      exact c1 l hl
    have f5 : g_i τ b 5 = g_i σ 57 5 := by rw [hkb _ _ (by omega), t1 _ _ (by omega)]; exact c5
    have f6 : g_i τ b 6 = g_i σ 57 6 := by rw [hkb _ _ (by omega), t1 _ _ (by omega)]; exact c6
    have f7 : g_i τ b 7 = g_i σ 57 7 := by rw [hkb _ _ (by omega), t1 _ _ (by omega)]; exact c7
    have f8 : g_i τ b 8 = g_i σ 57 8 := by rw [hkb _ _ (by omega), t1 _ _ (by omega)]; exact c8
    have f9 : g_i τ b 9 = 1 := by rw [hkb _ _ (by omega), h1]; exact s_i_eq _ _ _ _
    have hn := hSi.1.1
    obtain ⟨⟨m1, m2, m3, m4, m5⟩, n0, n1, n2, n3, n4, n5⟩ := hN
    refine Or.inr ⟨f9, g127, ⟨fun l hl => ?_, fun l hl => ?_, ?_, ?_, ?_⟩, fun l hl => ?_, fun l hl => ?_, ?_, ?_, ?_, ?_⟩
    · rw [(e5 l (by omega)).1]; exact m1 l hl
    · rw [(e5 l hl).2.1, (e5 l hl).2.2.1]; exact m2 l hl
    · rw [f6]; exact m3
    · rw [f7]; exact m4
    · rw [f8]; exact m5
    · rw [(e5 l (by omega)).1, (hvt l (by omega)).1, hu1 102 _ (hw1 102 _ (by omega))]; exact n0 l hl
    · rw [(e5 l hl).2.1, (e5 l hl).2.2.1, (e5 l hl).2.2.2, (hvt l hl).2.1, (hvt l hl).2.2.1, (hvt l hl).2.2.2, hu1 103 l (hw1 103 l (by omega)), hu1 104 l (hw1 104 l (by omega)), hu1 105 l (hw1 105 l (by omega))]
      exact n1 l hl
    · rw [f5, g40, hu1 101 14 (hw1 101 14 (by omega))]; exact n2
    · rw [f6, g41, hu1 101 15 (hw1 101 15 (by omega))]; exact n3
    · rw [f7, g42, hu1 101 16 (hw1 101 16 (by omega))]; exact n4
    · rw [f8, g43, hu1 101 17 (hw1 101 17 (by omega))]; exact n5
  have hother : ∀ b' j, j < 2 → b' = 67 + 5 * j → RImg n b' j σ → RImg n b' j τ := by
    intro b' j hj hb' hI
    by_cases hij : j = i
    · have : b' = b := by omega
      subst this; subst hij; exact himg
    · refine RImg.cg2 hu ⟨fun k => ?_, fun k => ?_, fun k => ?_, fun k => ?_, fun k => ?_⟩ (fun k hk => ?_) ?_ hSi.1.1 hI
      all_goals (simp [wCp, wKp]; omega)
  refine ⟨RSongs.cg hu ⟨fun k => hw 49 k (by omega), fun k => hw 50 k (by omega), fun k => hw 51 k (by omega), fun k => hw 52 k (by omega), fun k => hw 53 k (by omega), fun k => hw 54 k (by omega), fun k => hw 107 k (by omega), hw 101 10 (by omega)⟩ hSo, RDays.cg hu ⟨fun k => hw 55 k (by omega), fun k => hw 56 k (by omega), fun k => hw 108 k (by omega), hw 101 12 (by omega)⟩ hD, RSig.cg hu ⟨fun k => hw 77 k (by omega), fun k => hw 78 k (by omega), fun k => hw 116 k (by omega), hw 101 38 (by omega)⟩ hSg, RLog.cg hu ⟨fun k => hw 79 k (by omega), fun k => hw 80 k (by omega), fun k => hw 124 k (by omega), hw 101 47 (by omega)⟩ hL, hother 67 0 (by omega) (by omega) hI0, hother 72 1 (by omega) (by omega) hI1, RText.cg hu ⟨fun k => hw 1 k (by omega), fun k => hw 2 k (by omega), fun k => hw 109 k (by omega), hw 101 19 (by omega)⟩ hT, RFault.cg hu ⟨hw 30 5 (by omega), hw 101 20 (by omega)⟩ hF, RTour.cg hu ⟨fun k => hw 91 k (by omega), fun k => hw 96 k (by omega), fun k => hw 97 k (by omega), fun k => hw 33 k (by omega), fun k => hw 37 k (by omega), fun k => hw 39 k (by omega), fun k => hw 58 k (by omega), hw 31 10 (by omega), hw 57 6 (by omega)⟩ hTo⟩
theorem st_keep (a : Int32) : sII Rel (fun σ => f_X10_keep nmX a σ) (fun σ => f_X11_keep nmM a σ) := by
  rintro σ ⟨n, m, hSi, hN, hSo, hD, hSg, hL, hI0, hI1, hT, hF, hTo⟩
  by_cases h0 : a = 0
  · subst h0
    obtain ⟨s4, ht, hu4, hv4⟩ := copy_c (nm := jn nmX [67, 31, 32, 33, 34, 35, 36, 37, 38, 39, 40, 41, 42, 43, 44, 45, 46, 47, 68, 69, 70, 71, 57, 31, 32, 33, 34, 35, 36, 37, 38, 39, 40, 41, 42, 43, 44, 45, 46, 47, 58, 59, 60, 61]) (b := 67) (e := 57) (by omega) rfl rfl rfl rfl rfl rfl rfl rfl rfl rfl σ
    obtain ⟨τ, hm, hR⟩ := keep_one (i := 0) (b := 67) (by omega) rfl hSi hN hSo hD hSg hL hI0 hI1 hT hF hTo hu4 hv4 (τ1 := s_i s4 67 9 1) rfl
    refine ⟨1, s_i s4 67 9 1, τ, ?_, hm, hR⟩
    show f_X10_keep nmX 0 σ = _
    unfold f_X10_keep f_X10_imageOf
    rw [if_pos rfl, bnd, if_pos rfl, ht]
    rfl
  · by_cases h1 : a = 1
    · subst h1
      obtain ⟨s4, ht, hu4, hv4⟩ := copy_c (nm := jn nmX [72, 31, 32, 33, 34, 35, 36, 37, 38, 39, 40, 41, 42, 43, 44, 45, 46, 47, 73, 74, 75, 76, 57, 31, 32, 33, 34, 35, 36, 37, 38, 39, 40, 41, 42, 43, 44, 45, 46, 47, 58, 59, 60, 61]) (b := 72) (e := 57) (by omega) rfl rfl rfl rfl rfl rfl rfl rfl rfl rfl σ
      obtain ⟨τ, hm, hR⟩ := keep_one (i := 1) (b := 72) (by omega) rfl hSi hN hSo hD hSg hL hI0 hI1 hT hF hTo hu4 hv4 (τ1 := s_i s4 72 9 1) rfl
      refine ⟨1, s_i s4 72 9 1, τ, ?_, hm, hR⟩
      show f_X10_keep nmX 1 σ = _
      unfold f_X10_keep f_X10_imageOf
      rw [if_neg (by decide), if_pos rfl, bnd, if_neg (by decide), if_pos rfl, ht]
      rfl
    · refine ⟨-1001, σ, σ, ?_, ?_, n, m, hSi, hN, hSo, hD, hSg, hL, hI0, hI1, hT, hF, hTo⟩
      · show f_X10_keep nmX a σ = _
        unfold f_X10_keep f_X10_imageOf
        rw [if_neg h0, if_neg h1, bnd, if_neg (by decide), if_neg (by decide), if_pos rfl]
      · show f_X11_keep nmM a σ = _
        unfold f_X11_keep
        rw [in_no, bnd, if_pos rfl]
        rw [ti64]
        show ¬ ((0 : Int) ≤ a.toInt ∧ a.toInt ≤ 1)
        intro hh
        obtain ⟨j, hj, e⟩ := rg_nI (x := a) (hi := 1) hh
        have : j = 0 ∨ j = 1 := by omega
        rcases this with rfl | rfl
        · exact h0 e
        · exact h1 e
