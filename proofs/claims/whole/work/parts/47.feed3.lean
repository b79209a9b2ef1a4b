theorem st_feed (a : Int32) (v : Int64) : sII Rel (fun σ => f_X10_feed nmX a v σ) (fun σ => f_X11_feed nmM a v σ) := by
  rintro σ ⟨n, m, hSi, hN, hSo, hD, hSg, hL, hI0, hI1, hT, hF, hTo⟩
  have tl8 : (8 : Int32).toInt = 8 := by decide
  have l1 : (1 : Int32).toInt = 1 := by decide
  by_cases ha : rg a 1 8
  · obtain ⟨k, hk8, rfl⟩ := rg_nI (x := a) (hi := 8) ⟨by have := ha.1; omega, ha.2⟩
    have hk1 : 1 ≤ k := by have := ha.1; rw [nI_ti (by omega)] at this; omega
    obtain ⟨c, hc, ⟨c1, c2⟩, ct⟩ := hT
    have nlt : ¬ nI k < 1 := fun h => by
      have h : nI k < nI 1 := h
      rw [Int32.lt_iff_toInt_lt, nI_ti (by omega), nI_ti (by omega)] at h; omega
    have le8 : nI k ≤ 8 := by
      show nI k ≤ nI 8
      rw [nI_le' (by omega) (by omega)]; omega
    have esub : nI k - 1 = nI k + (-1) := Int32.sub_eq_add_neg ..
    have esz : f_X4_size (jn nmX [1, 2]) 400 σ = some (nI c) := congrArg some c1
    by_cases h400 : c + k ≤ 400
    · have le400 : nI c + nI k ≤ 400 := by
        rw [nI_add]
        show nI (c + k) ≤ nI 400
        rw [nI_le' (by omega) (by omega)]; omega
      obtain ⟨τ1, ht1, hu1, x1, x2⟩ := xfeed (v := v) h400 c1
      obtain ⟨τ2, ht2, hu2, y1, y2⟩ := mfeed (v := v) (σ := τ1) hk8 h400 ((hu1 101 19 rfl).trans c2)
      have hu := ux_trans hu1 hu2
      have hw : ∀ a k, 2 < a → a < 101 → (wFx c a k || wFm c a k) = false := fun a k h1 h2 => by simp [wFx, wFm]; omega
      have hw2 : ∀ a k, 101 < a → a ≠ 109 → (wFx c a k || wFm c a k) = false := fun a k h1 h2 => by simp [wFx, wFm]; omega
      have hw3 : ∀ k, k ≠ 19 → (wFx c 101 k || wFm c 101 k) = false := fun k h => by simp [wFx, wFm]; omega
      refine ⟨nI (c + k), τ1, τ2, ?_, ?_, n, m, ?_, ?_, ?_, ?_, ?_, ?_, ?_, ?_, ?_, ?_, ?_⟩
      · show f_X10_feed nmX (nI k) v σ = _
        unfold f_X10_feed
        rw [if_neg nlt, if_pos le8, esz, bnd, if_pos le400, bdx, esub, ht1, bnd]
        show (some (g_i τ1 1 1)).bind _ = _
        rw [x1]; rfl
      · show f_X11_feed nmM (nI k) v τ1 = _
        unfold f_X11_feed
        have e19 : g_i τ1 (nmM 0) 19 = nI c := (hu1 101 19 rfl).trans c2
        rw [in_yes (by rw [ti64, nI_ti (by omega)]; show (1 : Int) ≤ k; omega) (by rw [ti64, nI_ti (by omega)]; show (k : Int) ≤ 8; omega), bnd, if_neg i10, e19, if_pos le400, bdx, esub, ht2, bnd]
        show some (g_i τ2 101 19, τ2) = _
        rw [y1]
      · exact ⟨hSi.1, hSi.2⟩ |> fun h => RSite.cg hu ⟨fun k => hw 31 k (by omega) (by omega), fun k => hw 32 k (by omega) (by omega), fun k => hw 33 k (by omega) (by omega), fun k => hw 34 k (by omega) (by omega), fun k => hw 36 k (by omega) (by omega), fun k => hw 37 k (by omega) (by omega), fun k => hw 38 k (by omega) (by omega), fun k => hw 39 k (by omega) (by omega), fun k => hw 40 k (by omega) (by omega), fun k => hw 41 k (by omega) (by omega), fun k => hw 42 k (by omega) (by omega), fun k => hw 43 k (by omega) (by omega), fun k => hw 44 k (by omega) (by omega), fun k => hw 45 k (by omega) (by omega), fun k => hw 46 k (by omega) (by omega), fun k => hw 47 k (by omega) (by omega), fun k => hw2 106 k (by omega) (by omega), hw3 0 (by omega), hw3 5 (by omega), hw3 6 (by omega), hw3 7 (by omega), hw3 8 (by omega)⟩ (fun l _ => ⟨rfl, rfl, rfl⟩) h
      · exact RNow.cg hu ⟨fun _ => rfl, fun _ => rfl, fun _ => rfl, fun _ => rfl, fun _ => rfl, fun _ => rfl, fun _ => rfl, rfl, rfl, rfl, rfl, rfl, rfl, rfl, rfl⟩ (fun _ _ => rfl) hN
      · exact RSongs.cg hu ⟨fun _ => rfl, fun _ => rfl, fun _ => rfl, fun _ => rfl, fun _ => rfl, fun _ => rfl, fun _ => rfl, rfl⟩ hSo
      · exact RDays.cg hu ⟨fun _ => rfl, fun _ => rfl, fun _ => rfl, rfl⟩ hD
      · exact RSig.cg hu ⟨fun _ => rfl, fun _ => rfl, fun _ => rfl, rfl⟩ hSg
      · exact RLog.cg hu ⟨fun _ => rfl, fun _ => rfl, fun _ => rfl, rfl⟩ hL
      · exact RImg.cg hu ⟨fun _ => rfl, fun _ => rfl, fun _ => rfl, fun _ => rfl, fun _ => rfl, fun _ => rfl, fun _ => rfl⟩ hI0
      · exact RImg.cg hu ⟨fun _ => rfl, fun _ => rfl, fun _ => rfl, fun _ => rfl, fun _ => rfl, fun _ => rfl, fun _ => rfl⟩ hI1
      · refine ⟨c + k, h400, ⟨(hu2 1 1 rfl).trans x1, y1⟩, fun i hi => ?_⟩
        have e2 : g_i τ2 2 i = g_i τ1 2 i := hu2 2 i rfl
        rw [e2]
        by_cases hic : i < c
        · have q1 : g_i τ1 2 i = g_i σ 2 i := hu1 2 i (by simp [wFx]; omega)
          have q2 : g_i τ2 109 i = g_i σ 109 i := (hu2 109 i (by simp [wFm]; omega)).trans (hu1 109 i rfl)
          rw [q1, q2]; exact ct i hic
        · have q1 := x2 (i - c) (by omega)
          have q2 := y2 (i - c) (by omega)
          rw [show c + (i - c) = i by omega] at q1 q2
          rw [q1, q2]; exact ⟨bf_rg _ _, rfl⟩
      · exact RFault.cg hu ⟨rfl, rfl⟩ hF
      · exact RTour.cg hu ⟨fun _ => rfl, fun _ => rfl, fun _ => rfl, fun _ => rfl, fun _ => rfl, fun _ => rfl, fun _ => rfl, rfl, rfl⟩ hTo
    · have nle : ¬ nI c + nI k ≤ 400 := fun h => by
        rw [nI_add] at h
        have h : nI (c + k) ≤ nI 400 := h
        rw [nI_le' (by omega) (by omega)] at h; omega
      refine ⟨-1004, σ, σ, ?_, ?_, n, m, hSi, hN, hSo, hD, hSg, hL, hI0, hI1, ⟨c, hc, ⟨c1, c2⟩, ct⟩, hF, hTo⟩
      · show f_X10_feed nmX (nI k) v σ = _
        unfold f_X10_feed
        rw [if_neg nlt, if_pos le8, esz, bnd, if_neg nle]
      · show f_X11_feed nmM (nI k) v σ = _
        unfold f_X11_feed
        have e19 : g_i σ (nmM 0) 19 = nI c := c2
        rw [in_yes (by rw [ti64, nI_ti (by omega)]; show (1 : Int) ≤ k; omega) (by rw [ti64, nI_ti (by omega)]; show (k : Int) ≤ 8; omega), bnd, if_neg i10, e19, if_neg nle]
  · refine ⟨-1002, σ, σ, ?_, ?_, n, m, hSi, hN, hSo, hD, hSg, hL, hI0, hI1, hT, hF, hTo⟩
    · show f_X10_feed nmX a v σ = _
      unfold f_X10_feed
      by_cases h1 : a < 1
      · rw [if_pos h1]
      · rw [if_neg h1, if_neg]
        intro h8
        rw [Int32.lt_iff_toInt_lt, l1] at h1
        rw [Int32.le_iff_toInt_le, tl8] at h8
        exact ha ⟨by omega, h8⟩
    · show f_X11_feed nmM a v σ = _
      unfold f_X11_feed
      rw [in_no, bnd, if_pos rfl]
      rw [ti64]
      show ¬ ((1 : Int) ≤ a.toInt ∧ a.toInt ≤ 8)
      exact ha
