/-! the notes and the frost, as both have them -/
def RNt (n : Nat) (σ : jS) : Prop := (∀ l, l < n → rg (g_i σ 58 l) 0 63 ∧ g_i σ 102 (4 * l + 1) = g_i σ 58 l) ∧ rg (g_i σ 57 6) 0 9 ∧ g_i σ 101 15 = g_i σ 57 6
theorem RNow.nt {n : Nat} {σ : jS} (h : RNow n σ) : RNt n σ := ⟨fun l hl => ⟨h.1.1 l hl, h.2.1 l hl⟩, h.1.2.2.1, h.2.2.2.2.1⟩
theorem RNt.cg {W : Nat → Nat → Bool} {σ τ : jS} {n : Nat} (hu : ux W σ τ) (h1 : ∀ k, W 58 k = false) (h2 : ∀ k, W 102 k = false) (h3 : W 57 6 = false) (h4 : W 101 15 = false) (h : RNt n σ) : RNt n τ := by
  refine ⟨fun l hl => ?_, ?_, ?_⟩
  · rw [hu 58 l (h1 l), hu 102 _ (h2 _)]; exact h.1 l hl
  · rw [hu 57 6 h3]; exact h.2.1
  · rw [hu 101 15 h4, hu 57 6 h3]; exact h.2.2
theorem mokT {n m : Nat} {σ : jS} (hS : RSite n m σ) (hN : RNt n σ) : ∀ l, l < n → rg (g_i σ 102 (4 * l)) 0 49 ∧ rg (g_i σ 102 (4 * l + 1)) 0 63 ∧ rg (g_i σ 102 (4 * l + 2)) 0 9 ∧ rg (g_i σ 102 (4 * l + 3)) 0 5 := by
  intro l hl
  obtain ⟨q1, q2, q3⟩ := hS.2.2.2.2.2.2.1 l hl
  rw [q1.2, q2.2, q3.2, (hN.1 l hl).2]
  exact ⟨q1.1, (hN.1 l hl).1, q2.1, q3.1⟩
theorem hdmT {n m : Nat} {σ : jS} (hS : RSite n m σ) (hN : RNt n σ) {l : Nat} (hl : l < n) (cold p nt lo : Int) (hc : cold = (g_i σ 57 6).toInt) : hdm σ cold p nt lo l = hd σ 57 p nt lo l := by
  obtain ⟨q1, q2, q3⟩ := hS.2.2.2.2.2.2.1 l hl
  rw [hd_eq _ rfl q2.1.1]
  unfold hdm hdg
  rw [q1.2, q2.2, q3.2, (hN.1 l hl).2, hc]
theorem mwakesT {n m : Nat} {σ : jS} {p nt lo cold : Int32} (hS : RSite n m σ) (hN : RNt n σ) (hc : cold = g_i σ 57 6) (hp : rg p 0 49) (hnt : rg nt 0 63) (hlo : rg lo 1 50) : f_X11_wakesBy nmM p nt lo cold σ = some (nI (bs (hd σ 57 p.toInt nt.toInt lo.toInt) n)) := by
  subst hc
  rw [wakesBy_eq hS.1.1 hS.2.1.2.2.2.2 (mokT hS hN) hN.2.1 hp hnt hlo]
  rw [bs_cong (fun l hl => hdmT hS hN hl _ _ _ _ rfl)]
theorem soundT {n m : Nat} {p nt lo who : Int32} {σ : jS} (hS : RSite n m σ) (hN : RNt n σ) (hp : rg p 0 49) (hnt : rg nt 0 63) (hlo : rg lo 1 50) : wp (f_X11_sound nmM p nt lo who σ) (fun x => x.1 = nI (bs (hd σ 57 p.toInt nt.toInt lo.toInt) n) ∧ ux wSo σ x.2 ∧ ∀ l, l < 10 → g_i x.2 103 l = (if (bs (hd σ 57 p.toInt nt.toInt lo.toInt) n).testBit l then g_i σ 101 5 else g_i σ 103 l) ∧ g_i x.2 105 l = (if (bs (hd σ 57 p.toInt nt.toInt lo.toInt) n).testBit l then who else g_i σ 105 l)) := by
  unfold f_X11_sound
  have e : g_i σ (nmM 0) 15 = g_i σ 57 6 := hN.2.2
  refine wp_bindE (mwakesT hS hN e hp hnt hlo) ?_
  refine wp_bind (wp_mono (sound_lp hS.1.1 hS.2.1.2.2.2.2 (bs_lt _ n)) (fun τ h => wp_some ⟨rfl, h⟩))
theorem bs_hi {f : Nat → Bool} {n l : Nat} (h : n ≤ l) : (bs f n).testBit l = false := Nat.testBit_lt_two_pow (Nat.lt_of_lt_of_le (bs_lt f n) (Nat.pow_le_pow_right (by decide) h))
theorem st_hum (p nt : Int32) : sII Rel (fun σ => f_X10_hum nmX p nt σ) (fun σ => f_X11_hum nmM p nt σ) := by
  rintro σ ⟨n, m, hSi, hN, hSo, hD, hSg, hL, hI0, hI1, hT, hF, hTo⟩
  obtain ⟨v, e1, e2, hv⟩ := spot_eq p nt
  rcases hv with ⟨rfl, hp, hnt⟩ | ⟨rfl, -⟩
  · have hlo := hSi.2.2.2.2.2.1
    obtain ⟨τ1, ht1, hu1, hv1⟩ := light_c (S := bs (hd σ 57 p.toInt nt.toInt (g_i σ 31 10).toInt) n) (by_ := -3) momX (by decide) σ
    have hSi1 : RSite n m τ1 := RSite.cg hu1 (by unfold ok_RSite; exact ⟨fun _ => rfl, fun _ => rfl, fun _ => rfl, fun _ => rfl, fun _ => rfl, fun _ => rfl, fun _ => rfl, fun _ => rfl, fun _ => rfl, fun _ => rfl, fun _ => rfl, fun _ => rfl, fun _ => rfl, fun _ => rfl, fun _ => rfl, fun _ => rfl, fun _ => rfl, rfl, rfl, rfl, rfl, rfl⟩) (fun l _ => ⟨rfl, rfl, rfl⟩) hSi
    have hNt1 : RNt n τ1 := RNt.cg hu1 (fun _ => rfl) (fun _ => rfl) rfl rfl hN.nt
    have e7 : g_i τ1 (nmM 0) 7 = g_i σ 31 10 := (hu1 101 7 rfl).trans hlo.2
    obtain ⟨⟨r, τ2⟩, ht2, hr, hu2, hv2⟩ := soundT (p := p) (nt := nt) (lo := g_i σ 31 10) (who := -3) hSi1 hNt1 hp hnt hlo.1
    have hS1 : bs (hd τ1 57 p.toInt nt.toInt (g_i σ 31 10).toInt) n = bs (hd σ 57 p.toInt nt.toInt (g_i σ 31 10).toInt) n := bs_cong (fun l _ => hd_cg (hu1 58 l rfl) (hu1 39 l rfl) (hu1 57 6 rfl) (hu1 37 l rfl) (hu1 33 l rfl))
    rw [hS1] at hr hv2
    have hr : r = _ := hr
    subst hr
    have hu2 : ux wSo τ1 τ2 := hu2
    have hu := ux_trans hu1 hu2
    generalize hSS : bs (hd σ 57 p.toInt nt.toInt (g_i σ 31 10).toInt) n = S at *
    have hSb : ∀ l, n ≤ l → S.testBit l = false := fun l hl => by rw [← hSS]; exact bs_hi hl
    refine ⟨nI S, τ1, τ2, ?_, ?_, n, m, ?_, ?_, ?_, ?_, ?_, ?_, ?_, ?_, ?_, ?_, ?_⟩
    · show f_X10_hum nmX p nt σ = _
      unfold f_X10_hum
      have hw : f_X2_woken (jn nmX [57, 31, 32, 33, 34, 35, 36, 37, 38, 39, 40, 41, 42, 43, 44, 45, 46, 47, 58, 59, 60, 61]) p nt (g_i σ (nmX 31) 10) σ = some (nI S) := by
        rw [← hSS]; exact woken_eq momX (sok hSi hN.1) hp hnt hlo.1
      rw [e1, bnd, if_neg i10, hw, bnd, ht1]
      rfl
    · show f_X11_hum nmM p nt τ1 = _
      unfold f_X11_hum
      rw [e2, bnd, if_neg i10, e7, ht2]
      rfl
    · exact RSite.cg hu (by unfold ok_RSite; exact ⟨fun _ => rfl, fun _ => rfl, fun _ => rfl, fun _ => rfl, fun _ => rfl, fun _ => rfl, fun _ => rfl, fun _ => rfl, fun _ => rfl, fun _ => rfl, fun _ => rfl, fun _ => rfl, fun _ => rfl, fun _ => rfl, fun _ => rfl, fun _ => rfl, fun _ => rfl, rfl, rfl, rfl, rfl, rfl⟩) (fun l _ => ⟨rfl, rfl, rfl⟩) hSi
    · obtain ⟨⟨m1, m2, m3, m4, m5⟩, n0, n1, n2, n3, n4, n5⟩ := hN
      have el : ∀ l, l < 10 → g_i τ2 59 l = (if S.testBit l then g_i σ 31 8 else g_i σ 59 l) := fun l hl => (hu2 59 l rfl).trans (hv1 l hl).1
      have er : ∀ l, l < 10 → g_i τ2 61 l = (if S.testBit l then -3 else g_i σ 61 l) := fun l hl => (hu2 61 l rfl).trans (hv1 l hl).2
      refine ⟨⟨fun l hl => ?_, fun l hl => ⟨?_, ?_, fun hnl => ?_⟩, ?_, ?_, ?_⟩, fun l hl => ?_, fun l hl => ⟨?_, ?_, ?_⟩, ?_, ?_, ?_, ?_⟩
      · show rg (g_i τ2 58 l) 0 63
        rw [hu 58 l rfl]; exact m1 l hl
      · show rg (g_i τ2 59 l) 0 99
        rw [el l hl]
        cases S.testBit l with
        | true =>
          have hb := hSi.2.2.2.1.1
          rw [if_pos rfl]; exact ⟨by have := hb.1; omega, hb.2⟩
        | false => rw [if_neg (by decide)]; exact (m2 l hl).1
      · show rg (g_i τ2 60 l) 0 99
        rw [hu 60 l rfl]; exact (m2 l hl).2.1
      · show g_i τ2 59 l = 0
        rw [el l hl, hSb l hnl, if_neg (by decide)]
        exact (m2 l hl).2.2 hnl
      · rw [hu 57 6 rfl]; exact m3
      · rw [hu 57 7 rfl]; exact m4
      · rw [hu 57 8 rfl]; exact m5
      · rw [hu 102 _ rfl, hu 58 l rfl]; exact n0 l hl
      · rw [(hv2 l hl).1, el l hl, hu1 101 5 rfl, hu1 103 l rfl, hSi.2.2.2.1.2, (n1 l hl).1]
      · rw [hu 104 l rfl, hu 60 l rfl]; exact (n1 l hl).2.1
      · intro hln
        rw [(hv2 l hl).2, er l hl, hu1 105 l rfl, (n1 l hl).2.2 hln]
      · rw [hu 101 14 rfl, hu 57 5 rfl]; exact n2
      · rw [hu 101 15 rfl, hu 57 6 rfl]; exact n3
      · rw [hu 101 16 rfl, hu 57 7 rfl]; exact n4
      · rw [hu 101 17 rfl, hu 57 8 rfl]; exact n5
    · exact RSongs.cg hu ⟨fun _ => rfl, fun _ => rfl, fun _ => rfl, fun _ => rfl, fun _ => rfl, fun _ => rfl, fun _ => rfl, rfl⟩ hSo
    · exact RDays.cg hu ⟨fun _ => rfl, fun _ => rfl, fun _ => rfl, rfl⟩ hD
    · exact RSig.cg hu ⟨fun _ => rfl, fun _ => rfl, fun _ => rfl, rfl⟩ hSg
    · exact RLog.cg hu ⟨fun _ => rfl, fun _ => rfl, fun _ => rfl, rfl⟩ hL
    · exact RImg.cg hu ⟨fun _ => rfl, fun _ => rfl, fun _ => rfl, fun _ => rfl, fun _ => rfl, fun _ => rfl, fun _ => rfl⟩ hI0
    · exact RImg.cg hu ⟨fun _ => rfl, fun _ => rfl, fun _ => rfl, fun _ => rfl, fun _ => rfl, fun _ => rfl, fun _ => rfl⟩ hI1
    · exact RText.cg hu ⟨fun _ => rfl, fun _ => rfl, fun _ => rfl, rfl⟩ hT
    · exact RFault.cg hu ⟨rfl, rfl⟩ hF
    · exact RTour.cg hu ⟨fun _ => rfl, fun _ => rfl, fun _ => rfl, fun _ => rfl, fun _ => rfl, fun _ => rfl, fun _ => rfl, rfl, rfl⟩ hTo
  · refine ⟨-1002, σ, σ, ?_, ?_, n, m, hSi, hN, hSo, hD, hSg, hL, hI0, hI1, hT, hF, hTo⟩
    · show f_X10_hum nmX p nt σ = _
      unfold f_X10_hum
      rw [e1, bnd, if_pos rfl]
    · show f_X11_hum nmM p nt σ = _
      unfold f_X11_hum
      rw [e2, bnd, if_pos rfl]
