/-! night: the call -/
def wz_p (a k : Nat) : Bool := wDM a k || decide (a = 101 ∧ k = 19)
def wz_q (a k : Nat) : Bool := wz_p a k || decide ((a = 101 ∧ k = 10) ∨ a = 107)
theorem mcopy90 {σ : jS} : ∃ τ, lp (f_X11_night_L60 nmM) fu (0, σ) = some τ ∧ ux (fun a _ => decide (a = 107)) σ τ ∧ ∀ k, k < 90 → g_i τ 107 k = g_i σ 113 k := by
  suffices wp (lp (f_X11_night_L60 nmM) fu (0, σ)) (fun τ => ux (fun a _ => decide (a = 107)) σ τ ∧ ∀ k, k < 90 → g_i τ 107 k = g_i σ 113 k) by
    obtain ⟨τ, e, h⟩ := this
    exact ⟨τ, e, h⟩
  refine wp_up 90 (fun i x => x.1 = nI i ∧ ux (fun a _ => decide (a = 107)) σ x.2 ∧ ∀ k, k < i → g_i x.2 107 k = g_i σ 113 k) (i := 0) (by omega) (by omega) ⟨rfl, ux_refl _ _, fun k hk => absurd hk (Nat.not_lt_zero k)⟩ ?_
  rintro i ⟨v, τ⟩ hi ⟨hv, hu, hk⟩
  have hv : v = nI i := hv
  have hu : ux (fun a _ => decide (a = 107)) σ τ := hu
  subst hv
  unfold f_X11_night_L60
  show wp (if nI 90 ≤ nI i then some (Sum.inr τ) else _) _
  refine wp_ite (fun hc => ?_) (fun hc => ?_)
  · rw [nI_le' (by omega) (by omega)] at hc
    exact wp_some ⟨hu, fun k h => hk k (by omega)⟩
  · rw [nI_le' (by omega) (by omega)] at hc
    refine wp_gd (nI_in' (by omega) (by omega)) (wp_gd (nI_in' (by omega) (by omega)) ?_)
    rw [nI_cl (by omega)]
    refine wp_bd (fun s hs => wp_some ⟨by omega, nI_1 i, ?_, fun k h => ?_⟩)
    · rw [hs]; exact ux_s hu rfl
    · show g_i s 107 k = _
      rw [hs]
      show g_i (s_i τ 107 i (g_i τ 113 i)) 107 k = _
      by_cases hki : k = i
      · rw [hki, s_i_eq]; exact hu 113 i rfl
      · rw [s_i_k hki]; exact hk k (by omega)
theorem mnight {F : Nat → Int32} {c m : Nat} {lo hi : Nat → Int32} {σ : jS} (hC : MC F c σ) (hS : SM m lo hi σ) (hF : ∀ k, k < c → ¬ F k < 0) : ∃ r τ, f_X11_night nmM σ = some (r, τ) ∧ g_i τ 101 19 = 0 ∧ (∀ s, runP (songP F c m lo hi) F c c s0R 0 = .ok s → ux wz_q σ τ ∧ r = nI s.1 ∧ g_i τ 101 20 = -1 ∧ g_i τ 101 10 = nI s.1 ∧ ∀ k, k < 3 * s.1 → g_i τ 107 k = s.2 k) ∧ (∀ e, runP (songP F c m lo hi) F c c s0R 0 = .error e → ux wz_p σ τ ∧ r = -10 - nI e.1 ∧ g_i τ 101 20 = nI e.2) := by
  have hc := hC.1
  unfold f_X11_night
  show ∃ r τ, (lp (f_X11_night_L17 nmM) fu (0, s_i (s_i (s_i σ 101 20 (-1)) 101 21 0) 101 32 0)).bind _ = some (r, τ) ∧ _
  generalize hσ1 : s_i (s_i (s_i σ 101 20 (-1)) 101 21 0) 101 32 0 = σ1
  have u1 : ux wDM σ σ1 := by rw [← hσ1]; exact ux_s (ux_s (ux_s (ux_refl _ _) rfl) rfl) rfl
  have c1 : MC F c σ1 := hC.cg u1 rfl (fun _ => rfl)
  have a21 : g_i σ1 101 21 = nI 0 := by rw [← hσ1]; exact (s_i_k (by decide)).trans (s_i_eq _ _ _ _)
  have a20 : g_i σ1 101 20 = -1 := by rw [← hσ1]; exact (s_i_k (by decide)).trans ((s_i_k (by decide)).trans (s_i_eq _ _ _ _))
  have d1 : DNM m lo hi s0R σ1 := by
    refine ⟨⟨by decide, hS.cg u1 rfl (fun _ => rfl)⟩, ?_, fun k hk => absurd hk (Nat.not_lt_zero k)⟩
    rw [← hσ1]; exact s_i_eq _ _ _ _
  have hf : ∀ v σ, f_X11_night_L17 nmM (v, σ) = if v = 0 then (f_X11_here nmM σ).bind (fun x => if x.1 < 0 then some (.inr (v, x.2)) else (f_X11_takeSong nmM x.2).bind (fun y => some (.inl (y.1, y.2)))) else some (.inr (v, σ)) := fun v σ => rfl
  obtain ⟨⟨f, τ1⟩, e1, u2, x1⟩ := mloop (F := F) (c := c) (cl := songP F c m lo hi) (D := DNM m lo hi) (W := wDM) hf (fun a k e => by unfold wDM; rw [e]; rfl) rfl (fun _ => rfl) hF (fun s σ τ u d => ⟨⟨d.1.1, d.1.2.cg u rfl (fun _ => rfl)⟩, (u 101 32 rfl).trans d.2.1, fun k hk => by rw [u 113 k rfl]; exact d.2.2 k hk⟩) (songP_cl hS.1) (fun s p σ hC hp hs h21 hD => msong hC hp hs h21 hD) c1 a21 d1
  rw [e1, bnd]
  have u2 : ux wDM σ1 τ1 := u2
  show ∃ r τ, f_X11_night_J36 nmM f τ1 = some (r, τ) ∧ _
  unfold f_X11_night_J36
  show ∃ r τ, (if f ≤ 0 then bd (s_i (s_i τ1 101 19 0) 101 10 (g_i (s_i τ1 101 19 0) 101 32)) _ else some (-10 - f, s_i τ1 101 19 0)) = some (r, τ) ∧ _
  generalize hτ2 : s_i τ1 101 19 0 = τ2
  have u3 : ux wz_p σ τ2 := by
    rw [← hτ2]
    refine ux_s (ux_w (ux_tr u1 u2) (fun a k hk => (Bool.or_eq_false_iff.mp hk).1)) rfl
  have q3 : ∀ k, k ≠ 19 → g_i τ2 101 k = g_i τ1 101 k := fun k hk => by rw [← hτ2]; exact s_i_k hk
  have q3' : ∀ k, g_i τ2 113 k = g_i τ1 113 k := fun k => by rw [← hτ2]; rfl
  have t19 : g_i τ2 101 19 = 0 := by rw [← hτ2]; exact s_i_eq _ _ _ _
  cases hr : runP (songP F c m lo hi) F c c s0R 0 with
  | ok s =>
    rw [hr] at x1
    obtain ⟨f0, ⟨z1, z2, z3⟩, z20⟩ := x1
    have f0 : f = 0 := f0
    rw [f0, if_pos (by decide), bdx, q3 32 (by decide)]
    rw [show g_i τ1 101 32 = nI s.1 from z2]
    generalize hτ3 : s_i τ2 101 10 (nI s.1) = τ3
    obtain ⟨τ4, e4, u4, y4⟩ := mcopy90 (σ := τ3)
    rw [e4, bnd]
    have k10 : g_i τ3 101 10 = nI s.1 := by rw [← hτ3]; exact s_i_eq _ _ _ _
    have q4 : ∀ k, k ≠ 10 → g_i τ3 101 k = g_i τ2 101 k := fun k hk => by rw [← hτ3]; exact s_i_k hk
    refine ⟨_, τ4, rfl, (u4 101 19 rfl).trans ((q4 19 (by decide)).trans t19), fun s' hs' => ?_, fun e he => by cases he⟩
    have hs' := Except.ok.inj hs'
    subst hs'
    refine ⟨?_, (u4 101 10 rfl).trans k10, (u4 101 20 rfl).trans ((q4 20 (by decide)).trans ((q3 20 (by decide)).trans (z20.trans a20))), (u4 101 10 rfl).trans k10, fun k hk => ?_⟩
    · refine ux_tr (τ := τ3) ?_ (ux_w u4 (fun a k hk => ?_))
      · rw [← hτ3]
        exact ux_s (ux_w u3 (fun a k hk => (Bool.or_eq_false_iff.mp hk).1)) rfl
      · have hk := of_decide_eq_false (Bool.or_eq_false_iff.mp hk).2
        exact decide_eq_false (fun h => hk (Or.inr h))
    · have : g_i τ3 113 k = g_i τ2 113 k := by rw [← hτ3]; rfl
      rw [y4 k (by have := z1.1; omega), this, q3' k]
      exact z3 k hk
  | error e =>
    rw [hr] at x1
    obtain ⟨f0, f1, f20⟩ := x1
    have f1 : f = nI e.1 := f1
    rw [f1, if_neg (nl14 f0)]
    refine ⟨_, τ2, rfl, t19, fun s h => (by cases h), fun e' he' => ?_⟩
    have he' := Except.error.inj he'
    subst he'
    exact ⟨u3, rfl, (q3 20 (by decide)).trans f20⟩
theorem st_night : sII Rel (fun σ => f_X10_night nmX σ) (fun σ => f_X11_night nmM σ) := by
  rintro σ ⟨n, m, hSi, hN, hSo, hD, hSg, hL, hI0, hI1, ⟨c, hc, ⟨c1, c2⟩, ct⟩, hF, hTo⟩
  have hC : XC (g_i σ 2) c σ := ⟨hc, c1, fun _ _ => rfl⟩
  have hSi' := hSi
  obtain ⟨⟨-, b0⟩, -, ⟨b1, b2, b3, b4, b5⟩, -, -, -, -, b6⟩ := hSi'
  have hSX : SX m (g_i σ 45) (g_i σ 47) σ := ⟨b0, b1, b3, b4, fun j hj => by
    obtain ⟨-, -, ⟨w1, -⟩, ⟨w2, -⟩⟩ := b6 j hj
    exact ⟨rfl, rfl, w1.1, w2.2⟩⟩
  have hSM : ∀ τ, g_i τ 101 8 = g_i σ 101 8 → (∀ k, g_i τ 106 k = g_i σ 106 k) → SM m (g_i σ 45) (g_i σ 47) τ := fun τ h1 h2 => ⟨b0, h1.trans b5, fun j hj => by
    obtain ⟨-, -, ⟨-, w1⟩, ⟨-, w2⟩⟩ := b6 j hj
    exact ⟨(h2 _).trans w1, (h2 _).trans w2⟩⟩
  obtain ⟨r, τ, e1, t1, ok1, er1⟩ := xnight hC hSX
  have hFn : ∀ k, k < c → ¬ g_i σ 2 k < 0 := fun k hk h => by
    have h := Int32.lt_iff_toInt_lt.mp h
    have h : (g_i σ 2 k).toInt < 0 := h
    have := (ct k hk).1.1
    omega
  cases hr : runP (songP (g_i σ 2) c m (g_i σ 45) (g_i σ 47)) (g_i σ 2) c c s0R 0 with
  | ok s =>
    obtain ⟨u1, r1, s30, f1, ⟨y1, y1b, y1c⟩, z1⟩ := ok1 s hr
    have u1' := u1
    have hM : MC (g_i σ 2) c τ := ⟨hc, (u1 101 19 rfl).trans c2, fun k hk => (u1 109 k rfl).trans (ct k hk).2⟩
    obtain ⟨r', υ, e2, t2, ok2, er2⟩ := mnight hM (hSM τ (u1 101 8 rfl) (fun k => u1 106 k rfl)) hFn
    obtain ⟨u2, r2, f2, y2, z2⟩ := ok2 s hr
    have u := ux_trans u1 u2
    refine ⟨r, τ, υ, e1, ?_, n, m, ?_, ?_, ?_, ?_, ?_, ?_, ?_, ?_, ?_, ?_, ?_⟩
    · rw [r1, ← r2]; exact e2
    · exact RSite.cg u ⟨fun _ => rfl, fun _ => rfl, fun _ => rfl, fun _ => rfl, fun _ => rfl, fun _ => rfl, fun _ => rfl, fun _ => rfl, fun _ => rfl, fun _ => rfl, fun _ => rfl, fun _ => rfl, fun _ => rfl, fun _ => rfl, fun _ => rfl, fun _ => rfl, fun _ => rfl, rfl, rfl, rfl, rfl, rfl⟩ (fun l _ => ⟨rfl, rfl, rfl⟩) hSi
    · exact RNow.cg u ⟨fun _ => rfl, fun _ => rfl, fun _ => rfl, fun _ => rfl, fun _ => rfl, fun _ => rfl, fun _ => rfl, rfl, rfl, rfl, rfl, rfl, rfl, rfl, rfl⟩ (fun _ _ => rfl) hN
    · refine ⟨s.1, s30, ⟨(u2 49 1 rfl).trans y1, (u2 51 1 rfl).trans y1b, (u2 53 1 rfl).trans y1c, y2⟩, fun k hk => ?_⟩
      obtain ⟨g1, ⟨g2, g3⟩, g4, g5⟩ := z1 k hk
      rw [show g_i υ 50 k = _ from (u2 50 k rfl).trans g1, show g_i υ 52 k = _ from (u2 52 k rfl).trans g2, show g_i υ 54 k = _ from (u2 54 k rfl).trans g4, z2 (3 * k) (by omega), z2 (3 * k + 1) (by omega), z2 (3 * k + 2) (by omega)]
      exact ⟨rfl, ⟨g3, rfl⟩, g5, rfl⟩
    · exact RDays.cg u ⟨fun _ => rfl, fun _ => rfl, fun _ => rfl, rfl⟩ hD
    · exact RSig.cg u ⟨fun _ => rfl, fun _ => rfl, fun _ => rfl, rfl⟩ hSg
    · exact RLog.cg u ⟨fun _ => rfl, fun _ => rfl, fun _ => rfl, rfl⟩ hL
    · exact RImg.cg u ⟨fun _ => rfl, fun _ => rfl, fun _ => rfl, fun _ => rfl, fun _ => rfl, fun _ => rfl, fun _ => rfl⟩ hI0
    · exact RImg.cg u ⟨fun _ => rfl, fun _ => rfl, fun _ => rfl, fun _ => rfl, fun _ => rfl, fun _ => rfl, fun _ => rfl⟩ hI1
    · exact ⟨0, by omega, ⟨(u2 1 1 rfl).trans t1, t2⟩, fun k hk => absurd hk (Nat.not_lt_zero k)⟩
    · exact f2.trans (f1.symm.trans (u2 30 5 rfl).symm)
    · exact RTour.cg u ⟨fun _ => rfl, fun _ => rfl, fun _ => rfl, fun _ => rfl, fun _ => rfl, fun _ => rfl, fun _ => rfl, rfl, rfl⟩ hTo
  | error e =>
    obtain ⟨u1, -, r1, f1⟩ := er1 e hr
    have hM : MC (g_i σ 2) c τ := ⟨hc, (u1 101 19 rfl).trans c2, fun k hk => (u1 109 k rfl).trans (ct k hk).2⟩
    obtain ⟨r', υ, e2, t2, ok2, er2⟩ := mnight hM (hSM τ (u1 101 8 rfl) (fun k => u1 106 k rfl)) hFn
    obtain ⟨u2, r2, f2⟩ := er2 e hr
    have u := ux_trans u1 u2
    refine ⟨r, τ, υ, e1, ?_, n, m, ?_, ?_, ?_, ?_, ?_, ?_, ?_, ?_, ?_, ?_, ?_⟩
    · rw [r1, ← r2]; exact e2
    · exact RSite.cg u ⟨fun _ => rfl, fun _ => rfl, fun _ => rfl, fun _ => rfl, fun _ => rfl, fun _ => rfl, fun _ => rfl, fun _ => rfl, fun _ => rfl, fun _ => rfl, fun _ => rfl, fun _ => rfl, fun _ => rfl, fun _ => rfl, fun _ => rfl, fun _ => rfl, fun _ => rfl, rfl, rfl, rfl, rfl, rfl⟩ (fun l _ => ⟨rfl, rfl, rfl⟩) hSi
    · exact RNow.cg u ⟨fun _ => rfl, fun _ => rfl, fun _ => rfl, fun _ => rfl, fun _ => rfl, fun _ => rfl, fun _ => rfl, rfl, rfl, rfl, rfl, rfl, rfl, rfl, rfl⟩ (fun _ _ => rfl) hN
    · exact RSongs.cg u ⟨fun _ => rfl, fun _ => rfl, fun _ => rfl, fun _ => rfl, fun _ => rfl, fun _ => rfl, fun _ => rfl, rfl⟩ hSo
    · exact RDays.cg u ⟨fun _ => rfl, fun _ => rfl, fun _ => rfl, rfl⟩ hD
    · exact RSig.cg u ⟨fun _ => rfl, fun _ => rfl, fun _ => rfl, rfl⟩ hSg
    · exact RLog.cg u ⟨fun _ => rfl, fun _ => rfl, fun _ => rfl, rfl⟩ hL
    · exact RImg.cg u ⟨fun _ => rfl, fun _ => rfl, fun _ => rfl, fun _ => rfl, fun _ => rfl, fun _ => rfl, fun _ => rfl⟩ hI0
    · exact RImg.cg u ⟨fun _ => rfl, fun _ => rfl, fun _ => rfl, fun _ => rfl, fun _ => rfl, fun _ => rfl, fun _ => rfl⟩ hI1
    · exact ⟨0, by omega, ⟨(u2 1 1 rfl).trans t1, t2⟩, fun k hk => absurd hk (Nat.not_lt_zero k)⟩
    · exact f2.trans (f1.symm.trans (u2 30 5 rfl).symm)
    · exact RTour.cg u ⟨fun _ => rfl, fun _ => rfl, fun _ => rfl, fun _ => rfl, fun _ => rfl, fun _ => rfl, fun _ => rfl, rfl, rfl⟩ hTo
