/-! month: the call -/
def s0R : SR := (0, fun _ => 0)
theorem dayP_cl {F : Nat → Int32} {c : Nat} (s : SR) (p r : Nat) (s' : SR) (hp : p ≤ c) (h : dayP F c s p = .ok (s', r)) : p < r ∧ r ≤ c := by
  obtain ⟨q, v, t, -, -, -, -, -, -, h1, h2, h3, h4⟩ := dayP_ok hp h
  exact ⟨by omega, h4⟩
def wz_x (a k : Nat) : Bool := decide (a = 30 ∨ a = 28 ∨ a = 29 ∨ (a = 1 ∧ k = 1))
def wz_y (a k : Nat) : Bool := wz_x a k || decide (a = 55 ∨ a = 56)
theorem xmonth {F : Nat → Int32} {c : Nat} {σ : jS} (hC : XC F c σ) (h200 : c ≤ 200) : ∃ r τ, f_X10_month nmX σ = some (r, τ) ∧ g_i τ 1 1 = 0 ∧ (∀ s, runP (dayP F c) F c c s0R 0 = .ok s → ux wz_y σ τ ∧ r = nI s.1 ∧ s.1 ≤ 30 ∧ g_i τ 30 5 = -1 ∧ g_i τ 55 1 = nI s.1 ∧ ∀ k, k < s.1 → g_i τ 56 k = s.2 k ∧ rg (s.2 k) 0 9) ∧ (∀ e, runP (dayP F c) F c c s0R 0 = .error e → ux wz_x σ τ ∧ (1 ≤ e.1 ∧ e.1 ≤ 4) ∧ r = -10 - nI e.1 ∧ g_i τ 30 5 = nI e.2) := by
  have hc := hC.1
  have esz : f_X4_size (jn nmX [1, 2]) 400 σ = some (nI c) := congrArg some hC.2.1
  unfold f_X10_month
  rw [esz, bnd, if_pos (show nI c ≤ (200 : Int32) from (nI_le' (b := 200) (by omega) (by omega)).mpr h200)]
  show ∃ r τ, (f_X5_readMonth nmS 30 σ).bind (fun x => some (x.1, x.2)) = some (r, τ) ∧ _
  have eb : ∀ x : Option (Int32 × jS), x.bind (fun x => some (x.1, x.2)) = x := fun x => by cases x <;> rfl
  rw [eb]
  unfold f_X5_readMonth
  show ∃ r τ, (lp (f_X5_readMonth_L16 nmS 30) fu (0, s_i (s_i (s_i (s_i σ 28 1 0) 30 1 0) 30 4 0) 30 5 (-1))).bind (fun s10 => f_X5_readMonth_J73 nmS 30 s10) = some (r, τ) ∧ _
  generalize hσ1 : s_i (s_i (s_i (s_i σ 28 1 0) 30 1 0) 30 4 0) 30 5 (-1) = σ1
  have u1 : ux wDX σ σ1 := by rw [← hσ1]; exact ux_s (ux_s (ux_s (ux_s (ux_refl _ _) rfl) rfl) rfl) rfl
  have r1 : XR c (.ok 0) σ1 := by
    rw [← hσ1]
    exact ⟨0, by omega, (s_i_k (by decide)).trans ((s_i_k (by decide)).trans (s_i_eq _ _ _ _)), rfl, (s_i_k (by decide)).trans (s_i_eq _ _ _ _), s_i_eq _ _ _ _⟩
  have d1 : DX s0R σ1 := by
    rw [← hσ1]
    exact ⟨by decide, s_i_eq σ 28 1 0, fun k hk => absurd hk (Nat.not_lt_zero k)⟩
  have c1 : XC F c σ1 := hC.cg u1 rfl (fun _ => rfl)
  obtain ⟨τ1, e1, u2, x1⟩ := xloop (F := F) (c := c) (cls := clsDay) (nm := jn nmS [29, 1, 2]) (cl := dayP F c) (D := DX) (W := wDX) rfl rfl rfl hfDay (fun _ => rfl) rfl (fun _ => rfl) (fun s σ τ u d => ⟨d.1, (u 28 1 rfl).trans d.2.1, fun k hk => by rw [u 29 k rfl]; exact d.2.2 k hk⟩) dayP_cl (fun s p σ hC hp hs hR hD => xday hC hp hs hR hD) c1 r1 d1
  rw [e1, bnd]
  unfold f_X5_readMonth_J73
  have ee : f_X4_empty (jn nmS [1, 2]) 400 τ1 = some (s_i τ1 1 1 0) := rfl
  rw [ee, bnd]
  generalize hτ2 : s_i τ1 1 1 0 = τ2
  have u3 : ux wz_x σ τ2 := by
    rw [← hτ2]
    refine ux_s (ux_w (ux_tr u1 u2) (fun a k hk => ?_)) rfl
    have hk := of_decide_eq_false hk
    exact decide_eq_false (fun h => hk (by rcases h with h | h | h; exact Or.inl h; exact Or.inr (Or.inl h); exact Or.inr (Or.inr (Or.inl h))))
  have q3 : ∀ a k, a ≠ 1 → g_i τ2 a k = g_i τ1 a k := fun a k ha => by rw [← hτ2]; exact s_i_a ha
  have t11 : g_i τ2 1 1 = 0 := by rw [← hτ2]; exact s_i_eq _ _ _ _
  have ef : f_X3_hasFault (jn nmS [29, 1, 2]) τ2 = if g_i τ2 30 4 = 0 then some 0 else some 1 := rfl
  rw [ef]
  cases hr : runP (dayP F c) F c c s0R 0 with
  | ok s =>
    rw [hr] at x1
    obtain ⟨⟨p, p', -, -, -, f4, f5⟩, z1, z2, z3⟩ := x1
    rw [if_pos ((q3 30 4 (by decide)).trans f4), bnd, if_pos rfl]
    obtain ⟨τ4, e4, u4, y1, y2⟩ := row_copy (nm := jn nmS [30, 31, 27, 28]) (σ := τ2) (N := 30) (n := s.1) (d0 := 55) (d1 := 56) (s0 := 28) (s1 := 29) rfl rfl rfl rfl (by decide) (by decide) (by decide) (by decide) (by decide) ((q3 28 1 (by decide)).trans z2) z1 (by decide)
    rw [e4, bnd]
    have es : f_X4_size (jn nmS [30, 31]) 30 τ4 = some (nI s.1) := congrArg some y1
    rw [es, bnd]
    refine ⟨_, τ4, rfl, (u4 1 1 rfl).trans t11, fun s' hs' => ?_, fun e he => by cases he⟩
    have hs' := Except.ok.inj hs'
    subst hs'
    refine ⟨?_, rfl, z1, (u4 30 5 rfl).trans ((q3 30 5 (by decide)).trans f5), y1, fun k hk => ?_⟩
    · refine ux_tr (ux_w u3 (fun a k hk => ?_)) (ux_w u4 (fun a k hk => ?_))
      · exact (Bool.or_eq_false_iff.mp hk).1
      · have hk := of_decide_eq_false (Bool.or_eq_false_iff.mp hk).2
        exact decide_eq_false (fun h => hk (by rcases h with h | h; exact Or.inl h.1; exact Or.inr h))
    · rw [y2 k hk, q3 29 k (by decide)]; exact z3 k hk
  | error e =>
    rw [hr] at x1
    obtain ⟨p, -, -, f0, f4, f5⟩ := x1
    have e4 : g_i τ2 30 4 = nI e.1 := (q3 30 4 (by decide)).trans f4
    rw [e4, if_neg (nz14 f0), bnd, if_neg i10]
    refine ⟨_, τ2, rfl, t11, fun s h => (by cases h), fun e' he' => ?_⟩
    have he' := Except.error.inj he'
    subst he'
    exact ⟨u3, f0, congrArg (fun z => (-10 : Int32) - z) e4, (q3 30 5 (by decide)).trans f5⟩
def wz_m (a k : Nat) : Bool := wDM a k || decide (a = 101 ∧ k = 19)
def wz_n (a k : Nat) : Bool := wz_m a k || decide ((a = 101 ∧ k = 12) ∨ a = 108)
theorem mcopy30 {σ : jS} : ∃ τ, lp (f_X11_month_L74 nmM) fu (0, σ) = some τ ∧ ux (fun a _ => decide (a = 108)) σ τ ∧ ∀ k, k < 30 → g_i τ 108 k = g_i σ 113 k := by
  suffices wp (lp (f_X11_month_L74 nmM) fu (0, σ)) (fun τ => ux (fun a _ => decide (a = 108)) σ τ ∧ ∀ k, k < 30 → g_i τ 108 k = g_i σ 113 k) by
    obtain ⟨τ, e, h⟩ := this
    exact ⟨τ, e, h⟩
  refine wp_up 30 (fun i x => x.1 = nI i ∧ ux (fun a _ => decide (a = 108)) σ x.2 ∧ ∀ k, k < i → g_i x.2 108 k = g_i σ 113 k) (i := 0) (by omega) (by omega) ⟨rfl, ux_refl _ _, fun k hk => absurd hk (Nat.not_lt_zero k)⟩ ?_
  rintro i ⟨v, τ⟩ hi ⟨hv, hu, hk⟩
  have hv : v = nI i := hv
  have hu : ux (fun a _ => decide (a = 108)) σ τ := hu
  subst hv
  unfold f_X11_month_L74
  show wp (if nI 30 ≤ nI i then some (Sum.inr τ) else _) _
  refine wp_ite (fun hc => ?_) (fun hc => ?_)
  · rw [nI_le' (by omega) (by omega)] at hc
    exact wp_some ⟨hu, fun k h => hk k (by omega)⟩
  · rw [nI_le' (by omega) (by omega)] at hc
    refine wp_gd (nI_in' (by omega) (by omega)) (wp_gd (nI_in' (by omega) (by omega)) ?_)
    rw [nI_cl (by omega)]
    refine wp_bd (fun s hs => wp_some ⟨by omega, nI_1 i, ?_, fun k h => ?_⟩)
    · rw [hs]; exact ux_s hu rfl
    · show g_i s 108 k = _
      rw [hs]
      show g_i (s_i τ 108 i (g_i τ 113 i)) 108 k = _
      by_cases hki : k = i
      · rw [hki, s_i_eq]; exact hu 113 i rfl
      · rw [s_i_k hki]; exact hk k (by omega)
theorem mmonth {F : Nat → Int32} {c : Nat} {σ : jS} (hC : MC F c σ) (hF : ∀ k, k < c → ¬ F k < 0) (h200 : c ≤ 200) : ∃ r τ, f_X11_month nmM σ = some (r, τ) ∧ g_i τ 101 19 = 0 ∧ (∀ s, runP (dayP F c) F c c s0R 0 = .ok s → ux wz_n σ τ ∧ r = nI s.1 ∧ g_i τ 101 20 = -1 ∧ g_i τ 101 12 = nI s.1 ∧ ∀ k, k < s.1 → g_i τ 108 k = s.2 k) ∧ (∀ e, runP (dayP F c) F c c s0R 0 = .error e → ux wz_m σ τ ∧ r = -10 - nI e.1 ∧ g_i τ 101 20 = nI e.2) := by
  have hc := hC.1
  unfold f_X11_month
  rw [show g_i σ (nmM 0) 19 = nI c from hC.2.1, if_pos (show nI c ≤ (200 : Int32) from (nI_le' (b := 200) (by omega) (by omega)).mpr h200)]
  show ∃ r τ, (lp (f_X11_month_L31 nmM) fu (0, s_i (s_i (s_i σ 101 20 (-1)) 101 21 0) 101 32 0)).bind _ = some (r, τ) ∧ _
  generalize hσ1 : s_i (s_i (s_i σ 101 20 (-1)) 101 21 0) 101 32 0 = σ1
  have u1 : ux wDM σ σ1 := by rw [← hσ1]; exact ux_s (ux_s (ux_s (ux_refl _ _) rfl) rfl) rfl
  have c1 : MC F c σ1 := hC.cg u1 rfl (fun _ => rfl)
  have a21 : g_i σ1 101 21 = nI 0 := by rw [← hσ1]; exact (s_i_k (by decide)).trans (s_i_eq _ _ _ _)
  have a20 : g_i σ1 101 20 = -1 := by rw [← hσ1]; exact (s_i_k (by decide)).trans ((s_i_k (by decide)).trans (s_i_eq _ _ _ _))
  have d1 : DM s0R σ1 := by
    rw [← hσ1]
    exact ⟨by decide, s_i_eq _ _ _ _, fun k hk => absurd hk (Nat.not_lt_zero k)⟩
  have hf : ∀ v σ, f_X11_month_L31 nmM (v, σ) = if v = 0 then (f_X11_here nmM σ).bind (fun x => if x.1 < 0 then some (.inr (v, x.2)) else (f_X11_takeDay nmM x.2).bind (fun y => some (.inl (y.1, y.2)))) else some (.inr (v, σ)) := fun v σ => rfl
  obtain ⟨⟨f, τ1⟩, e1, u2, x1⟩ := mloop (F := F) (c := c) (cl := dayP F c) (D := DM) (W := wDM) hf (fun a k e => by unfold wDM; rw [e]; rfl) rfl (fun _ => rfl) hF (fun s σ τ u d => ⟨d.1, (u 101 32 rfl).trans d.2.1, fun k hk => by rw [u 113 k rfl]; exact d.2.2 k hk⟩) dayP_cl (fun s p σ hC hp hs h21 hD => mday hC hp hs h21 hD) c1 a21 d1
  rw [e1, bnd]
  have u2 : ux wDM σ1 τ1 := u2
  show ∃ r τ, f_X11_month_J50 nmM f τ1 = some (r, τ) ∧ _
  unfold f_X11_month_J50
  show ∃ r τ, (if f ≤ 0 then bd (s_i (s_i τ1 101 19 0) 101 12 (g_i (s_i τ1 101 19 0) 101 32)) _ else some (-10 - f, s_i τ1 101 19 0)) = some (r, τ) ∧ _
  generalize hτ2 : s_i τ1 101 19 0 = τ2
  have u3 : ux wz_m σ τ2 := by
    rw [← hτ2]
    refine ux_s (ux_w (ux_tr u1 u2) (fun a k hk => (Bool.or_eq_false_iff.mp hk).1)) rfl
  have q3 : ∀ k, k ≠ 19 → g_i τ2 101 k = g_i τ1 101 k := fun k hk => by rw [← hτ2]; exact s_i_k hk
  have q3' : ∀ k, g_i τ2 113 k = g_i τ1 113 k := fun k => by rw [← hτ2]; rfl
  have t19 : g_i τ2 101 19 = 0 := by rw [← hτ2]; exact s_i_eq _ _ _ _
  cases hr : runP (dayP F c) F c c s0R 0 with
  | ok s =>
    rw [hr] at x1
    obtain ⟨f0, ⟨z1, z2, z3⟩, z20⟩ := x1
    have f0 : f = 0 := f0
    rw [f0, if_pos (by decide), bdx, q3 32 (by decide)]
    rw [show g_i τ1 101 32 = nI s.1 from z2]
    generalize hτ3 : s_i τ2 101 12 (nI s.1) = τ3
    obtain ⟨τ4, e4, u4, y4⟩ := mcopy30 (σ := τ3)
    rw [e4, bnd]
    have k12 : g_i τ3 101 12 = nI s.1 := by rw [← hτ3]; exact s_i_eq _ _ _ _
    have q4 : ∀ k, k ≠ 12 → g_i τ3 101 k = g_i τ2 101 k := fun k hk => by rw [← hτ3]; exact s_i_k hk
    refine ⟨_, τ4, rfl, (u4 101 19 rfl).trans ((q4 19 (by decide)).trans t19), fun s' hs' => ?_, fun e he => by cases he⟩
    have hs' := Except.ok.inj hs'
    subst hs'
    refine ⟨?_, (u4 101 12 rfl).trans k12, (u4 101 20 rfl).trans ((q4 20 (by decide)).trans ((q3 20 (by decide)).trans (z20.trans a20))), (u4 101 12 rfl).trans k12, fun k hk => ?_⟩
    · refine ux_tr (τ := τ3) ?_ (ux_w u4 (fun a k hk => ?_))
      · rw [← hτ3]
        exact ux_s (ux_w u3 (fun a k hk => (Bool.or_eq_false_iff.mp hk).1)) rfl
      · have hk := of_decide_eq_false (Bool.or_eq_false_iff.mp hk).2
        exact decide_eq_false (fun h => hk (Or.inr h))
    · have : g_i τ3 113 k = g_i τ2 113 k := by rw [← hτ3]; rfl
      rw [y4 k (by omega), this, q3' k]
      exact z3 k hk
  | error e =>
    rw [hr] at x1
    obtain ⟨f0, f1, f20⟩ := x1
    have f1 : f = nI e.1 := f1
    rw [f1, if_neg (nl14 f0)]
    refine ⟨_, τ2, rfl, t19, fun s h => (by cases h), fun e' he' => ?_⟩
    have he' := Except.error.inj he'
    subst he'
    exact ⟨u3, rfl, (q3 20 (by decide)).trans f20⟩
theorem st_month : sII Rel (fun σ => f_X10_month nmX σ) (fun σ => f_X11_month nmM σ) := by
  rintro σ ⟨n, m, hSi, hN, hSo, hD, hSg, hL, hI0, hI1, ⟨c, hc, ⟨c1, c2⟩, ct⟩, hF, hTo⟩
  by_cases h200 : c ≤ 200
  · have hC : XC (g_i σ 2) c σ := ⟨hc, c1, fun _ _ => rfl⟩
    obtain ⟨r, τ, e1, t1, ok1, er1⟩ := xmonth hC h200
    have hFn : ∀ k, k < c → ¬ g_i σ 2 k < 0 := fun k hk h => by
      have h := Int32.lt_iff_toInt_lt.mp h
      have h : (g_i σ 2 k).toInt < 0 := h
      have := (ct k hk).1.1
      omega
    cases hr : runP (dayP (g_i σ 2) c) (g_i σ 2) c c s0R 0 with
    | ok s =>
      obtain ⟨u1, r1, s30, f1, y1, z1⟩ := ok1 s hr
      have hM : MC (g_i σ 2) c τ := ⟨hc, (u1 101 19 rfl).trans c2, fun k hk => (u1 109 k rfl).trans (ct k hk).2⟩
      obtain ⟨r', υ, e2, t2, ok2, er2⟩ := mmonth hM hFn h200
      obtain ⟨u2, r2, f2, y2, z2⟩ := ok2 s hr
      have u := ux_trans u1 u2
      refine ⟨r, τ, υ, e1, ?_, n, m, ?_, ?_, ?_, ?_, ?_, ?_, ?_, ?_, ?_, ?_, ?_⟩
      · rw [r1, ← r2]; exact e2
      · exact RSite.cg u ⟨fun _ => rfl, fun _ => rfl, fun _ => rfl, fun _ => rfl, fun _ => rfl, fun _ => rfl, fun _ => rfl, fun _ => rfl, fun _ => rfl, fun _ => rfl, fun _ => rfl, fun _ => rfl, fun _ => rfl, fun _ => rfl, fun _ => rfl, fun _ => rfl, fun _ => rfl, rfl, rfl, rfl, rfl, rfl⟩ (fun l _ => ⟨rfl, rfl, rfl⟩) hSi
      · exact RNow.cg u ⟨fun _ => rfl, fun _ => rfl, fun _ => rfl, fun _ => rfl, fun _ => rfl, fun _ => rfl, fun _ => rfl, rfl, rfl, rfl, rfl, rfl, rfl, rfl, rfl⟩ (fun _ _ => rfl) hN
      · exact RSongs.cg u ⟨fun _ => rfl, fun _ => rfl, fun _ => rfl, fun _ => rfl, fun _ => rfl, fun _ => rfl, fun _ => rfl, rfl⟩ hSo
      · refine ⟨s.1, s30, ⟨(u2 55 1 rfl).trans y1, y2⟩, fun k hk => ?_⟩
        have e56 : g_i υ 56 k = s.2 k := (u2 56 k rfl).trans (z1 k hk).1
        rw [e56, z2 k hk]
        exact ⟨(z1 k hk).2, rfl⟩
      · exact RSig.cg u ⟨fun _ => rfl, fun _ => rfl, fun _ => rfl, rfl⟩ hSg
      · exact RLog.cg u ⟨fun _ => rfl, fun _ => rfl, fun _ => rfl, rfl⟩ hL
      · exact RImg.cg u ⟨fun _ => rfl, fun _ => rfl, fun _ => rfl, fun _ => rfl, fun _ => rfl, fun _ => rfl, fun _ => rfl⟩ hI0
      · exact RImg.cg u ⟨fun _ => rfl, fun _ => rfl, fun _ => rfl, fun _ => rfl, fun _ => rfl, fun _ => rfl, fun _ => rfl⟩ hI1
      · exact ⟨0, by omega, ⟨(u2 1 1 rfl).trans t1, t2⟩, fun k hk => absurd hk (Nat.not_lt_zero k)⟩
      · exact f2.trans (f1.symm.trans (u2 30 5 rfl).symm)
      · exact RTour.cg u ⟨fun _ => rfl, fun _ => rfl, fun _ => rfl, fun _ => rfl, fun _ => rfl, fun _ => rfl, fun _ => rfl, rfl, rfl⟩ hTo
    | error e =>
      obtain ⟨u1, -, r1, f1⟩ := er1 e hr
      have hM : MC (g_i σ 2) c τ := ⟨hc, (u1 101 19 rfl).trans c2, fun k hk => (u1 109 k rfl).trans (ct k hk).2⟩
      obtain ⟨r', υ, e2, t2, ok2, er2⟩ := mmonth hM hFn h200
      obtain ⟨u2, r2, f2⟩ := er2 e hr
      have u := ux_trans u1 u2
      refine ⟨r, τ, υ, e1, ?_, n, m, ?_, ?_, ?_, ?_, ?_, ?_, ?_, ?_, ?_, ?_, ?_⟩
      · rw [r1, ← r2]; exact e2
      · exact RSite.cg u ⟨fun _ => rfl, fun _ => rfl, fun _ => rfl, fun _ => rfl, fun _ => rfl, fun _ => rfl, fun _ => rfl, fun _ => rfl, fun _ => rfl, fun _ => rfl, fun _ => rfl, fun _ => rfl, fun _ => rfl, fun _ => rfl, fun _ => rfl, fun _ => rfl, fun _ => rfl, rfl, rfl, rfl, rfl, rfl⟩ (fun l _ => ⟨rfl, rfl, rfl⟩) hSi
      · exact RNow.cg u ⟨fun _ => rfl, fun _ => rfl, fun _ => rfl, fun _ => rfl, fun _ => rfl, fun _ => rfl, fun _ => rfl, rfl, rfl, rfl, rfl, rfl, rfl, rfl, rfl⟩ (fun _ _ => rfl) hN
      · exact RSongs.cg u ⟨fun _ => rfl, fun _ => rfl, fun _ => rfl, fun _ => rfl, fun _ => rfl, fun _ => rfl, fun _ => rfl, rfl⟩ hSo
      · exact RDays.cg u ⟨fun _ => rfl, fun _ => rfl, fun _ => rfl, rfl⟩ hD
      · exact RSig.cg u ⟨fun _ => rfl, fun _ => rfl, fun _ => rfl, rfl⟩ hSg
      · exact RLog.cg u ⟨fun _ => rfl, fun _ => rfl, fun _ => rfl, rfl⟩ hL
      · exact RImg.cg u ⟨fun _ => rfl, fun _ => rfl, fun _ => rfl, fun _ => rfl, fun _ => rfl, fun _ => rfl, fun _ => rfl⟩ hI0
      · exact RImg.cg u ⟨fun _ => rfl, fun _ => rfl, fun _ => rfl, fun _ => rfl, fun _ => rfl, fun _ => rfl, fun _ => rfl⟩ hI1
      · exact ⟨0, by omega, ⟨(u2 1 1 rfl).trans t1, t2⟩, fun k hk => absurd hk (Nat.not_lt_zero k)⟩
      · exact f2.trans (f1.symm.trans (u2 30 5 rfl).symm)
      · exact RTour.cg u ⟨fun _ => rfl, fun _ => rfl, fun _ => rfl, fun _ => rfl, fun _ => rfl, fun _ => rfl, fun _ => rfl, rfl, rfl⟩ hTo
  · have nle : ¬ nI c ≤ 200 := fun h => by
      have h : nI c ≤ nI 200 := h
      rw [nI_le' (by omega) (by omega)] at h; omega
    refine ⟨-1003, σ, σ, ?_, ?_, n, m, hSi, hN, hSo, hD, hSg, hL, hI0, hI1, ⟨c, hc, ⟨c1, c2⟩, ct⟩, hF, hTo⟩
    · show f_X10_month nmX σ = _
      unfold f_X10_month
      have esz : f_X4_size (jn nmX [1, 2]) 400 σ = some (nI c) := congrArg some c1
      rw [esz, bnd, if_neg nle]
    · show f_X11_month nmM σ = _
      unfold f_X11_month
      rw [show g_i σ (nmM 0) 19 = nI c from c2, if_neg nle]
