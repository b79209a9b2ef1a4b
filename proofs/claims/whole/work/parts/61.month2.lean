/-! month, reference side -/
theorem nz14 {n : Nat} (h : 1 ≤ n ∧ n ≤ 4) : ¬ nI n = 0 := fun e => by
  have e := congrArg Int32.toInt e
  rw [nI_ti (by omega)] at e
  have e : (n : Int) = 0 := e
  omega
theorem nl14 {n : Nat} (h : 1 ≤ n ∧ n ≤ 4) : ¬ nI n ≤ 0 := fun e => by
  have e : nI n ≤ nI 0 := e
  rw [nI_le' (by omega) (by omega)] at e
  omega
theorem cd_lamp : f_X11_code 108 97 109 112 = some 237292 := by unfold f_X11_code; decide +kernel
theorem cd_sing : f_X11_code 115 105 110 103 = some 380923 := by unfold f_X11_code; decide +kernel
theorem cd_singe : f_X11_longer 380923 101 = some 10284926 := by unfold f_X11_longer; decide +kernel
theorem cd_singer : f_X11_longer 10284926 114 = some 277693020 := by unfold f_X11_longer; decide +kernel
theorem cd_burn : f_X11_code 98 117 114 110 = some 55175 := by unfold f_X11_code; decide +kernel
theorem cd_moth : f_X11_code 109 111 116 104 = some 267362 := by unfold f_X11_code; decide +kernel
theorem cd_moths : f_X11_longer 267362 115 = some 7218793 := by unfold f_X11_longer; decide +kernel
theorem cd_loud : f_X11_code 108 111 117 100 = some 247702 := by unfold f_X11_code; decide +kernel
theorem cd_fros : f_X11_code 102 114 111 115 = some 131644 := by unfold f_X11_code; decide +kernel
theorem cd_frost : f_X11_longer 131644 116 = some 3554408 := by unfold f_X11_longer; decide +kernel
theorem misW {F : Nat → Int32} {c q w : Nat} {K : Int64} (hq : q ≤ c) (hw : w < 7) (hK : K.toInt = encZ (rvw w)) : (lg_cmp (cdF F (lw F c q - q) q 0) K = 0) ↔ wdB F q (lw F c q) (rvw w) = true := mis hq (lets_all w hw) (lets_ok w hw) hK
theorem ux_wM {W : Nat → Nat → Bool} {σ τ : jS} (hW : ∀ a k, wM a k = true → W a k = true) (h : ux wM σ τ) : ux W σ τ := ux_w h (fun a k hk => by
  cases hm : wM a k with
  | false => rfl
  | true => rw [hW a k hm] at hk; cases hk)
theorem mday {F : Nat → Int32} {c p : Nat} {s : SR} {σ : jS} (hC : MC F c σ) (hp : p < c) (hs : sk F c p = p) (e21 : g_i σ 101 21 = nI p) (hD : DM s σ) : ∃ x, f_X11_takeDay nmM σ = some x ∧ ux wDM σ x.2 ∧ MO (nx (dayP F c s p)) x ∧ (∀ s' r, dayP F c s p = .ok (s', r) → DM s' x.2 ∧ g_i x.2 101 20 = g_i σ 101 20) := by
  obtain ⟨d1, d2, d3⟩ := hD
  have hl := lw_le F (show p ≤ c by omega)
  have wm : ∀ {σ τ : jS}, ux wM σ τ → ux wDM σ τ := fun h => ux_wM (fun a k e => by unfold wDM; rw [e]; rfl) h
  obtain ⟨τ1, e1, u1, a21, a23, a22, a20⟩ := mwordR hC (show p ≤ c by omega) e21
  rw [hs] at a21 a23 a22
  have hm := misW (F := F) (K := 3554408) (show p ≤ c by omega) (show 6 < 7 by decide) (by decide +kernel)
  have a21' : g_i τ1 (nmM 0) 21 = nI p := a21
  have a23' : g_i τ1 (nmM 0) 23 = nI (lw F c p) := a23
  have a22' : g_l τ1 (nmM 0) 22 = cdF F (lw F c p - p) p 0 := a22
  have a32' : g_i τ1 (nmM 0) 32 = nI s.1 := (u1 101 32 rfl).trans d2
  have hfl : ∀ n : Int32, ∃ x, (f_X11_fails nmM n (nI p) τ1).bind (fun x => some (x.1, x.2)) = some x ∧ x = (n, s_i τ1 101 20 (nI p)) := fun n => ⟨_, rfl, rfl⟩
  unfold f_X11_takeDay
  rw [e1, bnd, cd_fros, bnd, cd_frost, bnd, a22', a32', a21']
  by_cases hw : wdB F p (lw F c p) (rvw 6) = true
  · rw [if_pos (hm.mpr hw)]
    by_cases h30 : s.1 = 30
    · rw [if_pos (by rw [h30]; rfl)]
      have er : dayP F c s p = .error (3, p) := by
        unfold dayP onlyP
        rw [if_pos hw, if_pos (decide_eq_true h30)]; rfl
      rw [er]
      exact ⟨_, rfl, uxM (u1) (by omega) (by omega) |> wm, ⟨n14_3, rfl, s_i_eq _ _ _ _⟩, fun s' r h => by cases h⟩
    · rw [if_neg (fun e => h30 (by
        have e : nI s.1 = nI 30 := e
        rw [nI_inj (by omega) (by omega)] at e; exact e))]
      rw [bdx, a23']
      show ∃ x, (f_X11_into (jn nmM [0, 1, 2, 3, 4, 5, 6, 7, 8, 9, 10, 11, 12, 13, 14, 15, 16, 17, 18, 19, 20, 21, 22, 23, 24, 25, 26, 12]) 90 (g_i (s_i τ1 101 21 (nI (lw F c p))) 101 32) 0 9 (s_i τ1 101 21 (nI (lw F c p)))).bind _ = some x ∧ _
      generalize hτ2 : s_i τ1 101 21 (nI (lw F c p)) = τ2
      have u2 : ux wM σ τ2 := by rw [← hτ2]; exact uxM u1 (by omega) (by omega)
      have b21 : g_i τ2 101 21 = nI (lw F c p) := by rw [← hτ2]; exact s_i_eq _ _ _ _
      have b20 : g_i τ2 101 20 = g_i σ 101 20 := by rw [← hτ2]; exact (s_i_k (by decide)).trans a20
      have b32 : g_i τ2 101 32 = nI s.1 := (u2 101 32 rfl).trans d2
      have c2 : MC F c τ2 := hC.cg u2 rfl (fun _ => rfl)
      rw [b32]
      obtain ⟨⟨f, τ3⟩, e3, u3, m3, o3⟩ := mintoR (nm := jn nmM [0, 1, 2, 3, 4, 5, 6, 7, 8, 9, 10, 11, 12, 13, 14, 15, 16, 17, 18, 19, 20, 21, 22, 23, 24, 25, 26, 12]) (N := 90) (at' := s.1) (cell := 113) (lo := 0) (hi := 9) (fun _ _ _ => rfl) rfl rfl (by decide) (by omega) (by omega) c2 hl.2 b21
      have u3 : ux (fun a k => wM a k || decide (a = 113 ∧ k = s.1)) τ2 τ3 := u3
      rw [e3, bnd]
      have b32' : g_i τ3 101 32 = nI s.1 := (u3 101 32 rfl).trans b32
      show ∃ x, (if f ≤ 0 then (f_X11_takeStop nmM (s_i τ3 101 32 (g_i τ3 101 32 + 1))).bind _ else some (f, s_i τ3 101 32 (g_i τ3 101 32 + 1))) = some x ∧ _
      rw [b32', nI_1]
      generalize hτ4 : s_i τ3 101 32 (nI (s.1 + 1)) = τ4
      have u34 : ux wDM τ2 τ4 := by
        rw [← hτ4]
        refine ux_s (ux_w u3 (fun a k hk => ?_)) rfl
        unfold wDM at hk
        obtain ⟨k1, k2⟩ := Bool.or_eq_false_iff.mp hk
        have k2 := of_decide_eq_false k2
        rw [k1]
        exact decide_eq_false (fun e => k2 (Or.inr e.1))
      have u4 : ux wDM σ τ4 := ux_tr (wm u2) u34
      have c4 : MC F c τ4 := hC.cg u4 rfl (fun _ => rfl)
      have q4 : ∀ k, k ≠ 32 → g_i τ4 101 k = g_i τ3 101 k := fun k hk => by rw [← hτ4]; exact s_i_k hk
      have eo : onlyP F c 6 (decide (s.1 = 30)) p = .ok (lw F c p) := by
        unfold onlyP
        rw [if_pos hw, decide_eq_false h30, if_neg (by decide)]
      have ed : dayP F c s p = bP (numP F c 0 9 (lw F c p)) (fun a => bP (stopP F c a.2) (fun r => .ok ((s.1 + 1, udF s.2 s.1 a.1), r))) := by
        unfold dayP; rw [eo]; rfl
      rw [ed]
      cases hn : numP F c 0 9 (lw F c p) with
      | error e =>
        rw [hn] at m3
        have m31 : f = nI e.1 := m3.2.1
        rw [m31, if_neg (nl14 m3.1)]
        exact ⟨_, rfl, u4, ⟨m3.1, rfl, (q4 20 (by decide)).trans m3.2.2⟩, fun s' r h => by cases h⟩
      | ok a =>
        obtain ⟨v, t⟩ := a
        rw [hn] at m3
        have m31 : f = 0 := m3.1
        obtain ⟨o1, o2, o4, o5⟩ := o3 v t hn
        have ht := (numP_ok hl.2 hn).2.2.1
        rw [m31, if_pos (by decide)]
        obtain ⟨⟨f5, τ5⟩, e5, u5, m5, o6⟩ := mstopR c4 ht ((q4 21 (by decide)).trans m3.2)
        rw [e5, bnd]
        show ∃ x, some (f5, τ5) = some x ∧ _
        show ∃ x, some (f5, τ5) = some x ∧ ux wDM σ x.2 ∧ MO (nx (bP (stopP F c t) (fun r => .ok ((s.1 + 1, udF s.2 s.1 v), r)))) x ∧ (∀ s' r, bP (stopP F c t) (fun r => .ok ((s.1 + 1, udF s.2 s.1 v), r)) = .ok (s', r) → DM s' x.2 ∧ g_i x.2 101 20 = g_i σ 101 20)
        refine ⟨_, rfl, ux_tr u4 (wm u5), ?_, fun s' r h => ?_⟩
        · cases hst : stopP F c t with
          | error e => rw [hst] at m5; exact m5
          | ok r => rw [hst] at m5; exact m5
        · obtain ⟨r', hr', h⟩ := bP_ok h
          have h := Except.ok.inj h
          have h1 : (s.1 + 1, udF s.2 s.1 v) = s' := congrArg Prod.fst h
          subst h1
          refine ⟨⟨by show s.1 + 1 ≤ 30; omega, ?_, fun k hk => ?_⟩, ?_⟩
          · exact (u5 101 32 rfl).trans (by rw [← hτ4]; exact s_i_eq _ _ _ _)
          · have hk : k < s.1 + 1 := hk
            show g_i τ5 113 k = udF s.2 s.1 v k
            have e4 : g_i τ4 113 k = g_i τ3 113 k := by rw [← hτ4]; rfl
            rw [u5 113 k rfl, e4]
            by_cases hks : k = s.1
            · rw [hks, udF_eq]; exact o5
            · rw [udF_ne hks]
              have e3 : g_i τ3 113 k = g_i τ2 113 k := u3 113 k (by
                show (wM 113 k || decide ((113 : Nat) = 113 ∧ k = s.1)) = false
                rw [decide_eq_false (fun e => hks e.2)]; rfl)
              rw [e3, u2 113 k rfl]
              exact d3 k (by omega)
          · exact (o6 r' hr').trans ((q4 20 (by decide)).trans (o4.trans b20))
  · rw [if_neg (fun e => hw (hm.mp e))]
    have er : dayP F c s p = .error (1, p) := by
      unfold dayP onlyP
      rw [if_neg hw]; rfl
    rw [er]
    exact ⟨_, rfl, wm (uxM u1 (by omega) (by omega)), ⟨n14_1, rfl, s_i_eq _ _ _ _⟩, fun s' r h => by cases h⟩
