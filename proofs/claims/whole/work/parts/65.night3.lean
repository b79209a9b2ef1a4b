/-! night: the reference's call -/
def SM (m : Nat) (lo hi : Nat → Int32) (σ : jS) : Prop := m ≤ 8 ∧ g_i σ 101 8 = nI m ∧ ∀ j, j < m → g_i σ 106 (4 * j + 2) = lo j ∧ g_i σ 106 (4 * j + 3) = hi j
theorem SM.cg {W : Nat → Nat → Bool} {m : Nat} {lo hi : Nat → Int32} {σ τ : jS} (hu : ux W σ τ) (h1 : W 101 8 = false) (h2 : ∀ k, W 106 k = false) (h : SM m lo hi σ) : SM m lo hi τ :=
  ⟨h.1, (hu _ _ h1).trans h.2.1, fun j hj => by rw [hu 106 _ (h2 _), hu 106 _ (h2 _)]; exact h.2.2 j hj⟩
def DNM (m : Nat) (lo hi : Nat → Int32) (s : SR) (σ : jS) : Prop := (s.1 ≤ 30 ∧ SM m lo hi σ) ∧ g_i σ 101 32 = nI s.1 ∧ ∀ k, k < 3 * s.1 → g_i σ 113 k = s.2 k
theorem wdm {σ τ : jS} (h : ux wM σ τ) : ux wDM σ τ := ux_wM (fun a k e => by unfold wDM; rw [e]; rfl) h
theorem wdi {σ τ : jS} {i : Nat} (h : ux (fun a k => wM a k || decide (a = 113 ∧ k = i)) σ τ) : ux wDM σ τ := ux_w h (fun a k hk => by
  unfold wDM at hk
  obtain ⟨k1, k2⟩ := Bool.or_eq_false_iff.mp hk
  have k2 := of_decide_eq_false k2
  show (wM a k || decide (a = 113 ∧ k = i)) = false
  rw [k1]
  exact decide_eq_false (fun e => k2 (Or.inr e.1)))
theorem wd_in {σ τ : jS} {i k : Nat} (h : ux (fun a k => wM a k || decide (a = 113 ∧ k = i)) σ τ) (hk : k ≠ i) : g_i τ 113 k = g_i σ 113 k := h 113 k (by
  show (wM 113 k || decide ((113 : Nat) = 113 ∧ k = i)) = false
  rw [decide_eq_false (fun e => hk e.2)]; rfl)
theorem mtail {F : Nat → Int32} {c m n t : Nat} {lo hi : Nat → Int32} {σ : jS} (hC : MC F c σ) (hS : SM m lo hi σ) (ht : t ≤ c) (e21 : g_i σ 101 21 = nI t) (hn : n < 30) (e32 : g_i σ 101 32 = nI n) : ∃ x, f_X11_takeSong_J120 nmM (nI (3 * n)) 0 σ = some x ∧ ux wDM σ x.2 ∧ MO (nx (tailP F c m lo hi t)) x ∧ (∀ a b r, tailP F c m lo hi t = .ok ((a, b), r) → g_i x.2 101 20 = g_i σ 101 20 ∧ g_i x.2 101 32 = nI (n + 1) ∧ g_i x.2 113 (3 * n + 1) = a ∧ g_i x.2 113 (3 * n + 2) = b ∧ ∀ k, k < 3 * n + 1 → g_i x.2 113 k = g_i σ 113 k) := by
  obtain ⟨hm, s1, s2⟩ := hS
  have k1 : nI (3 * n) + 1 = nI (3 * n + 1) := nI_1 _
  have k2 : nI (3 * n) + 2 = nI (3 * n + 2) := nI_add _ 2
  unfold f_X11_takeSong_J120
  rw [if_pos (by decide), show g_i σ (nmM 0) 8 = nI m from s1, k1]
  obtain ⟨⟨f1, τ1⟩, e1, u1, m1, o1⟩ := mintoR (nm := jn nmM [0, 1, 2, 3, 4, 5, 6, 7, 8, 9, 10, 11, 12, 13, 14, 15, 16, 17, 18, 19, 20, 21, 22, 23, 24, 25, 26, 12]) (N := 90) (at' := 3 * n + 1) (cell := 113) (lo := 0) (hi := nI m - 1) (fun _ _ _ => rfl) rfl rfl (by decide) (by omega) (by omega) hC ht e21
  rw [e1]
  show ∃ x, f_X11_takeSong_J147 nmM (nI (3 * n)) f1 τ1 = some x ∧ _
  unfold f_X11_takeSong_J147 tailP
  cases h1 : numP F c 0 (nI m - 1) t with
  | error e =>
    rw [h1] at m1
    have m11 : f1 = nI e.1 := m1.2.1
    rw [m11, if_neg (nl14 m1.1)]
    exact ⟨_, rfl, wdi u1, ⟨m1.1, rfl, m1.2.2⟩, fun a b r h => by cases h⟩
  | ok b =>
    obtain ⟨b1, b2⟩ := b
    rw [h1] at m1
    have m11 : f1 = 0 := m1.1
    have n1 := numP_ok ht h1
    obtain ⟨p1, p2, p3, p4⟩ := o1 b1 b2 h1
    have hb := n1.1
    have z0 : (0 : Int32).toInt = 0 := by decide
    rw [z0, nI_sub1 (by omega)] at hb
    obtain ⟨j, hj, rfl⟩ := (nI_iff (a := b1) (n := m) (by omega)).mpr ⟨hb.1, by omega⟩
    have p4 : g_i τ1 (nmM 12) (3 * n + 1) = nI j := p4
    have q1 : (4 : Int32) * nI j + 2 = nI (4 * j + 2) := by rw [show (4 : Int32) * nI j = nI (4 * j) from nI_mul 4 j]; exact nI_add _ 2
    have q2 : (4 : Int32) * nI j + 3 = nI (4 * j + 3) := by rw [show (4 : Int32) * nI j = nI (4 * j) from nI_mul 4 j]; exact nI_add _ 3
    have l1 : g_i τ1 (nmM 5) (4 * j + 2) = lo j := (u1 106 _ rfl).trans (s2 j hj).1
    have l2 : g_i τ1 (nmM 5) (4 * j + 3) = hi j := (u1 106 _ rfl).trans (s2 j hj).2
    rw [m11, if_pos (by decide), k1, k2, nI_cl (show 3 * n + 1 < 2147483648 by omega), p4, q1, q2, gd_t (nI_in' (by omega) (by omega)), gd_t (nI_in' (by omega) (by omega)), gd_t (nI_in' (by omega) (by omega)), gd_t (nI_in' (by omega) (by omega)), nI_cl (show 4 * j + 2 < 2147483648 by omega), nI_cl (show 4 * j + 3 < 2147483648 by omega), l1, l2]
    have c1 : MC F c τ1 := hC.cg u1 rfl (fun _ => rfl)
    obtain ⟨⟨f2, τ2⟩, e2, u2, m2, o2⟩ := mintoR (nm := jn nmM [0, 1, 2, 3, 4, 5, 6, 7, 8, 9, 10, 11, 12, 13, 14, 15, 16, 17, 18, 19, 20, 21, 22, 23, 24, 25, 26, 12]) (N := 90) (at' := 3 * n + 2) (cell := 113) (lo := lo j) (hi := hi j) (fun _ _ _ => rfl) rfl rfl (by decide) (by omega) (by omega) c1 n1.2.2.1 m1.2
    rw [e2, bnd]
    have e32' : g_i τ2 101 32 = nI n := (u2 101 32 rfl).trans ((u1 101 32 rfl).trans e32)
    show ∃ x, (if f2 ≤ 0 then (f_X11_takeStop nmM (s_i τ2 101 32 (g_i τ2 101 32 + 1))).bind _ else some (f2, s_i τ2 101 32 (g_i τ2 101 32 + 1))) = some x ∧ _
    rw [e32', nI_1]
    generalize hτ4 : s_i τ2 101 32 (nI (n + 1)) = τ4
    have u4 : ux wDM σ τ4 := by
      rw [← hτ4]
      exact ux_s (ux_tr (wdi u1) (wdi u2)) rfl
    have c4 : MC F c τ4 := hC.cg u4 rfl (fun _ => rfl)
    have q4 : ∀ k, k ≠ 32 → g_i τ4 101 k = g_i τ2 101 k := fun k hk => by rw [← hτ4]; exact s_i_k hk
    show ∃ x, _ ∧ ux wDM σ x.2 ∧ MO (nx (bP (numP F c (lo (nI j).toNatClampNeg) (hi (nI j).toNatClampNeg) b2) (fun d => bP (stopP F c d.2) (fun r => .ok ((nI j, d.1), r))))) x ∧ (∀ a b r, bP (numP F c (lo (nI j).toNatClampNeg) (hi (nI j).toNatClampNeg) b2) (fun d => bP (stopP F c d.2) (fun r => .ok ((nI j, d.1), r))) = .ok ((a, b), r) → _)
    rw [nI_cl (show j < 2147483648 by omega)]
    cases h2 : numP F c (lo j) (hi j) b2 with
    | error e =>
      rw [h2] at m2
      have m21 : f2 = nI e.1 := m2.2.1
      rw [m21, if_neg (nl14 m2.1)]
      exact ⟨_, rfl, u4, ⟨m2.1, rfl, (q4 20 (by decide)).trans m2.2.2⟩, fun a b r h => by cases h⟩
    | ok d =>
      obtain ⟨d1, d2⟩ := d
      rw [h2] at m2
      have m21 : f2 = 0 := m2.1
      obtain ⟨t1, t2, t3, t4⟩ := o2 d1 d2 h2
      have ht2 := (numP_ok n1.2.2.1 h2).2.2.1
      rw [m21, if_pos (by decide)]
      obtain ⟨⟨f5, τ5⟩, e5, u5, m5, o6⟩ := mstopR c4 ht2 ((q4 21 (by decide)).trans m2.2)
      rw [e5, bnd]
      show ∃ x, some (f5, τ5) = some x ∧ ux wDM σ x.2 ∧ MO (nx (bP (stopP F c d2) (fun r => .ok ((nI j, d1), r)))) x ∧ (∀ a b r, bP (stopP F c d2) (fun r => .ok ((nI j, d1), r)) = .ok ((a, b), r) → _)
      refine ⟨_, rfl, ux_tr u4 (wdm u5), ?_, fun a b r h => ?_⟩
      · cases hst : stopP F c d2 with
        | error e => rw [hst] at m5; exact m5
        | ok r => rw [hst] at m5; exact m5
      · obtain ⟨r', hr', h⟩ := bP_ok h
        have h := Except.ok.inj h
        have h1 : (nI j, d1) = (a, b) := congrArg Prod.fst h
        have h2 : nI j = a := congrArg Prod.fst h1
        have h3 : d1 = b := congrArg Prod.snd h1
        subst h2 h3
        have r4 : ∀ k, g_i τ5 113 k = g_i τ2 113 k := fun k => (u5 113 k rfl).trans (by rw [← hτ4]; rfl)
        refine ⟨?_, ?_, ?_, ?_, fun k hk => ?_⟩
        · exact (o6 r' hr').trans ((q4 20 (by decide)).trans (t3.trans p3))
        · exact (u5 101 32 rfl).trans (by rw [← hτ4]; exact s_i_eq _ _ _ _)
        · show g_i τ5 113 _ = _
          rw [r4, wd_in u2 (by omega)]; exact p4
        · show g_i τ5 113 _ = _
          rw [r4]; exact t4
        · show g_i τ5 113 _ = _
          rw [r4, wd_in u2 (by omega), wd_in u1 (by omega)]
theorem j120_err {e : Nat} {i : Int32} {τ : jS} (he : 1 ≤ e ∧ e ≤ 4) : f_X11_takeSong_J120 nmM i (nI e) τ = some (nI e, τ) := by
  unfold f_X11_takeSong_J120
  rw [if_neg (nl14 he), bnd]
  show f_X11_takeSong_J147 nmM i (nI e) τ = _
  unfold f_X11_takeSong_J147
  rw [if_neg (nl14 he)]
theorem msong {F : Nat → Int32} {c p m : Nat} {lo hi : Nat → Int32} {s : SR} {σ : jS} (hC : MC F c σ) (hp : p < c) (hs : sk F c p = p) (e21 : g_i σ 101 21 = nI p) (hD : DNM m lo hi s σ) : ∃ x, f_X11_takeSong nmM σ = some x ∧ ux wDM σ x.2 ∧ MO (nx (songP F c m lo hi s p)) x ∧ (∀ s' r, songP F c m lo hi s p = .ok (s', r) → DNM m lo hi s' x.2 ∧ g_i x.2 101 20 = g_i σ 101 20) := by
  obtain ⟨⟨d0, dS⟩, d1, d2⟩ := hD
  have hl := lw_le F (show p ≤ c by omega)
  obtain ⟨τ1, e1, u1, a21, a23, a22, a20⟩ := mwordR hC (show p ≤ c by omega) e21
  rw [hs] at a21 a23 a22
  have hm := misW (F := F) (K := 380923) (show p ≤ c by omega) (show 5 < 7 by decide) (by decide +kernel)
  have a21' : g_i τ1 (nmM 0) 21 = nI p := a21
  have a23' : g_i τ1 (nmM 0) 23 = nI (lw F c p) := a23
  have a22' : g_l τ1 (nmM 0) 22 = cdF F (lw F c p - p) p 0 := a22
  have a32' : g_i τ1 (nmM 0) 32 = nI s.1 := (u1 101 32 rfl).trans d1
  unfold f_X11_takeSong
  rw [e1, bnd, cd_sing, bnd, a22', a32', a21']
  by_cases hw : wdB F p (lw F c p) (rvw 5) = true
  · rw [if_pos (hm.mpr hw)]
    by_cases h30 : s.1 = 30
    · rw [if_pos (by rw [h30]; rfl)]
      have er : songP F c m lo hi s p = .error (3, p) := by
        unfold songP headP onlyP
        rw [if_pos hw, if_pos (decide_eq_true h30)]; rfl
      rw [er]
      exact ⟨_, rfl, wdm (uxM u1 (by omega) (by omega)), ⟨n14_3, rfl, s_i_eq _ _ _ _⟩, fun s' r h => by cases h⟩
    · rw [if_neg (fun e => h30 (by
        have e : nI s.1 = nI 30 := e
        rw [nI_inj (by omega) (by omega)] at e; exact e))]
      rw [bdx, a23']
      have eo : onlyP F c 5 (decide (s.1 = 30)) p = .ok (lw F c p) := by
        unfold onlyP
        rw [if_pos hw, decide_eq_false h30, if_neg (by decide)]
      generalize hτ2 : s_i τ1 (nmM 0) 21 (nI (lw F c p)) = τ2
      have hτ2 : s_i τ1 101 21 (nI (lw F c p)) = τ2 := hτ2
      have u2 : ux wM σ τ2 := by rw [← hτ2]; exact uxM u1 (by omega) (by omega)
      have b21 : g_i τ2 101 21 = nI (lw F c p) := by rw [← hτ2]; exact s_i_eq _ _ _ _
      have b20 : g_i τ2 101 20 = g_i σ 101 20 := by rw [← hτ2]; exact (s_i_k (by decide)).trans a20
      have b32 : g_i τ2 (nmM 0) 32 = nI s.1 := (u2 101 32 rfl).trans d1
      have c2 : MC F c τ2 := hC.cg u2 rfl (fun _ => rfl)
      rw [bdx, b32, show (3 : Int32) * nI s.1 = nI (3 * s.1) from nI_mul 3 s.1]
      obtain ⟨⟨f, τ3⟩, e3, u3, m3, o3⟩ := mintoR (nm := jn nmM [0, 1, 2, 3, 4, 5, 6, 7, 8, 9, 10, 11, 12, 13, 14, 15, 16, 17, 18, 19, 20, 21, 22, 23, 24, 25, 26, 12]) (N := 90) (at' := 3 * s.1) (cell := 113) (lo := 0) (hi := 599) (fun _ _ _ => rfl) rfl rfl (by decide) (by omega) (by omega) c2 hl.2 b21
      rw [e3, bnd]
      have u03 : ux wDM σ τ3 := ux_tr (wdm u2) (wdi u3)
      have b32' : g_i τ3 (nmM 0) 32 = nI s.1 := (u3 101 32 rfl).trans b32
      show ∃ x, (if f = 0 then (if g_i τ3 (nmM 0) 32 ≤ 0 then f_X11_takeSong_J119 nmM (nI (3 * s.1)) f τ3 else _) else f_X11_takeSong_J119 nmM (nI (3 * s.1)) f τ3).bind _ = some x ∧ _
      rw [b32']
      have eh : headP F c s p = bP (numP F c 0 599 (lw F c p)) (fun a => if 0 < s.1 ∧ a.1.toInt < (s.2 (3 * (s.1 - 1))).toInt then .error (4, sk F c (lw F c p)) else .ok a) := by
        unfold headP; rw [eo]; rfl
      have j119 : ∀ g, f_X11_takeSong_J119 nmM (nI (3 * s.1)) g τ3 = some (g, τ3) := fun g => rfl
      rw [j119]
      cases hn : numP F c 0 599 (lw F c p) with
      | error e =>
        rw [hn] at m3 eh
        have m31 : f = nI e.1 := m3.2.1
        rw [m31, if_neg (nz14 m3.1), bnd]
        show ∃ x, f_X11_takeSong_J120 nmM (nI (3 * s.1)) (nI e.1) τ3 = some x ∧ _
        rw [j120_err m3.1]
        have er : songP F c m lo hi s p = .error e := by unfold songP; rw [eh]; rfl
        rw [er]
        exact ⟨_, rfl, u03, ⟨m3.1, rfl, m3.2.2⟩, fun s' r h => by cases h⟩
      | ok a =>
        obtain ⟨v, t⟩ := a
        rw [hn] at m3 eh
        have m31 : f = 0 := m3.1
        obtain ⟨o1, o2, o4, o5⟩ := o3 v t hn
        have ht := (numP_ok hl.2 hn).2.2.1
        have eh : headP F c s p = if 0 < s.1 ∧ v.toInt < (s.2 (3 * (s.1 - 1))).toInt then .error (4, sk F c (lw F c p)) else .ok (v, t) := eh
        rw [m31, if_pos rfl]
        have hbef : 0 < s.1 → g_i τ3 (nmM 12) (3 * (s.1 - 1)) = s.2 (3 * (s.1 - 1)) := fun h0 => by
          show g_i τ3 113 _ = _
          rw [wd_in u3 (by omega), u2 113 _ rfl]
          exact d2 _ (by omega)
        have o1' : g_i τ3 (nmM 0) 24 = v := o1
        have o2' : g_i τ3 (nmM 0) 25 = nI (sk F c (lw F c p)) := o2
        by_cases hE : 0 < s.1 ∧ v.toInt < (s.2 (3 * (s.1 - 1))).toInt
        · rw [if_pos hE] at eh
          have er : songP F c m lo hi s p = .error (4, sk F c (lw F c p)) := by unfold songP; rw [eh]; rfl
          rw [er, if_neg (by
            show ¬ nI s.1 ≤ nI 0
            rw [nI_le' (by omega) (by omega)]; omega)]
          have k3 : nI (3 * s.1) - 3 = nI (3 * (s.1 - 1)) := (nI_sb (a := 3 * s.1) (b := 3) (by omega)).trans (congrArg nI (by omega))
          rw [k3, gd_t (nI_in' (by omega) (by omega)), nI_cl (by omega), hbef hE.1, o1', if_neg (fun h => by have := Int32.le_iff_toInt_le.mp h; omega), o2']
          show ∃ x, f_X11_takeSong_J120 nmM (nI (3 * s.1)) (nI 4) (s_i τ3 101 20 (nI (sk F c (lw F c p)))) = some x ∧ _
          rw [j120_err (by omega)]
          exact ⟨_, rfl, ux_s u03 rfl, ⟨n14_4, rfl, s_i_eq _ _ _ _⟩, fun s' r h => by cases h⟩
        · rw [if_neg hE] at eh
          have hcond : (if nI s.1 ≤ 0 then some ((0 : Int32), τ3) else gd (vp_in (nI (3 * s.1) - 3) 90) (if g_i τ3 (nmM 12) (nI (3 * s.1) - 3).toNatClampNeg ≤ g_i τ3 (nmM 0) 24 then some ((0 : Int32), τ3) else (f_X11_fails nmM 4 (g_i τ3 (nmM 0) 25) τ3).bind (fun x => some (x.1, x.2)))) = some ((0 : Int32), τ3) := by
            by_cases h0 : s.1 = 0
            · rw [if_pos (by rw [h0]; decide)]
            · rw [if_neg (by
                show ¬ nI s.1 ≤ nI 0
                rw [nI_le' (by omega) (by omega)]; omega)]
              have k3 : nI (3 * s.1) - 3 = nI (3 * (s.1 - 1)) := (nI_sb (a := 3 * s.1) (b := 3) (by omega)).trans (congrArg nI (by omega))
              rw [k3, gd_t (nI_in' (by omega) (by omega)), nI_cl (by omega), hbef (by omega), o1', if_pos (Int32.le_iff_toInt_le.mpr (by omega))]
          show ∃ x, (if nI s.1 ≤ 0 then some ((0 : Int32), τ3) else gd (vp_in (nI (3 * s.1) - 3) 90) (if g_i τ3 (nmM 12) (nI (3 * s.1) - 3).toNatClampNeg ≤ g_i τ3 (nmM 0) 24 then some ((0 : Int32), τ3) else (f_X11_fails nmM 4 (g_i τ3 (nmM 0) 25) τ3).bind (fun x => some (x.1, x.2)))).bind (fun x => f_X11_takeSong_J120 nmM (nI (3 * s.1)) x.1 x.2) = some x ∧ _
          rw [hcond, bnd]
          obtain ⟨⟨f5, τ5⟩, e5, u5, m5, o6⟩ := mtail (n := s.1) (hC.cg u03 rfl (fun _ => rfl)) (dS.cg u03 rfl (fun _ => rfl)) ht m3.2 (by omega) b32'
          have er : songP F c m lo hi s p = bP (tailP F c m lo hi t) (fun y => .ok ((s.1 + 1, ud3 s.2 s.1 v y.1.1 y.1.2), y.2)) := by unfold songP; rw [eh]; rfl
          rw [er]
          refine ⟨_, e5, ux_tr u03 u5, ?_, fun s' r h => ?_⟩
          · cases htl : tailP F c m lo hi t with
            | error e => rw [htl] at m5; exact m5
            | ok y => rw [htl] at m5; exact m5
          · obtain ⟨⟨⟨x, y⟩, r'⟩, hy, h⟩ := bP_ok h
            have h := Except.ok.inj h
            have h1 : (s.1 + 1, ud3 s.2 s.1 v x y) = s' := congrArg Prod.fst h
            subst h1
            obtain ⟨w1, w2, w3, w4, w5⟩ := o6 x y r' hy
            refine ⟨⟨⟨by show s.1 + 1 ≤ 30; omega, dS.cg (ux_tr u03 u5) rfl (fun _ => rfl)⟩, w2, fun k hk => ?_⟩, w1.trans (o4.trans b20)⟩
            have hk : k < 3 * (s.1 + 1) := hk
            show g_i τ5 113 k = ud3 s.2 s.1 v x y k
            by_cases hk2 : k = 3 * s.1 + 2
            · rw [hk2, ud3_2]; exact w4
            · by_cases hk1 : k = 3 * s.1 + 1
              · rw [hk1, ud3_1]; exact w3
              · rw [w5 k (by omega)]
                by_cases hk0 : k = 3 * s.1
                · rw [hk0, ud3_0]; exact o5
                · rw [ud3_ne (by omega)]
                  show g_i τ3 113 k = _
                  rw [wd_in u3 (by omega), u2 113 _ rfl]
                  exact d2 _ (by omega)
  · rw [if_neg (fun e => hw (hm.mp e))]
    have er : songP F c m lo hi s p = .error (1, p) := by
      unfold songP headP onlyP
      rw [if_neg hw]; rfl
    rw [er]
    exact ⟨_, rfl, wdm (uxM u1 (by omega) (by omega)), ⟨n14_1, rfl, s_i_eq _ _ _ _⟩, fun s' r h => by cases h⟩
