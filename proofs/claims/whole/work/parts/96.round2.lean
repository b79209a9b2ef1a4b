/-! round: the reference's whole table; its steps -/
def wRd (a k : Nat) : Bool := decide (a = 114 ∨ a = 115 ∨ (a = 101 ∧ (k = 36 ∨ k = 37)))
theorem rd_sc {σ τ : jS} (u : ux wRd σ τ) : ux wSc σ τ := ux_w u (fun a k hk => by
  have hk := of_decide_eq_false hk
  exact decide_eq_false (by omega))
theorem wn_wt (σ : jS) (n : Nat) : Wn σ n = Wt σ n (g_i σ 31 10) := rfl
theorem find_c {n m : Nat} {σ : jS} (hS : RSite n m σ) (hN : RNow n σ) : ∃ τ, f_X11_findRound nmM σ = some τ ∧ ux wRd σ τ ∧ (∀ p t, p < 50 → t < 64 → g_i τ 115 (64 * p + t) = nI (Wn σ n p t) ∧ Wn σ n p t < 2 ^ n) ∧ TR (Wn σ n) n 0 τ := by
  have hn := hS.1.1
  have hp := pow10 hn
  have hlo := hS.2.2.2.2.2.1
  unfold f_X11_findRound
  have l1 : ∃ τ, lp (f_X11_findRound_L2 nmM) fu (0, σ) = some τ ∧ ux (fun a _ => decide (a = 115)) σ τ ∧ ∀ k, k < 3200 → g_i τ 115 k = nI (Wn σ n (k / 64) (k % 64)) := by
    suffices wp (lp (f_X11_findRound_L2 nmM) fu (0, σ)) (fun τ => ux (fun a _ => decide (a = 115)) σ τ ∧ ∀ k, k < 3200 → g_i τ 115 k = nI (Wn σ n (k / 64) (k % 64))) by
      obtain ⟨τ, e, h⟩ := this
      exact ⟨τ, e, h⟩
    refine wp_up 3200 (fun i s => s.1 = nI i ∧ ux (fun a _ => decide (a = 115)) σ s.2 ∧ ∀ k, k < i → g_i s.2 115 k = nI (Wn σ n (k / 64) (k % 64))) (i := 0) (by omega) (by omega) ⟨rfl, ux_refl _ _, fun k hk => absurd hk (Nat.not_lt_zero k)⟩ ?_
    rintro i ⟨v, τ⟩ hi ⟨hv, hu, hk⟩
    have hv : v = nI i := hv
    have hu : ux (fun a _ => decide (a = 115)) σ τ := hu
    have hk : ∀ k, k < i → g_i τ 115 k = nI (Wn σ n (k / 64) (k % 64)) := hk
    subst hv
    unfold f_X11_findRound_L2
    show wp (if nI 3200 ≤ nI i then some (Sum.inr τ) else _) _
    refine wp_ite (fun hc => ?_) (fun hc => ?_)
    · rw [nI_le' (by omega) (by omega)] at hc
      exact wp_some ⟨hu, fun k h => hk k (by omega)⟩
    · rw [nI_le' (by omega) (by omega)] at hc
      obtain ⟨d1, d2⟩ := div64 i (by omega)
      have hm64 : i % 64 < 64 := Nat.mod_lt _ (by omega)
      have h64 : ¬ (64 : Int32) = 0 := by decide
      rw [d2, d1]
      refine wp_gd h64 (wp_gd h64 ?_)
      have usc : ux wSc σ τ := ux_w hu (fun a k hk => by
        have hk := of_decide_eq_false hk
        exact decide_eq_false (by omega))
      have e7 : g_i τ (nmM 0) 7 = g_i σ 31 10 := (hu 101 7 rfl).trans hlo.2
      have hwk := mwk (lo := g_i σ 31 10) (site_sc usc hS) (now_sc usc hN) (show i / 64 < 50 by omega) hm64 hlo.1
      rw [Wt_sc usc] at hwk
      rw [e7]
      refine wp_bindE hwk (wp_gd (nI_in' (by omega) (by omega)) (wp_bd (fun s2 h2 => wp_some ⟨by omega, nI_1 i, ?_, fun k h => ?_⟩)))
      · rw [h2]; exact ux_s hu (decide_eq_true rfl)
      · show g_i s2 115 k = _
        rw [h2, nI_cl (by omega)]
        show g_i (s_i τ 115 i _) 115 k = _
        by_cases e : k = i
        · rw [e, s_i_eq]; rfl
        · rw [s_i_k e]; exact hk k (by omega)
  obtain ⟨τ1, e1, u1, k1⟩ := l1
  rw [e1, bnd]
  have hW : ∀ p t, p < 50 → t < 64 → g_i τ1 115 (64 * p + t) = nI (Wn σ n p t) ∧ Wn σ n p t < 2 ^ n := fun p t hp' ht' => by
    have := k1 (64 * p + t) (by omega)
    rw [show (64 * p + t) / 64 = p by omega, show (64 * p + t) % 64 = t by omega] at this
    exact ⟨this, Wt_lt _ _ _ _ _⟩
  have h0 : g_i τ1 101 0 = nI n := (u1 101 0 rfl).trans hS.2.1.2.2.2.2
  have eall : f_X11_all nmM τ1 = some (nI (2 ^ n) - 1) := by
    show some (((1 : Int32) <<< (g_i τ1 101 0 &&& 31)) - 1) = _
    rw [h0, all_eq n hn]
    exact congrArg some (nI_sb (a := 2 ^ n) (b := 1) (by have := Nat.two_pow_pos n; omega)).symm
  rw [eall, bnd]
  have l2 : ∃ τ, lp (f_X11_findRound_L46 nmM) fu (nI (2 ^ n) - 1, τ1) = some τ ∧ ux w114 τ1 τ ∧ TR (Wn σ n) n 0 τ := by
    suffices wp (lp (f_X11_findRound_L46 nmM) fu (nI (2 ^ n) - 1, τ1)) (fun τ => ux w114 τ1 τ ∧ TR (Wn σ n) n 0 τ) by
      obtain ⟨τ, e, h⟩ := this
      exact ⟨τ, e, h⟩
    refine wp_lp (fun q s => q ≤ 2 ^ n ∧ s.1 = nI q - 1 ∧ ux w114 τ1 s.2 ∧ TR (Wn σ n) n q s.2) (n := 2 ^ n) (by omega) ⟨Nat.le_refl _, rfl, ux_refl _ _, fun T h1 h2 => by omega⟩ ?_
    rintro q ⟨v, τ⟩ ⟨hq, hv, hu, hT⟩
    have hv : v = nI q - 1 := hv
    have hu : ux w114 τ1 τ := hu
    have hT : TR (Wn σ n) n q τ := hT
    subst hv
    unfold f_X11_findRound_L46
    show wp (if nI q - 1 < 0 then some (Sum.inr τ) else _) _
    cases q with
    | zero =>
      rw [if_pos neg1_lt]
      exact wp_some ⟨hu, hT⟩
    | succ S =>
      rw [nI_p1m, if_neg (nI_neg0 (by omega))]
      obtain ⟨ρ1, ρ2, ρ3, r1, r2, r3, ur, hTr⟩ := rset_c (W := Wn σ n) hn ((hu 101 0 rfl).trans h0) (fun p t hp' ht' => by rw [hu 115 _ rfl]; exact hW p t hp' ht') (show S < 2 ^ n by omega) hT
      refine wp_bindE r1 (wp_bindE r2 (wp_bindE r3 (wp_some ⟨S, by omega, by omega, nI_a1 _, ux_tr hu ur, hTr⟩)))
  obtain ⟨τ2, e2, u2, hT⟩ := l2
  rw [e2, bnd]
  refine ⟨τ2, rfl, ?_, fun p t hp' ht' => ?_, hT⟩
  · exact ux_tr (ux_w u1 (fun a k hk => decide_eq_false (fun e => (of_decide_eq_false hk) (by omega)))) (ux_w u2 (fun a k hk => decide_eq_false (fun e => (of_decide_eq_false hk) (by omega))))
  · rw [u2 115 _ rfl]; exact hW p t hp' ht'
/-- K minutes, and no fewer -/
def MinR (W : Nat → Nat → Nat) (all K p S : Nat) : Prop := Rk W all K p S ∧ ∀ j, j < K → ¬ Rk W all j p S
theorem ds_min {W : Nat → Nat → Nat} {all B d K p S : Nat} (h : DS W all B d p S) (hm : MinR W all K p S) : d = K := by
  rcases h with ⟨-, a2, a3⟩ | ⟨-, a2⟩
  · have : ¬ K < d := fun z => a3 K z hm.1
    have : ¬ d < K := fun z => hm.2 d z a2
    omega
  · exact absurd hm.1 (a2 K)
theorem ds_iff {W : Nat → Nat → Nat} {all B d K p S : Nat} (h : DS W all B d p S) (hB : B < 1000000) (hlow : ∀ j, j < K → ¬ Rk W all j p S) (hK : K < 1000000) : d = K ↔ Rk W all K p S := by
  constructor
  · rintro rfl
    rcases h with ⟨-, a2, -⟩ | ⟨a1, -⟩
    · exact a2
    · omega
  · intro hr
    exact ds_min h ⟨hr, hlow⟩
theorem step_c {W : Nat → Nat → Nat} {n K k p S : Nat} {st : Nat → Int32} {τ : jS} (hn : n ≤ 10) (hW : ∀ p t, p < 50 → t < 64 → g_i τ 115 (64 * p + t) = nI (W p t) ∧ W p t < 2 ^ n) (hT : TR W n 0 τ) (h36 : g_i τ 101 36 = nI S) (h37 : g_i τ 101 37 = nI p) (hS : S < 2 ^ n) (hp50 : p < 50) (hK : K < 1000) (hm : MinR W (2 ^ n - 1) (K + 1) p S) (hg : Gs W (2 ^ n - 1) st (K + 1) k p S) : ∃ τ' p' S', f_X11_step nmM τ = some (st k, τ') ∧ ux (fun a k => decide (a = 101 ∧ (k = 36 ∨ k = 37))) τ τ' ∧ g_i τ' 101 36 = nI S' ∧ g_i τ' 101 37 = nI p' ∧ S' < 2 ^ n ∧ p' < 50 ∧ MinR W (2 ^ n - 1) K p' S' ∧ Gs W (2 ^ n - 1) st K (k + 1) p' S' ∧ ((∃ nt, nt < 64 ∧ st k = nI nt ∧ p' = p ∧ S' = S ||| W p nt) ∨ (st k = nI 64 ∧ p' = p + 1 ∧ S' = S)) := by
  have hpw := pow10 hn
  have hp1 := Nat.two_pow_pos n
  obtain ⟨d, b1, e1, l1⟩ := hT S (by omega) hS p hp50
  have hd := ds_min l1 hm
  subst hd
  have low1 : ∀ nt, nt < 64 → ∀ j, j < K → ¬ Rk W (2 ^ n - 1) j p (S ||| W p nt) := fun nt hnt j hj hc => by
    have := rk_note hnt hc
    exact hm.2 (1 + j) (by omega) this
  have low2 : p + 1 < 50 → ∀ j, j < K → ¬ Rk W (2 ^ n - 1) j (p + 1) S := fun hp j hj hc => hm.2 (1 + j) (by omega) (rk_on hp hc)
  have h36' : g_i τ (nmM 0) 36 = nI S := h36
  have h37' : g_i τ (nmM 0) 37 = nI p := h37
  unfold f_X11_step
  rw [h36', h37', n50, gd_t (nI_in' (by omega) (by omega)), bdx, nI_cl (by omega), show g_i τ (nmM 13) (50 * S + p) = nI (K + 1) from e1]
  have eK : nI (K + 1) - 1 = nI K := nI_p1m K
  -- the hums, one after the other
  have loop : ∃ y, lp (f_X11_step_L20 nmM (nI (K + 1))) fu (0, τ) = some y ∧ ((∃ nt, nt < 64 ∧ Rk W (2 ^ n - 1) K p (S ||| W p nt) ∧ (∀ j, j < nt → ¬ Rk W (2 ^ n - 1) K p (S ||| W p j)) ∧ y = .inr (nI nt, s_i τ 101 36 (nI (S ||| W p nt)))) ∨ ((∀ j, j < 64 → ¬ Rk W (2 ^ n - 1) K p (S ||| W p j)) ∧ y = .inl τ)) := by
    suffices wp (lp (f_X11_step_L20 nmM (nI (K + 1))) fu (0, τ)) (fun y => (∃ nt, nt < 64 ∧ Rk W (2 ^ n - 1) K p (S ||| W p nt) ∧ (∀ j, j < nt → ¬ Rk W (2 ^ n - 1) K p (S ||| W p j)) ∧ y = .inr (nI nt, s_i τ 101 36 (nI (S ||| W p nt)))) ∨ ((∀ j, j < 64 → ¬ Rk W (2 ^ n - 1) K p (S ||| W p j)) ∧ y = .inl τ)) by
      obtain ⟨y, e, h⟩ := this
      exact ⟨y, e, h⟩
    refine wp_up 64 (fun t s => s = (nI t, τ) ∧ ∀ j, j < t → ¬ Rk W (2 ^ n - 1) K p (S ||| W p j)) (i := 0) (by omega) (by omega) ⟨rfl, fun j hj => absurd hj (Nat.not_lt_zero j)⟩ ?_
    rintro t s ht ⟨rfl, hno⟩
    unfold f_X11_step_L20
    show wp (if nI 64 ≤ nI t then some (Sum.inr (Sum.inl τ)) else _) _
    refine wp_ite (fun hc => ?_) (fun hc => ?_)
    · rw [nI_le' (by omega) (by omega)] at hc
      exact wp_some (Or.inr ⟨fun j hj => hno j (by omega), rfl⟩)
    · rw [nI_le' (by omega) (by omega)] at hc
      obtain ⟨q1, q2⟩ := hW p t hp50 (by omega)
      rw [h36', h37', n64, nI_cl (show 64 * p + t < 2147483648 by omega), show g_i τ (nmM 14) (64 * p + t) = nI (W p t) from q1]
      refine wp_gd (nI_in' (by omega) (by omega)) (wp_bd (fun x2 h2 => ?_))
      rw [nI_or] at h2
      subst h2
      have hor : S ||| W p t < 2 ^ n := Nat.or_lt_two_pow hS q2
      obtain ⟨d, c1, c2, c3⟩ := hT (S ||| W p t) (by omega) hor p hp50
      rw [n50, nI_cl (show 50 * (S ||| W p t) + p < 2147483648 by omega), show g_i τ (nmM 13) (50 * (S ||| W p t) + p) = nI d from c2, eK]
      refine wp_gd (nI_in' (by omega) (by omega)) ?_
      have hiff := ds_iff c3 (by omega) (low1 t (by omega)) (by omega)
      refine wp_ite (fun he => ?_) (fun he => ?_)
      · rw [nI_inj (by omega) (by omega)] at he
        refine wp_bd (fun s3 h3 => wp_some (Or.inl ⟨t, by omega, hiff.mp he, hno, by rw [h3]; rfl⟩))
      · rw [nI_inj (by omega) (by omega)] at he
        refine wp_some ⟨by omega, by rw [nI_1], fun j hj => ?_⟩
        by_cases e : j = t
        · rw [e]; exact fun z => he (hiff.mpr z)
        · exact hno j (by omega)
  obtain ⟨y, ey, hy⟩ := loop
  rw [ey, bnd]
  rcases hg with ⟨nt, g1, g2, g3, g4, g5⟩ | ⟨g1, g2, g3, g4, g5⟩
  · rcases hy with ⟨nt', a1, a2, a3, rfl⟩ | ⟨a1, -⟩
    · have hnn : nt' = nt := by
        have : ¬ nt' < nt := fun z => g4 nt' z a2
        have : ¬ nt < nt' := fun z => a3 nt z g3
        omega
      subst hnn
      refine ⟨_, p, S ||| W p nt', by rw [g2], ux_s (ux_refl _ _) rfl, s_i_eq _ _ _ _, (s_i_k (by decide)).trans h37, Nat.or_lt_two_pow hS (hW p nt' hp50 a1).2, hp50, ⟨g3, low1 nt' a1⟩, g5, Or.inl ⟨nt', a1, g2, rfl, rfl⟩⟩
    · exact absurd g3 (a1 nt g1)
  · rcases hy with ⟨nt', a1, a2, a3, rfl⟩ | ⟨a1, rfl⟩
    · exact absurd a2 (g1 nt' a1)
    · obtain ⟨d, c1, c2, c3⟩ := hT S (by omega) hS (p + 1) g2
      have hdK : d = K := ds_min c3 ⟨g3, low2 g2⟩
      rw [hdK] at c2
      have eon : (if (49 : Int32) ≤ g_i τ (nmM 0) 37 then f_X11_step_J117 nmM τ else gd (vp_in (((50 * (g_i τ (nmM 0) 36)) + (g_i τ (nmM 0) 37)) + 1) 51200) (if (g_i τ (nmM 13) (((50 * (g_i τ (nmM 0) 36)) + (g_i τ (nmM 0) 37)) + 1).toNatClampNeg) = (nI (K + 1) - 1) then some 1 else f_X11_step_J117 nmM τ)) = some 1 := by
        rw [h36', h37', if_neg (show ¬ (49 : Int32) ≤ nI p from nle_lit (a := 49) (by omega) (by omega)), n50, nI_1, gd_t (nI_in' (by omega) (by omega)), nI_cl (by omega), show g_i τ (nmM 13) (50 * S + p + 1) = nI K from c2, eK, if_pos rfl]
      refine ⟨s_i τ 101 37 (nI (p + 1)), p + 1, S, ?_, ux_s (ux_refl _ _) rfl, (s_i_k (by decide)).trans h36, s_i_eq _ _ _ _, hS, g2, ⟨g3, low2 g2⟩, g5, Or.inr ⟨g4, rfl, rfl⟩⟩
      show (if (49 : Int32) ≤ g_i τ (nmM 0) 37 then f_X11_step_J117 nmM τ else gd (vp_in (((50 * (g_i τ (nmM 0) 36)) + (g_i τ (nmM 0) 37)) + 1) 51200) (if (g_i τ (nmM 13) (((50 * (g_i τ (nmM 0) 36)) + (g_i τ (nmM 0) 37)) + 1).toNatClampNeg) = (nI (K + 1) - 1) then some 1 else f_X11_step_J117 nmM τ)).bind (fun y5 => f_X11_step_J118 nmM y5 τ) = _
      rw [eon, bnd, g4]
      unfold f_X11_step_J118
      rw [if_neg i10, bnd, h37']
      unfold f_X11_step_J133
      rw [bdx, if_neg i10, nI_1]
      rfl
