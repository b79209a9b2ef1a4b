/-! round: no more than 59 minutes; the first hum; writing the steps -/
theorem cnt_le {f g : Nat → Bool} : ∀ n, (∀ l, l < n → f l = true → g l = true) → cntB f n ≤ cntB g n
  | 0, _ => Nat.le_refl _
  | n + 1, h => by
    have h1 := cnt_le n (fun l hl => h l (by omega))
    have h2 := h n (by omega)
    unfold cntB
    by_cases e : f n = true
    · rw [if_pos e, if_pos (h2 e)]; omega
    · rw [if_neg e]; split <;> omega
theorem cnt_lt {f g : Nat → Bool} : ∀ n, (∀ l, l < n → f l = true → g l = true) → ∀ i, i < n → f i = false → g i = true → cntB f n < cntB g n
  | 0, _, i, hi, _, _ => absurd hi (Nat.not_lt_zero i)
  | n + 1, h, i, hi, h1, h2 => by
    unfold cntB
    by_cases e : i = n
    · have h3 := cnt_le n (fun l hl => h l (by omega))
      subst e
      rw [if_neg (by rw [h1]; decide), if_pos h2]; omega
    · have h3 := cnt_lt n (fun l hl => h l (by omega)) i (by omega) h1 h2
      by_cases e2 : f n = true
      · rw [if_pos e2, if_pos (h n (by omega) e2)]; omega
      · rw [if_neg e2]; split <;> omega
def missN (S n : Nat) : Nat := cntB (fun l => !S.testBit l) n
theorem fp_bound {W : Nat → Nat → Nat} {n : Nat} (hW : ∀ p t, W p t < 2 ^ n) : ∀ k q S, S < 2 ^ n → FP W (2 ^ n - 1) 0 k q S → ∃ j, j ≤ (49 - q) + missN S n ∧ FP W (2 ^ n - 1) 0 j q S
  | 0, q, S, _, h => ⟨0, Nat.zero_le _, h⟩
  | k + 1, q, S, hS, h => by
    rcases h with h | ⟨nt, h1, h2⟩ | ⟨h1, h2⟩
    · exact ⟨0, Nat.zero_le _, h⟩
    · have hor := Nat.or_lt_two_pow hS (hW q nt)
      obtain ⟨j, hj, hf⟩ := fp_bound hW k q _ hor h2
      by_cases e : S ||| W q nt = S
      · rw [e] at hj hf; exact ⟨j, hj, hf⟩
      · have hne : ¬ ∀ i, (S ||| W q nt).testBit i = true → S.testBit i = true := fun hall => e (sub_antisymm (sub_iff.mpr hall) (sub_iff.mpr (fun i hi => by rw [Nat.testBit_or, hi]; rfl)))
        obtain ⟨i, hi⟩ := Classical.not_forall.mp hne
        have hi1 : (S ||| W q nt).testBit i = true := by
          cases hz : (S ||| W q nt).testBit i with
          | true => rfl
          | false => exact absurd (fun h => by rw [hz] at h; cases h) hi
        have hi2 : S.testBit i = false := by
          cases hz : S.testBit i with
          | false => rfl
          | true => exact absurd (fun _ => hz) hi
        have hin := bit_lt hor hi1
        have hlt : missN (S ||| W q nt) n < missN S n := cnt_lt n (fun l hl hz => by
          cases hs : S.testBit l with
          | false => rfl
          | true =>
            have hz : (!(S ||| W q nt).testBit l) = true := hz
            rw [Nat.testBit_or, hs] at hz
            cases hz) i hin (by show (!(S ||| W q nt).testBit i) = false; rw [hi1]; rfl) (by show (!S.testBit i) = true; rw [hi2]; rfl)
        exact ⟨j + 1, by omega, Or.inr (Or.inl ⟨nt, h1, hf⟩)⟩
    · obtain ⟨j, hj, hf⟩ := fp_bound hW k (q + 1) S hS h2
      exact ⟨j + 1, by omega, Or.inr (Or.inr ⟨h1, hf⟩)⟩
theorem hum_c {nm : Nat → Nat} {W : Nat → Nat → Nat} {pl : Nat → Int} {lo : Int} {n L K p S : Nat} {σ : jS} (hn : n ≤ 10) (hW : WOk W pl lo n) (hm : toNm nm) (h5 : g_i σ 91 5 = nI L) (hL : L < 50) (hp : p ≤ L) (hS : S < 2 ^ n) (hA : AF pl lo n p S) (hT : TP W pl lo n p 0 σ) (hw : ∀ p t, p < 50 → t < 64 → g_i σ 82 (64 * p + t) = nI (W p t)) (hK : K < 1000) (hq : ∀ t v, t < 64 → LsT W n p (S ||| W p t) v → (v = K ↔ Rk W (2 ^ n - 1) K p (S ||| W p t))) : ∃ r, f_X8_firstHum nm (nI p) (nI S) (nI K) σ = some r ∧ ((∃ t, t < 64 ∧ r = nI t ∧ Rk W (2 ^ n - 1) K p (S ||| W p t) ∧ ∀ j, j < t → ¬ Rk W (2 ^ n - 1) K p (S ||| W p j)) ∨ (r = -1 ∧ ∀ j, j < 64 → ¬ Rk W (2 ^ n - 1) K p (S ||| W p j))) := by
  have loop : ∃ y, lp (f_X8_firstHum_L3 nm (nI p) (nI S) (nI K) σ) fu 0 = some y ∧ ((∃ t, t < 64 ∧ y = .inr (nI t) ∧ Rk W (2 ^ n - 1) K p (S ||| W p t) ∧ ∀ j, j < t → ¬ Rk W (2 ^ n - 1) K p (S ||| W p j)) ∨ (y = .inl () ∧ ∀ j, j < 64 → ¬ Rk W (2 ^ n - 1) K p (S ||| W p j))) := by
    suffices wp (lp (f_X8_firstHum_L3 nm (nI p) (nI S) (nI K) σ) fu 0) (fun y => (∃ t, t < 64 ∧ y = .inr (nI t) ∧ Rk W (2 ^ n - 1) K p (S ||| W p t) ∧ ∀ j, j < t → ¬ Rk W (2 ^ n - 1) K p (S ||| W p j)) ∨ (y = .inl () ∧ ∀ j, j < 64 → ¬ Rk W (2 ^ n - 1) K p (S ||| W p j))) by
      obtain ⟨y, e, h⟩ := this
      exact ⟨y, e, h⟩
    refine wp_up 64 (fun t s => s = nI t ∧ ∀ j, j < t → ¬ Rk W (2 ^ n - 1) K p (S ||| W p j)) (i := 0) (by omega) (by omega) ⟨rfl, fun j hj => absurd hj (Nat.not_lt_zero j)⟩ ?_
    rintro t s ht ⟨rfl, hno⟩
    unfold f_X8_firstHum_L3
    show wp (if nI 64 ≤ nI t then some (Sum.inr (Sum.inl ())) else _) _
    refine wp_ite (fun hc => ?_) (fun hc => ?_)
    · rw [nI_le' (by omega) (by omega)] at hc
      exact wp_some (Or.inr ⟨rfl, fun j hj => hno j (by omega)⟩)
    · rw [nI_le' (by omega) (by omega)] at hc
      refine wp_bindE (hat_c (nm := jn nm [1, 2]) hm.2.1 (by omega) (by omega)) ?_
      rw [hw p t (by omega) (by omega), nI_or]
      have hor : S ||| W p t < 2 ^ n := Nat.or_lt_two_pow hS (hW.1 p t)
      obtain ⟨v, ev, hl⟩ := mf_in hn hW hm h5 hL hp hor hT (Nat.zero_le _) (fun l h1 h2 => by
        rw [Nat.testBit_or] at h2
        rcases Bool.or_eq_true_iff.mp h2 with z | z
        · exact hA l h1 z
        · have := hW.2.1 p t l h1 z
          omega)
      have hvb := lst_b hl
      have hiff := hq t v (by omega) hl
      refine wp_bindE ev (wp_ite (fun he => ?_) (fun he => ?_))
      · rw [nI_inj (by omega) (by omega)] at he
        exact wp_some (Or.inl ⟨t, by omega, rfl, hiff.mp he, hno⟩)
      · rw [nI_inj (by omega) (by omega)] at he
        refine wp_some ⟨by omega, nI_1 t, fun j hj => ?_⟩
        by_cases e : j = t
        · rw [e]; exact fun z => he (hiff.mpr z)
        · exact hno j (by omega)
  obtain ⟨y, ey, hy⟩ := loop
  unfold f_X8_firstHum
  rw [ey, bnd]
  rcases hy with ⟨t, h1, rfl, h2⟩ | ⟨rfl, h2⟩
  · exact ⟨nI t, rfl, Or.inl ⟨t, h1, rfl, h2⟩⟩
  · exact ⟨-1, rfl, Or.inr ⟨rfl, h2⟩⟩
def wStp (a k : Nat) : Bool := decide ((a = 91 ∧ k = 6) ∨ (a = 96 ∧ k = 1) ∨ a = 97)
def wSp2 (a k : Nat) : Bool := decide ((a = 96 ∧ k = 1) ∨ a = 97)
theorem steps_c {nm : Nat → Nat} {W : Nat → Nat → Nat} {pl : Nat → Int} {lo : Int} {n L : Nat} {σ : jS} (hn : n ≤ 10) (hlo : 1 ≤ lo) (hW : WOk W pl lo n) (hm : toNm nm) (h5 : g_i σ 91 5 = nI L) (hL : L < 50) (hLl : ∀ l, l < n → pl l - (L : Int) < lo) (hT : ∀ q, q ≤ L → TP W pl lo n q 0 σ) (hw : ∀ p t, p < 50 → t < 64 → g_i σ 82 (64 * p + t) = nI (W p t)) : ∃ τ, f_X8_writeSteps nm σ = some τ ∧ ux wStp σ τ ∧ RT W (2 ^ n - 1) (g_i τ 91 6) (g_i τ 96 1) (g_i τ 97) := by
  have hpw := pow10 hn
  have hp0 := Nat.two_pow_pos n
  have hA0 : AF pl lo n 0 0 := fun l _ h => by rw [Nat.zero_testBit] at h; cases h
  have m0 := hm.1
  have m7 := hm.2.2.2.2.2.2.1
  have m8 := hm.2.2.2.2.2.2.2
  suffices wp (f_X8_writeSteps nm σ) (fun τ => ux wStp σ τ ∧ RT W (2 ^ n - 1) (g_i τ 91 6) (g_i τ 96 1) (g_i τ 97)) by
    obtain ⟨τ, e, h⟩ := this
    exact ⟨τ, e, h⟩
  unfold f_X8_writeSteps
  have ee : f_X4_empty (jn nm [7, 8]) 59 σ = some (s_i σ 96 1 0) := by
    show some (s_i σ (nm 7) 1 0) = _
    rw [m7]
  refine wp_bindE ee ?_
  have u1 : ux wSp2 σ (s_i σ 96 1 0) := ux_s (ux_refl _ _) rfl
  have e96 : g_i (s_i σ 96 1 0) 96 1 = 0 := s_i_eq _ _ _ _
  generalize hs1 : s_i σ 96 1 0 = σ1 at *
  obtain ⟨v, ev, hl⟩ := mf_in (q := 0) (S := 0) (σ := σ1) hn hW hm ((u1 91 5 rfl).trans h5) hL (Nat.zero_le _) hp0 (tp_cg u1 rfl (fun _ _ => rfl) (hT 0 (Nat.zero_le _))) (Nat.zero_le _) hA0
  refine wp_bindE (show f_X8_minutesFrom nm 0 0 σ1 = some (nI v) from ev) ?_
  have hvb := lst_b hl
  rcases hl with ⟨-, hf, hmin⟩ | ⟨hv, hno⟩
  · -- it can be
    obtain ⟨j, hj, hfj⟩ := fp_bound hW.1 v 0 0 hp0 hf
    have hv59 : v ≤ 59 := by
      have h1 : ¬ j < v := fun z => hmin j z hfj
      have h2 : missN 0 n ≤ n := cntB_le _ _
      omega
    have hTm : ∀ j, j < v → ¬ Rk W (2 ^ n - 1) j 0 0 := fun j hj h => hmin j hj (rk_0 h)
    rw [if_neg (show ¬ (100000 : Int32) ≤ nI v from nle_lit (a := 100000) (by omega) (by omega)), bnd]
    unfold f_X8_writeSteps_J26
    refine wp_gd jz1 (wp_bd (fun s4 h4 => wp_bd (fun x5 h5' => wp_bind ?_)))
    rw [m0] at h4
    have u4 : ux wStp σ s4 := by rw [h4]; exact ux_s (ux_w u1 (fun a k hk => decide_eq_false (fun e => (of_decide_eq_false hk) (by omega)))) rfl
    have e6 : g_i s4 91 6 = 1 := by rw [h4]; exact s_i_eq _ _ _ _
    have e96' : g_i s4 96 1 = 0 := by rw [h4]; exact (s_i_a (by decide)).trans e96
    refine wp_lp (fun K s => ∃ k p S, k + K = v ∧ s.1 = nI p ∧ s.2.1 = nI S ∧ s.2.2.1 = nI K - 1 ∧ ux wSp2 s4 s.2.2.2 ∧ g_i s.2.2.2 96 1 = nI k ∧ p ≤ L ∧ S < 2 ^ n ∧ AF pl lo n p S ∧ Pf W k p S ∧ MinR W (2 ^ n - 1) K p S ∧ (∀ st : Nat → Int32, (∀ i, i < k → st i = g_i s.2.2.2 97 i) → Gs W (2 ^ n - 1) st K k p S → Gs W (2 ^ n - 1) st v 0 0 0)) (n := v) (by omega) ⟨0, 0, 0, by omega, rfl, rfl, h5', ux_refl _ _, e96', Nat.zero_le _, hp0, hA0, ⟨rfl, rfl⟩, ⟨fp_rk _ _ _ hf, hTm⟩, fun st _ h => h⟩ ?_
    rintro K ⟨v2, v3, v4, τ⟩ ⟨k, p, S, hk, hv2, hv3, hv4, hu, hsz, hpL, hS, hA, hP, hM, hG⟩
    have hv2 : v2 = nI p := hv2
    have hv3 : v3 = nI S := hv3
    have hv4 : v4 = nI K - 1 := hv4
    have hu : ux wSp2 s4 τ := hu
    have hsz : g_i τ 96 1 = nI k := hsz
    have hG : ∀ st : Nat → Int32, (∀ i, i < k → st i = g_i τ 97 i) → Gs W (2 ^ n - 1) st K k p S → Gs W (2 ^ n - 1) st v 0 0 0 := hG
    subst hv2 hv3 hv4
    have huσ : ux wStp σ τ := ux_tr u4 (ux_w hu (fun a k hk => decide_eq_false (fun e => (of_decide_eq_false hk) (by omega))))
    unfold f_X8_writeSteps_L38
    have e6τ : g_i τ (nm 0) 6 = 1 := by rw [m0]; exact (hu 91 6 rfl).trans e6
    show wp (if g_i τ (nm 0) 6 = 0 then some (Sum.inr τ) else _) _
    rw [e6τ, if_neg i10]
    cases K with
    | zero =>
      rw [if_pos neg1_lt]
      refine wp_some (wp_some ⟨huσ, Or.inr ⟨(hu 91 6 rfl).trans e6, v, hv59, ?_, fp_rk _ _ _ hf, hTm, hG (g_i τ 97) (fun _ _ => rfl) trivial⟩⟩)
      rw [hsz, show k = v by omega]
    | succ K =>
      rw [nI_p1m, if_neg (nI_neg0 (by omega))]
      have low1 : ∀ t, t < 64 → ∀ j, j < K → ¬ Rk W (2 ^ n - 1) j p (S ||| W p t) := fun t ht j hj hc => hM.2 (1 + j) (by omega) (rk_note ht hc)
      obtain ⟨r, er, hr⟩ := hum_c (K := K) (S := S) (σ := τ) hn hW hm ((huσ 91 5 rfl).trans h5) hL hpL hS hA (tp_cg huσ rfl (fun _ _ => rfl) (hT p hpL)) (fun p t h1 h2 => (huσ 82 _ rfl).trans (hw p t h1 h2)) (by omega) (fun t w ht hlw => by
        constructor
        · rintro rfl
          rcases hlw with ⟨-, a2, -⟩ | ⟨a1, -⟩
          · exact fp_rk _ _ _ a2
          · omega
        · intro hc
          have hfp := opt_fw hTm (show k + 1 + K = v by omega) (show Pf W (k + 1) p (S ||| W p t) from Or.inl ⟨t, S, ht, hP, rfl⟩) hc
          have h1 := (lst_f hlw hfp).1
          rcases hlw with ⟨-, a2, -⟩ | ⟨-, a2⟩
          · have : ¬ w < K := fun z => low1 t ht w z (fp_rk _ _ _ a2)
            omega
          · exact absurd hfp (a2 K))
      refine wp_bindE er ?_
      have put : ∀ x : Int32, f_X4_put (jn nm [7, 8]) 59 x τ = some (s_i (s_i τ 97 k x) 96 1 (nI (k + 1))) := fun x => by
        have := row_put (nm := jn nm [7, 8]) (σ := τ) (n := k) (N := 59) (v := x) (by show nm 7 ≠ nm 8; rw [m7, m8]; decide) (by show g_i τ (nm 7) 1 = _; rw [m7]; exact hsz) (by omega) (by omega)
        rw [this]
        show some (s_i (s_i τ (nm 8) k x) (nm 7) 1 (nI (k + 1))) = _
        rw [m7, m8]
      have up : ∀ x : Int32, ux wSp2 s4 (s_i (s_i τ 97 k x) 96 1 (nI (k + 1))) := fun x => ux_s (ux_s hu rfl) rfl
      have ep : ∀ (x : Int32) i, g_i (s_i (s_i τ 97 k x) 96 1 (nI (k + 1))) 97 i = if i = k then x else g_i τ 97 i := fun x i => by
        rw [s_i_a (by decide)]
        by_cases e : i = k
        · rw [e, s_i_eq, if_pos rfl]
        · rw [s_i_k e, if_neg e]
      rcases hr with ⟨t, ht, rfl, h1, h2⟩ | ⟨rfl, h2⟩
      · rw [if_neg (nI_ne_m1 (by omega))]
        refine wp_bindE (put _) (wp_bindE (hat_c (nm := jn nm [1, 2]) hm.2.1 (by omega) ht) (wp_bd (fun x9 h9 => wp_some ?_)))
        rw [up (nI t) 82 _ rfl |>.trans (u4 82 _ rfl), hw p t (by omega) ht, nI_or] at h9
        refine ⟨K, by omega, k + 1, p, S ||| W p t, by omega, rfl, h9, nI_a1 _, up _, s_i_eq _ _ _ _, hpL, Nat.or_lt_two_pow hS (hW.1 p t), fun l hl hb => ?_, Or.inl ⟨t, S, ht, hP, rfl⟩, ⟨h1, low1 t ht⟩, fun st hst hg => hG st (fun i hi => ?_) (Or.inl ⟨t, ht, ?_, h1, h2, hg⟩)⟩
        · rw [Nat.testBit_or] at hb
          rcases Bool.or_eq_true_iff.mp hb with z | z
          · exact hA l hl z
          · have := hW.2.1 p t l hl z
            omega
        · rw [hst i (by omega), ep, if_neg (by omega)]
        · rw [hst k (by omega), ep, if_pos rfl]
      · rw [if_pos rfl]
        have hfp := opt_fw hTm hk hP hM.1
        rcases hfp with ⟨h3, -⟩ | ⟨t, ht, h3⟩ | ⟨h3, h4⟩
        · exact absurd (show Rk W (2 ^ n - 1) 0 p S from h3) (hM.2 0 (by omega))
        · exact absurd (fp_rk _ _ _ h3) (h2 t ht)
        · have hpl : p < L := by
            refine Nat.lt_of_not_le (fun hle => ?_)
            have hpe : p = L := by omega
            have h5 := fw_last hW hLl K (p + 1) S (by omega) hS h4
            rw [← hpe] at h5
            exact hM.2 K (by omega) (fp_rk _ _ _ h5)
          refine wp_bindE (put _) (wp_some ⟨K, by omega, k + 1, p + 1, S, by omega, nI_1 p, rfl, nI_a1 _, up _, s_i_eq _ _ _ _, by omega, hS, fun l hl hb => ?_, Or.inr ⟨p, rfl, h3, hP⟩, ⟨fp_rk _ _ _ h4, fun j hj hc => hM.2 (1 + j) (by omega) (rk_on h3 hc)⟩, fun st hst hg => hG st (fun i hi => ?_) (Or.inr ⟨h2, h3, fp_rk _ _ _ h4, ?_, hg⟩)⟩)
          · have := hA l hl hb
            omega
          · rw [hst i (by omega), ep, if_neg (by omega)]
          · rw [hst k (by omega), ep, if_pos rfl]; rfl
  · -- it can't
    rw [hv, if_pos (show (100000 : Int32) ≤ nI 100000 by decide), bnd]
    unfold f_X8_writeSteps_J26
    refine wp_gd jz0 (wp_bd (fun s4 h4 => wp_bd (fun x5 h5' => wp_bind ?_)))
    rw [m0] at h4
    have u4 : ux wStp σ s4 := by rw [h4]; exact ux_s (ux_w u1 (fun a k hk => decide_eq_false (fun e => (of_decide_eq_false hk) (by omega)))) rfl
    have e6 : g_i s4 91 6 = 0 := by rw [h4]; exact s_i_eq _ _ _ _
    have e96' : g_i s4 96 1 = 0 := by rw [h4]; exact (s_i_a (by decide)).trans e96
    refine wp_lp (fun _ s => s.2.2.2 = s4) (n := 0) (by omega) rfl ?_
    rintro q ⟨v2, v3, v4, τ⟩ hτ
    have hτ : τ = s4 := hτ
    subst hτ
    unfold f_X8_writeSteps_L38
    show wp (if g_i τ (nm 0) 6 = 0 then some (Sum.inr τ) else _) _
    rw [if_pos (by rw [m0]; exact e6)]
    exact wp_some (wp_some ⟨u4, Or.inl ⟨e6, e96', fun k h => hno k (rk_0 h)⟩⟩)
