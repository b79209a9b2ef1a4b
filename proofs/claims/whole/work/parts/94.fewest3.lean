/-! fewest: which notes, reference side; both -/
theorem lf_one {R : Nat → Nat} {n v c M : Nat} (hl : LF R n v M) (h1 : Cv (FN R n) c M) (h2 : ∀ j, j < c → ¬ Cv (FN R n) j M) : v = c := by
  rcases hl with ⟨-, a2, a3⟩ | ⟨-, a2⟩
  · have : ¬ c < v := fun z => a3 c z h1
    have : ¬ v < c := fun z => h2 v z a2
    omega
  · exact absurd h1 (a2 c)
theorem mnof_lp {R : Nat → Nat} {N M c : Nat} {i : Int32} {σ : jS} (hN : N ≤ 10) (hM : M < 2 ^ N) (hT : TF R N 0 σ) (hR : ∀ t, t < 64 → g_i σ 119 t = nI (R t)) (h1 : Cv (FN R 0) c M) (h2 : ∀ j, j < c → ¬ Cv (FN R 0) j M) (hc64 : c ≤ 64) : ∃ y, lp (f_X11_noteOf_L41 nmM i σ) fu (nI M, 0, 0) = some y ∧ ((∃ k, k < c ∧ i = nI k ∧ y = .inr (nI (sqN R c M k))) ∨ ((¬ ∃ k, k < c ∧ i = nI k) ∧ y = .inl ())) := by
  have hp := pow10 hN
  suffices wp (lp (f_X11_noteOf_L41 nmM i σ) fu (nI M, 0, 0)) (fun y => (∃ k, k < c ∧ i = nI k ∧ y = .inr (nI (sqN R c M k))) ∨ ((¬ ∃ k, k < c ∧ i = nI k) ∧ y = .inl ())) by
    obtain ⟨y, e, h⟩ := this
    exact ⟨y, e, h⟩
  refine wp_up 64 (fun n s => ∃ k, k ≤ c ∧ s = (nI (sqM R c M k), nI k, nI n) ∧ Wk R n (sqM R c M k) (c - k) ∧ (∀ k', k' < k → i ≠ nI k')) (i := 0) (by omega) (by omega) ⟨0, by omega, rfl, ⟨by omega, h1, h2, fun l' _ t ht => absurd ht (Nat.not_lt_zero t)⟩, fun k' hk' => absurd hk' (Nat.not_lt_zero k')⟩ ?_
  rintro n s hn ⟨k, hk, rfl, hW, hpast⟩
  unfold f_X11_noteOf_L41
  show wp (if nI 64 ≤ nI n then some (Sum.inr (Sum.inl ())) else _) _
  refine wp_ite (fun hc => ?_) (fun hc => ?_)
  · rw [nI_le' (by omega) (by omega)] at hc
    have hn64 : n = 64 := by omega
    refine wp_some (Or.inr ⟨fun ⟨k', hk', e⟩ => ?_, rfl⟩)
    by_cases hlt : k' < k
    · exact hpast k' hlt e
    · have : c - k = (c - k - 1) + 1 := by omega
      rw [this] at hW
      have := wk_lt hW
      omega
  · rw [nI_le' (by omega) (by omega)] at hc
    have hn64 : n < 64 := by omega
    have hXs := (sq_ok h1 h2 k hk).2.2
    have hXM := sub_le hXs
    have hsqs := sqM_s R c M k
    have hUS : ∀ t, US R (sqM R c M k) (c - k) t = true ↔ Cv (FN R 0) (c - k - 1) (sd (sqM R c M k) (R t)) := fun t => US_t
    have hsq : ∀ n, n < 64 → US R (sqM R c M k) (c - k) n = true → (∀ t, t < n → US R (sqM R c M k) (c - k) t = false) → sqN R c M k = n := fun n a b d => sq_is a b d
    generalize hXe : sqM R c M k = X at hW hXs hXM hsqs hUS hsq
    have hXN : X < 2 ^ N := by omega
    obtain ⟨v, b1, e1, l1⟩ := hT n (by omega) (by omega) X hXN
    obtain ⟨v2, b2, e2, l2⟩ := hT (n + 1) (by omega) (by omega) (sd X (R n)) (sd_lt hXN)
    have hv : v = c - k := lf_one l1 hW.2.1 (fun j hj hc => hW.2.2.1 j hj (fn_0 hc))
    have e1' : g_i σ (nmM 19) (1024 * n + X) = nI v := e1
    have e2' : g_i σ (nmM 19) (1024 * (n + 1) + sd X (R n)) = nI v2 := e2
    have e3 : g_i σ (nmM 18) n = nI (R n) := hR n hn64
    have hsl : sd X (R n) < 2 ^ N := sd_lt hXN
    have one : (1 : Int32) + nI v2 = nI (1 + v2) := by show nI 1 + nI v2 = _; rw [nI_add]
    rw [n1024, nI_cl (show 1024 * n + X < 2147483648 by omega), e1', nI_cl (show n < 2147483648 by omega), e3, nI_1, nI_sd, n1024, nI_cl (show 1024 * (n + 1) + sd X (R n) < 2147483648 by omega), e2', one]
    refine wp_gd (nI_in' (by omega) (by omega)) ?_
    have val : (if nI v ≤ 0 then f_X11_noteOf_J114 nmM i (nI X) (nI k) (nI n) σ else gd (vp_in (nI n) 64) (gd (vp_in (nI (1024 * (n + 1) + sd X (R n))) 66560) (gd (vp_in (nI (1024 * n + X)) 66560) (if nI (1 + v2) = nI v then some (1 : Int32) else f_X11_noteOf_J114 nmM i (nI X) (nI k) (nI n) σ)))) = some (if 0 < v ∧ 1 + v2 = v then 1 else 0) := by
      by_cases hv0 : v = 0
      · rw [if_pos (show nI v ≤ 0 by rw [hv0]; decide), if_neg (by omega)]; rfl
      · rw [if_neg (show ¬ nI v ≤ 0 from fun e => by
          have e : nI v ≤ nI 0 := e
          rw [nI_le' (by omega) (by omega)] at e; omega), gd_t (nI_in' (by omega) (by omega)), gd_t (nI_in' (by omega) (by omega)), gd_t (nI_in' (by omega) (by omega))]
        by_cases he : 1 + v2 = v
        · rw [if_pos (by rw [he]), if_pos ⟨by omega, he⟩]
        · rw [if_neg (fun e => he ((nI_inj (by omega) (by omega)).mp e)), if_neg (fun h => he h.2)]; rfl
    refine wp_bindE val ?_
    unfold f_X11_noteOf_J115
    by_cases his : 0 < v ∧ 1 + v2 = v
    · rw [if_pos his, if_neg i10]
      have hck : c - k = v2 + 1 := by omega
      rw [hck] at hW hUS hsq
      have hCv2 : Cv (FN R (n + 1)) v2 (sd X (R n)) := by
        rcases l2 with ⟨-, a, -⟩ | ⟨a, -⟩
        · exact a
        · omega
      obtain ⟨hW2, huse⟩ := wk_is hW hCv2
      have hq : sqN R c M k = n := hsq n hn64 ((hUS n).mpr huse) (fun t ht => by
        cases hb : US R X (v2 + 1) t with
        | false => rfl
        | true => exact absurd ((hUS t).mp hb) (hW.2.2.2 v2 rfl t ht))
      by_cases hi : nI k = i
      · rw [if_pos hi]
        refine wp_some (Or.inl ⟨k, by omega, hi.symm, by rw [hq]⟩)
      · rw [if_neg hi]
        refine wp_gd (nI_in' (by omega) (by omega)) (wp_bd (fun x3 h3 => wp_some ⟨by omega, k + 1, by omega, ?_, ?_, fun k' hk' => ?_⟩))
        · rw [h3, nI_cl (by omega), e3, nI_sd, nI_1, nI_1, hsqs, hq]
        · rw [hsqs, hq, show c - (k + 1) = v2 by omega]; exact hW2
        · by_cases e : k' = k
          · rw [e]; exact fun z => hi z.symm
          · exact hpast k' (by omega)
    · rw [if_neg his, if_pos rfl]
      refine wp_some ⟨by omega, k, hk, by rw [nI_1, hXe], ?_, hpast⟩
      rw [hXe]
      cases hck : c - k with
      | zero =>
        rw [hck] at hW
        obtain ⟨w1, w2, w3, w4⟩ := hW
        exact ⟨by omega, w2, w3, fun l' hl' => by omega⟩
      | succ l =>
        rw [hck] at hW
        refine (wk_no hW (fun hcv => his ?_)).1
        have hv2 : v2 ≤ l := by
          rcases l2 with ⟨-, -, a⟩ | ⟨-, a⟩
          · exact Nat.le_of_not_lt (fun z => a l z hcv)
          · exact absurd hcv (a l)
        have hge : ¬ v2 < l := fun z => by
          rcases l2 with ⟨-, a, -⟩ | ⟨a, -⟩
          · exact hW.2.2.1 (v2 + 1) (by omega) (fn_add hn64 (fn_0 a))
          · omega
        omega
theorem mnof_c {R : Nat → Nat} {N M : Nat} {i : Int32} {σ : jS} (hN : N ≤ 10) (hM : M < 2 ^ N) (hT : TF R N 0 σ) (hR : ∀ t, t < 64 → g_i σ 119 t = nI (R t)) : ((∀ j, ¬ Cv (FN R 0) j M) ∧ f_X11_noteOf nmM (nI M) i σ = some (-1)) ∨ ∃ c, c ≤ 64 ∧ Cv (FN R 0) c M ∧ (∀ j, j < c → ¬ Cv (FN R 0) j M) ∧ ((i = -1 ∧ f_X11_noteOf nmM (nI M) i σ = some (nI c)) ∨ (i ≠ -1 ∧ ((∃ k, k < c ∧ i = nI k ∧ f_X11_noteOf nmM (nI M) i σ = some (nI (sqN R c M k))) ∨ ((¬ ∃ k, k < c ∧ i = nI k) ∧ f_X11_noteOf nmM (nI M) i σ = some (-1))))) := by
  have hp := pow10 hN
  obtain ⟨v, b1, e1, l1⟩ := hT 0 (by omega) (by omega) M hM
  have e1' : g_i σ (nmM 19) M = nI v := by
    have : 1024 * 0 + M = M := by omega
    rw [this] at e1; exact e1
  unfold f_X11_noteOf
  rw [gd_t (nI_in' (by omega) (by omega)), bdx, nI_cl (by omega), e1']
  rcases l1 with ⟨a1, a2, a3⟩ | ⟨a1, a2⟩
  · refine Or.inr ⟨v, by omega, a2, a3, ?_⟩
    rw [if_neg (show ¬ (1000000 : Int32) ≤ nI v from fun e => by
      have e : nI 1000000 ≤ nI v := e
      rw [nI_le' (by omega) (by omega)] at e; omega)]
    by_cases hi : i = -1
    · rw [if_pos hi]
      refine Or.inl ⟨hi, ?_⟩
      unfold f_X11_noteOf_J19
      rw [if_pos (show nI v < (1000000 : Int32) from (nI_lt' (b := 1000000) (by omega) (by omega)).mpr (by omega))]
    · rw [if_neg hi]
      refine Or.inr ⟨hi, ?_⟩
      obtain ⟨y, ey, hy⟩ := mnof_lp (i := i) hN hM hT hR a2 a3 (by omega)
      rw [ey, bnd]
      rcases hy with ⟨k, hk, hik, rfl⟩ | ⟨hno, rfl⟩
      · exact Or.inl ⟨k, hk, hik, rfl⟩
      · exact Or.inr ⟨hno, rfl⟩
  · refine Or.inl ⟨a2, ?_⟩
    rw [if_pos (show (1000000 : Int32) ≤ nI v from (nI_le' (a := 1000000) (by omega) (by omega)).mpr (by omega))]
    unfold f_X11_noteOf_J19
    rw [if_neg (show ¬ nI v < (1000000 : Int32) from fun e => by
      have e : nI v < nI 1000000 := e
      rw [nI_lt' (by omega) (by omega)] at e; omega)]
theorem st_fewest (a b l i : Int32) : sII Rel (fun σ => f_X10_fewest nmX a b l i σ) (fun σ => f_X11_fewest nmM a b l i σ) := by
  intro σ hR
  obtain ⟨n, m, hS, hN⟩ := rel_s hR
  have hp := pow10 hS.1.1
  show ∃ r σ1 τ, f_X10_fewest nmX a b l i σ = some (r, σ1) ∧ f_X11_fewest nmM a b l i σ1 = some (r, τ) ∧ Rel τ
  unfold f_X10_fewest f_X11_fewest
  obtain ⟨v1, e1, e2, hv1⟩ := known_eq hS a
  obtain ⟨v2, e3, e4, hv2⟩ := known_eq hS b
  obtain ⟨w, e5, e6, hw⟩ := loud_eq l
  rw [e1, bnd]
  rcases hv1 with ⟨rfl, A, hA, rfl⟩ | ⟨rfl, -⟩
  · rw [if_neg i10, e3, bnd]
    rcases hv2 with ⟨rfl, B, hB, rfl⟩ | ⟨rfl, -⟩
    · rw [if_neg i10, e5, bnd]
      rcases hw with ⟨rfl, hlo⟩ | ⟨rfl, -⟩
      · rw [if_neg i10]
        obtain ⟨τ1, q1, u1, k1⟩ := listen_c hearX (sok hS hN.1) hlo
        rw [q1, bnd]
        have hWl : ∀ p t, Wt σ n l p t < 2 ^ 10 := fun p t => by have := Wt_lt σ n l p t; omega
        obtain ⟨r, τ2, q2, u2, hr⟩ := notes_c (W := Wt σ n l) (from' := A) (to := B) (σ := τ1) whX (fun p t hp' ht' => ⟨k1 p t hp' ht', hWl p t⟩) hWl (by omega) (by omega)
        rw [q2, bnd]
        have u02 : ux wSc σ τ2 := ux_tr (sc82 u1) (ux_w u2 (fun a k hk => by
          have hk := of_decide_eq_false hk
          exact decide_eq_false (by omega)))
        have hSτ := site_sc u02 hS
        have hNτ := now_sc u02 hN
        have hRτ := rel_sc u02 hR
        have hsub : (nI A &&& (nI B ^^^ (-1))) = 0 ↔ sub A B := nI_sub (Nat.lt_of_lt_of_le (show A < 1024 by omega) (by decide))
        have pre : ∀ (x : Option (Int32 × jS)), (if (nI A &&& (nI B ^^^ (-1))) = 0 then (lp (f_X11_fewest_L44 nmM (nI A) (nI B) l i) fu (0, τ2)).bind (fun s9 => (lp (f_X11_fewest_L125 nmM (nI A) (nI B) i) fu (64, s9)).bind (fun s16 => (f_X11_noteOf nmM (nI B &&& (nI A ^^^ (-1))) i s16).bind (fun q17 => some (q17, s16)))) else some ((-1), τ2)) = x → (f_X11_areLamps nmM (nI A) τ2).bind (fun q1 => if q1 = 0 then some ((-1001), τ2) else (f_X11_areLamps nmM (nI B) τ2).bind (fun q2 => if q2 = 0 then some ((-1001), τ2) else (f_X11_isLoud l).bind (fun q3 => if q3 = 0 then some ((-1002), τ2) else if (nI A &&& (nI B ^^^ (-1))) = 0 then (lp (f_X11_fewest_L44 nmM (nI A) (nI B) l i) fu (0, τ2)).bind (fun s9 => (lp (f_X11_fewest_L125 nmM (nI A) (nI B) i) fu (64, s9)).bind (fun s16 => (f_X11_noteOf nmM (nI B &&& (nI A ^^^ (-1))) i s16).bind (fun q17 => some (q17, s16)))) else some ((-1), τ2)))) = x := fun x hx => by
          obtain ⟨y1, -, y2, hy⟩ := known_eq hSτ (nI A)
          rcases hy with ⟨rfl, -⟩ | ⟨rfl, hy⟩
          · obtain ⟨y3, -, y4, hy3⟩ := known_eq hSτ (nI B)
            rcases hy3 with ⟨rfl, -⟩ | ⟨rfl, hy3⟩
            · rw [y2, bnd, if_neg i10, y4, bnd, if_neg i10, e6, bnd, if_neg i10]; exact hx
            · exact absurd ⟨B, hB, rfl⟩ hy3
          · exact absurd ⟨A, hA, rfl⟩ hy
        show ∃ r' σ1 τ, (if i = -1 then some (r, τ2) else if i < 0 then some (-1, τ2) else if r ≤ i then some (-1, τ2) else (f_X9_noteOfFewest (jn nmX [83, 81, 82, 84, 85, 86, 87, 88, 89, 90]) (nI B &&& (nI A ^^^ (-1))) i τ2).bind (fun q7 => some (q7, τ2))) = some (r', σ1) ∧ _
        have z1 : (-1 : Int32).toInt = -1 := by decide
        have neg : r = -1 → (if i = -1 then some (r, τ2) else if i < 0 then some (-1, τ2) else if r ≤ i then some (-1, τ2) else (f_X9_noteOfFewest (jn nmX [83, 81, 82, 84, 85, 86, 87, 88, 89, 90]) (nI B &&& (nI A ^^^ (-1))) i τ2).bind (fun q7 => some (q7, τ2))) = some (-1, τ2) := fun h => by
          rw [h]
          by_cases h1 : i = -1
          · rw [if_pos h1]
          · rw [if_neg h1]
            by_cases h2 : i < 0
            · rw [if_pos h2]
            · rw [if_neg h2, if_pos]
              have := mt lt0.mpr h2
              rw [Int32.le_iff_toInt_le, z1]; omega
        rcases hr with ⟨s1, hr⟩ | ⟨s1, v, hv, hl, hTL, h90, hr⟩
        · rw [neg hr]
          refine ⟨_, τ2, τ2, rfl, pre _ ?_, hRτ⟩
          rw [if_neg (fun e => s1 (hsub.mp e))]
        · obtain ⟨τ3, q3, u3, k3⟩ := mreach_c (a0 := nI A) (v4 := i) hSτ hNτ hlo hB
          rw [Wt_sc u02] at k3
          obtain ⟨τ4, q4, u4, hT4⟩ := mtab_c (a0 := nI A) (b0 := nI B) (v4 := i) (R := Rn (Wt σ n l) B) hS.1.1 ((u3 101 0 rfl).trans hSτ.2.1.2.2.2.2) k3
          have hR4 : Rel τ4 := rel_sc (ux_tr (ux_w u3 (fun a k hk => by
            have hk := of_decide_eq_false hk
            exact decide_eq_false (by omega))) (ux_w u4 (fun a k hk => by
            have hk := of_decide_eq_false hk
            exact decide_eq_false (by omega)))) hRτ
          have hMl : sd B A < 2 ^ n := sd_lt hB
          have fin : ∀ r', f_X11_noteOf nmM (nI (sd B A)) i τ4 = some r' → (if (nI A &&& (nI B ^^^ (-1))) = 0 then (lp (f_X11_fewest_L44 nmM (nI A) (nI B) l i) fu (0, τ2)).bind (fun s9 => (lp (f_X11_fewest_L125 nmM (nI A) (nI B) i) fu (64, s9)).bind (fun s16 => (f_X11_noteOf nmM (nI B &&& (nI A ^^^ (-1))) i s16).bind (fun q17 => some (q17, s16)))) else some ((-1), τ2)) = some (r', τ4) := fun r' h => by
            rw [if_pos (hsub.mpr s1), q3, bnd, q4, bnd, nI_sd, h, bnd]
          rcases mnof_c (i := i) hS.1.1 hMl hT4 (fun t ht => (u4 119 t rfl).trans (k3 t ht)) with ⟨hno, en⟩ | ⟨c, hc, hc1, hc2, hcase⟩
          · have hv2 : ¬ v < 100000 := fun z => by
              rcases hl with ⟨-, a2, -⟩ | ⟨a1, -⟩
              · exact hno v a2
              · omega
            rw [if_neg hv2] at hr
            rw [neg hr]
            exact ⟨_, τ2, τ4, rfl, pre _ (fin _ en), hR4⟩
          · have hvc : v = c := lst_one hl hc1 hc2
            rw [hvc, if_pos (by omega)] at hr
            rw [hr]
            rcases hcase with ⟨hi, en⟩ | ⟨hi, ⟨k, hk, hik, en⟩ | ⟨hnk, en⟩⟩
            · rw [if_pos hi]
              exact ⟨_, τ2, τ4, rfl, pre _ (fin _ en), hR4⟩
            · subst hik
              have hnf : f_X9_noteOfFewest (jn nmX [83, 81, 82, 84, 85, 86, 87, 88, 89, 90]) (nI B &&& (nI A ^^^ (-1))) (nI k) τ2 = some (nI (sqN (Rn (Wt σ n l) B) c (sd B A) k)) := by
                rw [nI_sd]; exact nof_c whX (by omega) hTL h90 (fun t => Rn_lt (n := 10) hWl) hc1 hc2 hk (by omega)
              rw [if_neg hi, if_neg (nI_neg0 (by omega)), if_neg (by rw [nI_le' (by omega) (by omega)]; omega), hnf, bnd]
              exact ⟨_, τ2, τ4, rfl, pre _ (fin _ en), hR4⟩
            · have hx : (if i < 0 then some ((-1 : Int32), τ2) else if nI c ≤ i then some (-1, τ2) else (f_X9_noteOfFewest (jn nmX [83, 81, 82, 84, 85, 86, 87, 88, 89, 90]) (nI B &&& (nI A ^^^ (-1))) i τ2).bind (fun q7 => some (q7, τ2))) = some (-1, τ2) := by
                by_cases h2 : i < 0
                · rw [if_pos h2]
                · rw [if_neg h2, if_pos]
                  have h3 := mt lt0.mpr h2
                  rw [Int32.le_iff_toInt_le, nI_ti (by omega)]
                  refine Int.not_lt.mp (fun h4 => hnk ?_)
                  exact (nI_iff (a := i) (n := c) (by omega)).mpr ⟨by omega, h4⟩
              rw [if_neg hi, hx]
              exact ⟨_, τ2, τ4, rfl, pre _ (fin _ en), hR4⟩
      · rw [if_pos rfl]
        refine ⟨_, σ, σ, rfl, ?_, hR⟩
        rw [e2, bnd, if_neg i10, e4, bnd, if_neg i10, e6, bnd, if_pos rfl]
    · rw [if_pos rfl]
      refine ⟨_, σ, σ, rfl, ?_, hR⟩
      rw [e2, bnd, if_neg i10, e4, bnd, if_pos rfl]
  · rw [if_pos rfl]
    refine ⟨_, σ, σ, rfl, ?_, hR⟩
    rw [e2, bnd, if_pos rfl]
