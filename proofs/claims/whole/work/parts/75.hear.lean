/-! what all sounds wake, worked out at once -/
theorem ti_min {x y : Int32} : (imin x y).toInt = min x.toInt y.toInt := by
  unfold imin
  by_cases h : y < x
  · rw [if_pos h]; have := Int32.lt_iff_toInt_lt.mp h; omega
  · rw [if_neg h]; have := mt Int32.lt_iff_toInt_lt.mpr h; omega
theorem ti_max {x y : Int32} : (imax x y).toInt = max x.toInt y.toInt := by
  unfold imax
  by_cases h : x < y
  · rw [if_pos h]; have := Int32.lt_iff_toInt_lt.mp h; omega
  · rw [if_neg h]; have := mt Int32.lt_iff_toInt_lt.mpr h; omega
theorem nI_oft {x : Int32} (h : 0 ≤ x.toInt) : x = nI x.toInt.toNat := by
  have hx : x.toInt < 2147483648 := by have := Int32.toInt_lt x; exact this
  apply Int32.toInt_inj.mp
  rw [nI_ti (by omega)]; omega
theorem fill_c0 {nm : Nat → Nat} {N cell : Nat} {v : Int32} {σ : jS} (h0 : nm 0 = cell) (hN : N < 100000) : ∃ τ, f_J7_fill_53178 nm N v σ = some τ ∧ ux (fun a _ => decide (a = cell)) σ τ ∧ ∀ k, k < N → g_i τ cell k = v := by
  suffices wp (f_J7_fill_53178 nm N v σ) (fun τ => ux (fun a _ => decide (a = cell)) σ τ ∧ ∀ k, k < N → g_i τ cell k = v) by
    obtain ⟨τ, e, h⟩ := this
    exact ⟨τ, e, h⟩
  unfold f_J7_fill_53178
  refine wp_bd (fun x hx => wp_bind ?_)
  rw [hx]
  refine wp_up N (fun i s => s.1 = nI i ∧ ux (fun a _ => decide (a = cell)) σ s.2 ∧ ∀ k, k < i → g_i s.2 cell k = v) (i := 0) (by omega) (by omega) ⟨rfl, ux_refl _ _, fun k hk => absurd hk (Nat.not_lt_zero k)⟩ ?_
  rintro i ⟨w, τ⟩ hi ⟨hw, hu, hk⟩
  have hw : w = nI i := hw
  have hu : ux (fun a _ => decide (a = cell)) σ τ := hu
  subst hw
  unfold f_J7_fill_53178_L5
  show wp (if nI N ≤ nI i then some (Sum.inr τ) else _) _
  refine wp_ite (fun hc => ?_) (fun hc => ?_)
  · rw [nI_le' (by omega) (by omega)] at hc
    exact wp_some (wp_some ⟨hu, fun k h => hk k (by omega)⟩)
  · rw [nI_le' (by omega) (by omega)] at hc
    refine wp_gd (nI_in' (by omega) (by omega)) (wp_bd (fun s hs => wp_some ⟨by omega, nI_1 i, ?_, fun k h => ?_⟩))
    · rw [hs, h0]; exact ux_s hu (decide_eq_true rfl)
    · show g_i s cell k = v
      rw [hs, h0, nI_cl (by omega)]
      by_cases hki : k = i
      · rw [hki]; exact s_i_eq _ _ _ _
      · rw [s_i_k hki]; exact hk k (by omega)
theorem hear_c {nm : Nat → Nat} {P : Nat} {e w B : Int32} {σ : jS} (h1 : nm 1 = 82) (hP : P < 50) (he : -45 ≤ e.toInt ∧ e.toInt ≤ 63) (hw : 0 ≤ w.toInt ∧ w.toInt ≤ 9) : ∃ τ, f_X1_hearFrom nm (nI P) e w B σ = some τ ∧ ux (fun a k => decide (a = 82 ∧ 64 * P ≤ k ∧ k < 64 * P + 64)) σ τ ∧ ∀ t, t < 64 → g_i τ 82 (64 * P + t) = if (e.toInt - t).natAbs ≤ w.toInt then g_i σ 82 (64 * P + t) ||| B else g_i σ 82 (64 * P + t) := by
  suffices wp (f_X1_hearFrom nm (nI P) e w B σ) (fun τ => ux (fun a k => decide (a = 82 ∧ 64 * P ≤ k ∧ k < 64 * P + 64)) σ τ ∧ ∀ t, t < 64 → g_i τ 82 (64 * P + t) = if (e.toInt - t).natAbs ≤ w.toInt then g_i σ 82 (64 * P + t) ||| B else g_i σ 82 (64 * P + t)) by
    obtain ⟨τ, e, h⟩ := this
    exact ⟨τ, e, h⟩
  unfold f_X1_hearFrom
  refine wp_bd (fun x1 hx1 => wp_bd (fun x2 hx2 => wp_bind ?_))
  have l63 : (63 : Int32).toInt = 63 := by decide
  have l0 : (0 : Int32).toInt = 0 := by decide
  have a1 : (e + w).toInt = e.toInt + w.toInt := ti_add (by omega) (by omega)
  have a2 : (e - w).toInt = e.toInt - w.toInt := ti_sub (by omega) (by omega)
  have b1 : x1.toInt = min (e.toInt + w.toInt) 63 := by rw [hx1, ti_min, a1, l63]
  have b2 : x2.toInt = max (e.toInt - w.toInt) 0 := by rw [hx2, ti_max, a2, l0]
  have b3 : x2 = nI x2.toInt.toNat := nI_oft (by omega)
  rw [b3]
  generalize hT0 : x2.toInt.toNat = T0
  have hN : ∃ N : Nat, x1.toInt < N ∧ (N : Int) = max (x1.toInt + 1) 0 := ⟨(max (x1.toInt + 1) 0).toNat, by omega, by omega⟩
  obtain ⟨N, -, hN⟩ := hN
  refine wp_up N (fun T s => s.1 = nI T ∧ T0 ≤ T ∧ ux (fun a k => decide (a = 82 ∧ 64 * P ≤ k ∧ k < 64 * P + 64)) σ s.2 ∧ ∀ t, t < 64 → g_i s.2 82 (64 * P + t) = if T0 ≤ t ∧ t < T then g_i σ 82 (64 * P + t) ||| B else g_i σ 82 (64 * P + t)) (i := T0) (by omega) (by omega) ⟨rfl, Nat.le_refl _, ux_refl _ _, fun t ht => by rw [if_neg (by omega)]⟩ ?_
  rintro T ⟨v, τ⟩ hT ⟨hv, hT0T, hu, hk⟩
  have hv : v = nI T := hv
  have hu : ux (fun a k => decide (a = 82 ∧ 64 * P ≤ k ∧ k < 64 * P + 64)) σ τ := hu
  have hk : ∀ t, t < 64 → g_i τ 82 (64 * P + t) = if T0 ≤ t ∧ t < T then g_i σ 82 (64 * P + t) ||| B else g_i σ 82 (64 * P + t) := hk
  subst hv
  unfold f_X1_hearFrom_L19
  show wp (if x1 < nI T then some (Sum.inr τ) else _) _
  refine wp_ite (fun hc => ?_) (fun hc => ?_)
  · have hc := Int32.lt_iff_toInt_lt.mp hc
    rw [nI_ti (by omega)] at hc
    refine wp_some (wp_some ⟨hu, fun t ht => ?_⟩)
    rw [hk t ht]
    by_cases h : (e.toInt - t).natAbs ≤ w.toInt
    · rw [if_pos h, if_pos (by omega)]
    · rw [if_neg h, if_neg (by omega)]
  · have hc := mt Int32.lt_iff_toInt_lt.mpr hc
    rw [nI_ti (by omega)] at hc
    have ix : nI P * 64 + nI T = nI (64 * P + T) := by
      rw [show nI P * 64 = nI (P * 64) from nI_mul P 64, nI_add, Nat.mul_comm]
    rw [ix]
    refine wp_gd (nI_in' (by omega) (by omega)) (wp_gd (nI_in' (by omega) (by omega)) (wp_bd (fun s hs => wp_some ⟨by omega, nI_1 T, by omega, ?_, fun t ht => ?_⟩)))
    · rw [hs, h1, nI_cl (by omega)]
      exact ux_s hu (decide_eq_true ⟨rfl, by omega, by omega⟩)
    · show g_i s 82 (64 * P + t) = _
      rw [hs, h1, nI_cl (by omega)]
      by_cases htT : t = T
      · subst htT
        rw [s_i_eq, hk t ht, if_neg (by omega), if_pos (by omega)]
      · rw [s_i_k (by omega), hk t ht]
        by_cases h : T0 ≤ t ∧ t < T
        · rw [if_pos h, if_pos (by omega)]
        · rw [if_neg h, if_neg (by omega)]
/-- the cells of a call of listen: sets, the moment, the quay -/
def hearNm (nm : Nat → Nat) : Prop := nm 1 = 82 ∧ nm 4 = 32 ∧ nm 5 = 33 ∧ nm 8 = 36 ∧ nm 9 = 37 ∧ momNm (jn nm [2, 3, 4, 5, 6, 7, 8, 9, 10, 11, 12, 13, 14, 15, 16, 17, 18, 19, 20, 21, 22, 23]) 57
def w82 (a _k : Nat) : Bool := decide (a = 82)
theorem sok_cg {b n : Nat} {σ τ : jS} {W : Nat → Nat → Bool} (hu : ux W σ τ) (h1 : ∀ a k, 31 ≤ a → a ≤ 61 → W a k = false) (hb : b = 57) (h : SoundOk σ b n) : SoundOk τ b n := by
  subst hb
  obtain ⟨a, b, d, e, f, g⟩ := h
  have q : ∀ a k, 31 ≤ a → a ≤ 61 → g_i τ a k = g_i σ a k := fun a k x y => hu a k (h1 a k x y)
  refine ⟨a, (q _ _ (by omega) (by omega)).trans b, (q _ _ (by omega) (by omega)).trans d, (q _ _ (by omega) (by omega)).trans e, fun l hl => ?_, ?_⟩
  · rw [q 33 l (by omega) (by omega), q 37 l (by omega) (by omega), q 39 l (by omega) (by omega), q (57 + 1) l (by omega) (by omega)]; exact f l hl
  · rw [q 57 6 (by omega) (by omega)]; exact g
theorem listen_c {nm : Nat → Nat} {n : Nat} {lo : Int32} {σ : jS} (hm : hearNm nm) (hs : SoundOk σ 57 n) (hlo : rg lo 1 50) : ∃ τ, f_X1_listen nm lo σ = some τ ∧ ux w82 σ τ ∧ ∀ p t, p < 50 → t < 64 → g_i τ 82 (64 * p + t) = nI (bs (hd σ 57 p t lo.toInt) n) := by
  obtain ⟨m1, m4, m5, m8, m9, mm⟩ := hm
  obtain ⟨lo1, lo2⟩ := hlo
  suffices wp (f_X1_listen nm lo σ) (fun τ => ux w82 σ τ ∧ ∀ p t, p < 50 → t < 64 → g_i τ 82 (64 * p + t) = nI (bs (hd σ 57 p t lo.toInt) n)) by
    obtain ⟨τ, e, h⟩ := this
    exact ⟨τ, e, h⟩
  have hn := hs.1
  unfold f_X1_listen
  obtain ⟨σ1, e1, u1, z1⟩ := fill_c0 (nm := jn nm [1]) (N := 3200) (cell := 82) (v := 0) (σ := σ) m1 (by omega)
  refine wp_bindE e1 (wp_bind ?_)
  refine wp_up n (fun i s => s.1 = nI i ∧ ux w82 σ s.2 ∧ ∀ p t, p < 50 → t < 64 → g_i s.2 82 (64 * p + t) = nI (bs (hd σ 57 p t lo.toInt) i)) (i := 0) (by omega) (by omega) ⟨rfl, (show ux w82 σ σ1 from u1), fun p t hp ht => z1 _ (by omega)⟩ ?_
  rintro i ⟨v, τ⟩ hi ⟨hv, hu, hk⟩
  have hv : v = nI i := hv
  have hu : ux w82 σ τ := hu
  have hk : ∀ p t, p < 50 → t < 64 → g_i τ 82 (64 * p + t) = nI (bs (hd σ 57 p t lo.toInt) i) := hk
  subst hv
  have hsτ : SoundOk τ 57 n := sok_cg hu (fun a k h1 h2 => decide_eq_false (by omega)) rfl hs
  unfold f_X1_listen_L10
  have hla : f_X6_lamps (jn nm [3, 4, 5, 6, 7, 8, 9, 10, 11, 12, 13, 14, 15, 16, 17, 18, 19]) τ = some (nI n) := by
    show some (g_i τ (nm 4) 1) = _
    rw [m4, hsτ.2.1]
  show wp ((f_X6_lamps (jn nm [3, 4, 5, 6, 7, 8, 9, 10, 11, 12, 13, 14, 15, 16, 17, 18, 19]) τ).bind _) _
  refine wp_bindE hla ?_
  refine wp_ite (fun hc => ?_) (fun hc => ?_)
  · rw [nI_le' (by omega) (by omega)] at hc
    have : i = n := by omega
    subst this
    exact wp_some (wp_some ⟨hu, hk⟩)
  · rw [nI_le' (by omega) (by omega)] at hc
    have hin : i < n := by omega
    have hpl : f_X4_at (jn nm [4, 5]) 10 (nI i) τ = some (g_i σ 33 i) := by
      have := row_atI (nm := jn nm [4, 5]) (σ := τ) (n := n) (N := 10) (k := i) (by show g_i τ (nm 4) 1 = _; rw [m4]; exact hsτ.2.1) hn (by omega) hin
      rw [this]
      show some (g_i τ (nm 5) i) = _
      rw [m5, hu 33 i rfl]
    refine wp_bindE hpl (wp_bd (fun x4 h4 => wp_bd (fun x5 h5 => wp_bind ?_)))
    obtain ⟨⟨p1, p2⟩, ⟨p3, p4⟩, -, -⟩ := hs.2.2.2.2.1 i hin
    have l49 : (49 : Int32).toInt = 49 := by decide
    have l1 : (1 : Int32).toInt = 1 := by decide
    have l0 : (0 : Int32).toInt = 0 := by decide
    have c1 : (g_i σ 33 i + lo).toInt = (g_i σ 33 i).toInt + lo.toInt := ti_add (by omega) (by omega)
    have c2 : (g_i σ 33 i + lo - 1).toInt = (g_i σ 33 i).toInt + lo.toInt - 1 := by rw [ti_sub (by omega) (by omega), c1, l1]
    have c3 : (g_i σ 33 i - lo).toInt = (g_i σ 33 i).toInt - lo.toInt := ti_sub (by omega) (by omega)
    have c4 : (g_i σ 33 i - lo + 1).toInt = (g_i σ 33 i).toInt - lo.toInt + 1 := by rw [ti_add (by omega) (by omega), c3, l1]
    have b4 : x4.toInt = min ((g_i σ 33 i).toInt + lo.toInt - 1) 49 := by rw [h4, ti_min, c2, l49]
    have b5 : x5.toInt = max ((g_i σ 33 i).toInt - lo.toInt + 1) 0 := by rw [h5, ti_max, c4, l0]
    have b6 : x5 = nI x5.toInt.toNat := nI_oft (by omega)
    rw [b6]
    generalize hP0 : x5.toInt.toNat = P0
    obtain ⟨N, hN⟩ : ∃ N : Nat, (N : Int) = x4.toInt + 1 := ⟨(x4.toInt + 1).toNat, by omega⟩
    have hhd : ∀ p t : Nat, p < 50 → hd σ 57 p t lo.toInt i = true → P0 ≤ p ∧ p < N := fun p t hp h => by
      unfold hd at h
      have h2 := of_decide_eq_true (Bool.and_eq_true_iff.mp h).2
      omega
    have bsx : ∀ p t : Nat, p < 50 → ¬ (P0 ≤ p ∧ p < N) → bs (hd σ 57 p t lo.toInt) (i + 1) = bs (hd σ 57 p t lo.toInt) i := fun p t hp h => bs_f (by
      cases hh : hd σ 57 p t lo.toInt i with
      | false => rfl
      | true => exact absurd (hhd p t hp hh) h)
    refine wp_up N (fun P s => s.1 = nI P ∧ P0 ≤ P ∧ ux w82 σ s.2 ∧ ∀ p t, p < 50 → t < 64 → g_i s.2 82 (64 * p + t) = nI (bs (hd σ 57 p t lo.toInt) (if p < P then i + 1 else i))) (i := P0) (by omega) (by omega) ⟨rfl, Nat.le_refl _, hu, fun p t hp ht => ?_⟩ ?_
    · rw [hk p t hp ht]
      by_cases h : p < P0
      · rw [if_pos h, bsx p t hp (by omega)]
      · rw [if_neg h]
    rintro P ⟨v, υ⟩ hP ⟨hv, hP0P, huυ, hkυ⟩
    have hv : v = nI P := hv
    have huυ : ux w82 σ υ := huυ
    have hkυ : ∀ p t, p < 50 → t < 64 → g_i υ 82 (64 * p + t) = nI (bs (hd σ 57 p t lo.toInt) (if p < P then i + 1 else i)) := hkυ
    subst hv
    unfold f_X1_listen_L59
    show wp (if x4 < nI P then some (Sum.inr υ) else _) _
    refine wp_ite (fun hc => ?_) (fun hc => ?_)
    · have hc := Int32.lt_iff_toInt_lt.mp hc
      rw [nI_ti (by omega)] at hc
      refine wp_some (wp_some ⟨hin, nI_1 i, huυ, fun p t hp ht => ?_⟩)
      rw [hkυ p t hp ht]
      by_cases h : p < P
      · rw [if_pos h]
      · rw [if_neg h, bsx p t hp (by omega)]
    · have hc := mt Int32.lt_iff_toInt_lt.mpr hc
      rw [nI_ti (by omega)] at hc
      have hsυ : SoundOk υ 57 n := sok_cg huυ (fun a k h1 h2 => decide_eq_false (by omega)) rfl hs
      obtain ⟨ev, hev, -, hev2, hev3, hev4⟩ := ear_eq mm hsυ hin
      refine wp_bindE hev ?_
      have hwd : f_X4_at (jn nm [8, 9]) 10 (nI i) υ = some (g_i σ 37 i) := by
        have := row_atI (nm := jn nm [8, 9]) (σ := υ) (n := n) (N := 10) (k := i) (by show g_i υ (nm 8) 1 = _; rw [m8]; exact hsυ.2.2.1) hn (by omega) hin
        rw [this]
        show some (g_i υ (nm 9) i) = _
        rw [m9, huυ 37 i rfl]
      refine wp_bindE hwd ?_
      rw [bit_eq i (by omega)]
      obtain ⟨ρ, er, ur, kr⟩ := hear_c (nm := jn nm [0, 1]) (P := P) (e := ev) (w := g_i σ 37 i) (B := nI (2 ^ i)) (σ := υ) m1 (by omega) ⟨hev3, hev4⟩ ⟨p3, p4⟩
      refine wp_bindE er (wp_some ⟨by omega, nI_1 P, by omega, ?_, fun p t hp ht => ?_⟩)
      · intro a k hk
        have hk := of_decide_eq_false hk
        exact (ur a k (decide_eq_false (by omega))).trans (huυ a k (decide_eq_false hk))
      · show g_i ρ 82 (64 * p + t) = _
        by_cases hpP : p = P
        · subst hpP
          rw [kr t ht, hkυ p t hp ht, show (if p < p then i + 1 else i) = i from if_neg (by omega), show (if p < p + 1 then i + 1 else i) = i + 1 from if_pos (by omega)]
          have he2 : ev.toInt = (g_i σ (57 + 1) i).toInt - (g_i σ 39 i).toInt * (g_i σ 57 6).toInt := by
            rw [hev2, huυ (57 + 1) i rfl, huυ 39 i rfl, huυ 57 6 rfl]
          have hde := hd_eq (σ := σ) (b := 57) (l := i) (p := (p : Int)) (nt := (t : Int)) (lo := lo.toInt) ev.toInt he2 p3
          have hd2 : decide ((((g_i σ 33 i).toInt - (p : Int)).natAbs : Int) < lo.toInt) = true := decide_eq_true (by omega)
          rw [hd2, Bool.and_true] at hde
          by_cases hh : ((ev.toInt - t).natAbs : Int) ≤ (g_i σ 37 i).toInt
          · rw [if_pos hh]
            rw [decide_eq_true hh] at hde
            rw [← bs_t (by omega) hde, bit_eq i (by omega)]
          · rw [if_neg hh]
            rw [decide_eq_false hh] at hde
            rw [bs_f hde]
        · have : g_i ρ 82 (64 * p + t) = g_i υ 82 (64 * p + t) := ur 82 _ (decide_eq_false (by omega))
          rw [this, hkυ p t hp ht]
          by_cases h : p < P
          · rw [if_pos h, if_pos (by omega)]
          · rw [if_neg h, if_neg (by omega)]
theorem hat_c {nm : Nat → Nat} {p t : Nat} {σ : jS} (h1 : nm 1 = 82) (hp : p < 50) (ht : t < 64) : f_X1_at nm (nI p) (nI t) σ = some (g_i σ 82 (64 * p + t)) := by
  have l49 : (49 : Int32).toInt = 49 := by decide
  have l63 : (63 : Int32).toInt = 63 := by decide
  have l0 : (0 : Int32).toInt = 0 := by decide
  unfold f_X1_at
  rw [within_yes (by rw [l0, nI_ti (by omega)]; omega) (by rw [l49, nI_ti (by omega)]; omega), bnd, if_neg i10, within_yes (by rw [l0, nI_ti (by omega)]; omega) (by rw [l63, nI_ti (by omega)]; omega), bnd, if_neg i10, bnd]
  unfold f_X1_at_J25
  have ix : nI p * 64 + nI t = nI (64 * p + t) := by
    rw [show nI p * 64 = nI (p * 64) from nI_mul p 64, nI_add, Nat.mul_comm]
  rw [if_neg i10, ix, gd_t (nI_in' (by omega) (by omega)), nI_cl (by omega), h1]
