/-! flat: what the steps wake at another frost -/
def pz (st : Nat → Int32) : Nat → Nat
  | 0 => 0
  | i + 1 => if st i = 64 then pz st i + 1 else pz st i
def az (st : Nat → Int32) (V : Nat → Nat → Nat) : Nat → Nat
  | 0 => 0
  | i + 1 => if st i = 64 then az st V i else az st V i ||| V (pz st i) (st i).toNatClampNeg
theorem n64ne {t : Nat} (ht : t < 64) : ¬ nI t = (64 : Int32) := fun e => by
  have := (nI_inj (a := t) (b := 64) (by omega) (by omega)).mp e
  omega
theorem pz_on {st : Nat → Int32} {i : Nat} (h : st i = nI 64) : pz st (i + 1) = pz st i + 1 := by
  show (if st i = 64 then pz st i + 1 else pz st i) = _
  rw [if_pos (show st i = (64 : Int32) from h)]
theorem pz_hum {st : Nat → Int32} {i t : Nat} (ht : t < 64) (h : st i = nI t) : pz st (i + 1) = pz st i := by
  show (if st i = 64 then pz st i + 1 else pz st i) = _
  rw [if_neg (by rw [h]; exact n64ne ht)]
theorem az_on {st : Nat → Int32} {V : Nat → Nat → Nat} {i : Nat} (h : st i = nI 64) : az st V (i + 1) = az st V i := by
  show (if st i = 64 then az st V i else az st V i ||| V (pz st i) (st i).toNatClampNeg) = _
  rw [if_pos (show st i = (64 : Int32) from h)]
theorem az_hum {st : Nat → Int32} {V : Nat → Nat → Nat} {i t : Nat} (ht : t < 64) (h : st i = nI t) : az st V (i + 1) = az st V i ||| V (pz st i) t := by
  show (if st i = 64 then az st V i else az st V i ||| V (pz st i) (st i).toNatClampNeg) = _
  rw [if_neg (by rw [h]; exact n64ne ht), h, nI_cl (by omega)]
/-- steps that tell a way -/
def VS (st : Nat → Int32) (K : Nat) : Prop := ∀ i, i < K → pz st i < 50 ∧ ((∃ t, t < 64 ∧ st i = nI t) ∨ st i = nI 64)
theorem gs_ok {W : Nat → Nat → Nat} {all : Nat} {st : Nat → Int32} : ∀ K k p S, p < 50 → p = pz st k → Gs W all st K k p S → ∀ i, k ≤ i → i < k + K → pz st i < 50 ∧ ((∃ t, t < 64 ∧ st i = nI t) ∨ st i = nI 64)
  | 0, k, p, S, _, _, _, i, h1, h2 => by omega
  | K + 1, k, p, S, hp, he, hg, i, h1, h2 => by
    rcases hg with ⟨nt, g1, g2, -, -, g5⟩ | ⟨-, g2, -, g4, g5⟩
    · by_cases e : i = k
      · subst e; exact ⟨by rw [← he]; exact hp, Or.inl ⟨nt, g1, g2⟩⟩
      · exact gs_ok K (k + 1) p _ hp (by rw [pz_hum g1 g2]; exact he) g5 i (by omega) (by omega)
    · by_cases e : i = k
      · subst e; exact ⟨by rw [← he]; exact hp, Or.inr g4⟩
      · exact gs_ok K (k + 1) (p + 1) _ g2 (by rw [pz_on g4, ← he]) g5 i (by omega) (by omega)
theorem gs_vs {W : Nat → Nat → Nat} {all K : Nat} {st : Nat → Int32} (h : Gs W all st K 0 0 0) : VS st K := fun i hi => gs_ok K 0 0 0 (by omega) rfl h i (Nat.zero_le _) (by omega)
/-- what a sound wakes at the frost fr -/
def Vf (σ : jS) (n : Nat) (fr : Int) (p t : Nat) : Nat := bs (fun l => hdg (g_i σ 33 l).toInt (g_i σ 37 l).toInt (g_i σ 39 l).toInt (g_i σ 58 l).toInt fr (p : Int) (t : Int) (g_i σ 31 10).toInt) n
theorem Vf_cg {n : Nat} {fr : Int} {V : Nat → Nat → Bool} {σ τ : jS} (u : ux V σ τ) (hV : ∀ a k, 31 ≤ a → a ≤ 58 → V a k = false) : Vf τ n fr = Vf σ n fr := by
  funext p t
  unfold Vf
  congr 1
  funext l
  rw [u 58 l (hV _ _ (by omega) (by omega)), u 39 l (hV _ _ (by omega) (by omega)), u 31 10 (hV _ _ (by omega) (by omega)), u 37 l (hV _ _ (by omega) (by omega)), u 33 l (hV _ _ (by omega) (by omega))]
theorem az_lt {st : Nat → Int32} {V : Nat → Nat → Nat} {n : Nat} (hV : ∀ p t, V p t < 2 ^ n) : ∀ i, az st V i < 2 ^ n
  | 0 => Nat.two_pow_pos n
  | i + 1 => by
    show (if st i = 64 then az st V i else az st V i ||| V (pz st i) (st i).toNatClampNeg) < 2 ^ n
    split
    · exact az_lt hV i
    · exact Nat.or_lt_two_pow (az_lt hV i) (hV _ _)
theorem hdm_V {n m : Nat} {cold : Int} {p t : Nat} {σ : jS} (hS : RSite n m σ) (hN : RNow n σ) : bs (hdm σ cold p t (g_i σ 31 10).toInt) n = Vf σ n cold p t := by
  refine bs_cong (fun l hl => ?_)
  obtain ⟨q1, q2, q3⟩ := hS.2.2.2.2.2.2.1 l hl
  unfold hdm
  rw [q1.2, q2.2, q3.2, hN.2.1 l hl]
/-- the trial: the moment's copy, at any frost -/
def Tri (σ ρ : jS) : Prop := ux (wCp 62) σ ρ ∧ ∀ l, l < 10 → g_i ρ 63 l = g_i σ 58 l
theorem cp_sc {σ τ : jS} (u : ux (wCp 62) σ τ) : ux wSc σ τ := fun a k hk => u a k (by
  have hk := of_decide_eq_false hk
  have h1 : (a == 62 + 1) = false := beq_false_of_ne (by omega)
  have h2 : (a == 62 + 2) = false := beq_false_of_ne (by omega)
  have h3 : (a == 62 + 3) = false := beq_false_of_ne (by omega)
  have h4 : (a == 62 + 4) = false := beq_false_of_ne (by omega)
  have h5 : (a == 62) = false := beq_false_of_ne (by omega)
  unfold wCp
  rw [h1, h2, h3, h4, h5]
  rfl)
theorem xwoken_c {n m K : Nat} {frost : Int32} {σ ρ : jS} (hS : RSite n m σ) (hN : RNow n σ) (hTr : Tri σ ρ) (hf : rg frost 0 9) (h6 : g_i ρ 62 6 = frost) (sz : g_i σ 96 1 = nI K) (hK : K ≤ 59) (hst : VS (g_i σ 97) K) : f_X8_wokenBy (jn nmX [91, 81, 82, 92, 93, 94, 95, 96, 97, 62, 31, 32, 33, 34, 35, 36, 37, 38, 39, 40, 41, 42, 43, 44, 45, 46, 47, 63, 64, 65, 66]) ρ = some (nI (az (g_i σ 97) (Vf σ n frost.toInt) K)) := by
  have hn := hS.1.1
  have hSρ := site_sc (cp_sc hTr.1) hS
  obtain ⟨u, h63⟩ := hTr
  have szρ : g_i ρ 96 1 = nI K := (u 96 1 rfl).trans sz
  have hsok : SoundOk ρ 62 n := ⟨hn, hSρ.2.1.1, hSρ.2.1.2.2.1, hSρ.2.1.2.2.2.1, fun l hl => ⟨(hSρ.2.2.2.2.2.2.1 l hl).1.1, (hSρ.2.2.2.2.2.2.1 l hl).2.1.1, (hSρ.2.2.2.2.2.2.1 l hl).2.2.1, by
    show rg (g_i ρ 63 l) 0 63
    rw [h63 l (by omega)]; exact hN.1.1 l hl⟩, by rw [h6]; exact hf⟩
  refine wp_eq ?_
  unfold f_X8_wokenBy
  refine wp_bind ?_
  refine wp_up K (fun i s => s = (nI (pz (g_i σ 97) i), nI (az (g_i σ 97) (Vf σ n frost.toInt) i), nI i)) (i := 0) (by omega) (by omega) rfl ?_
  rintro i s hi rfl
  unfold f_X8_wokenBy_L7
  show wp (if g_i ρ 96 1 ≤ nI i then some (Sum.inr (nI (az (g_i σ 97) (Vf σ n frost.toInt) i))) else _) _
  rw [szρ]
  refine wp_ite (fun hc => ?_) (fun hc => ?_)
  · rw [nI_le' (by omega) (by omega)] at hc
    have : i = K := by omega
    subst this
    exact wp_some (wp_some rfl)
  · rw [nI_le' (by omega) (by omega)] at hc
    have hat : f_X4_at (jn (jn nmX [91, 81, 82, 92, 93, 94, 95, 96, 97, 62, 31, 32, 33, 34, 35, 36, 37, 38, 39, 40, 41, 42, 43, 44, 45, 46, 47, 63, 64, 65, 66]) [7, 8]) 59 (nI i) ρ = some (g_i σ 97 i) := by
      rw [row_atI (n := K) (by exact szρ) hK (by omega) (by omega)]
      exact congrArg some (u 97 i rfl)
    refine wp_bindE hat ?_
    obtain ⟨hp, hs⟩ := hst i (by omega)
    rcases hs with ⟨t, ht, e⟩ | e
    · rw [if_neg (by rw [e]; exact n64ne ht)]
      refine wp_bindE hat ?_
      have hwk := woken_eq (b := 62) (nm := jn (jn nmX [91, 81, 82, 92, 93, 94, 95, 96, 97, 62, 31, 32, 33, 34, 35, 36, 37, 38, 39, 40, 41, 42, 43, 44, 45, 46, 47, 63, 64, 65, 66]) [9, 10, 11, 12, 13, 14, 15, 16, 17, 18, 19, 20, 21, 22, 23, 24, 25, 26, 27, 28, 29, 30]) (p := nI (pz (g_i σ 97) i)) (nt := nI t) (lo := g_i ρ 31 10) ⟨⟨rfl, rfl, rfl, rfl, rfl, rfl, rfl, rfl⟩, rfl, rfl, rfl, rfl⟩ hsok (nI_rg (by omega) (by omega) (by omega)) (nI_rg (by omega) (by omega) (by omega)) hSρ.2.2.2.2.2.1.1
      rw [nI_ti (by omega), nI_ti (by omega)] at hwk
      have hv : bs (hd ρ 62 (pz (g_i σ 97) i : Int) (t : Int) (g_i ρ 31 10).toInt) n = Vf σ n frost.toInt (pz (g_i σ 97) i) t := by
        refine bs_cong (fun l hl => ?_)
        rw [hd_eq _ rfl (hSρ.2.2.2.2.2.2.1 l hl).2.1.1.1, h6, show g_i ρ (62 + 1) l = g_i σ 58 l from h63 l (by omega), u 39 l rfl, u 37 l rfl, u 33 l rfl, u 31 10 rfl]
        rfl
      rw [hv] at hwk
      rw [e]
      refine wp_bindE hwk (wp_bd (fun x5 h5 => wp_some ⟨by omega, ?_⟩))
      rw [h5, nI_or, nI_1, pz_hum ht e, az_hum ht e]
    · rw [if_pos (show g_i σ 97 i = (64 : Int32) from e)]
      refine wp_some ⟨by omega, ?_⟩
      rw [nI_1, nI_1, pz_on e, az_on e]
/-- what the steps leave dark on the night k -/
def DD (σ : jS) (n K k : Nat) : Nat := sd (2 ^ n - 1) (az (g_i σ 97) (Vf σ n (g_i σ 56 k).toInt) K)
theorem xdark_c {n m K c k : Nat} {σ ρ : jS} (hS : RSite n m σ) (hN : RNow n σ) (hTr : Tri σ ρ) (h55 : g_i σ 55 1 = nI c) (hc : c ≤ 30) (hk : k < c) (hf : rg (g_i σ 56 k) 0 9) (sz : g_i σ 96 1 = nI K) (hK : K ≤ 59) (hst : VS (g_i σ 97) K) : ∃ ρ', f_X10_darkOnDay nmX (nI k) ρ = some (nI (DD σ n K k), ρ') ∧ Tri σ ρ' := by
  have hn := hS.1.1
  have hat : f_X4_at (jn nmX [55, 56]) 30 (nI k) ρ = some (g_i σ 56 k) := by
    rw [row_atI (n := c) (by exact (hTr.1 55 1 rfl).trans h55) hc (by omega) hk]
    exact congrArg some (hTr.1 56 k rfl)
  have hT2 : Tri σ (s_i ρ 62 6 (g_i σ 56 k)) := ⟨ux_s hTr.1 rfl, fun l hl => (s_i_a (by decide)).trans (hTr.2 l hl)⟩
  have h6 : g_i (s_i ρ 62 6 (g_i σ 56 k)) 62 6 = g_i σ 56 k := s_i_eq _ _ _ _
  unfold f_X10_darkOnDay
  rw [hat, bnd, bdx, show nmX 62 = 62 from rfl]
  generalize s_i ρ 62 6 (g_i σ 56 k) = ρ2 at *
  have eall : f_X6_allLamps (jn nmX [31, 32, 33, 34, 35, 36, 37, 38, 39, 40, 41, 42, 43, 44, 45, 46, 47]) ρ2 = some (nI (2 ^ n - 1)) := by
    show some (((1 : Int32) <<< (g_i ρ2 32 1 &&& 31)) - 1) = _
    rw [hT2.1 32 1 rfl, hS.2.1.1, all_eq n hn]
  rw [eall, bnd, xwoken_c hS hN hT2 hf h6 sz hK hst, bnd, nI_sd]
  exact ⟨ρ2, rfl, hT2⟩
theorem sk_sc {σ τ : jS} (u : ux wSk σ τ) : ux wSc σ τ := ux_w u (fun a k hk => by
  have hk := of_decide_eq_false hk
  exact decide_eq_false (by omega))
theorem mdark_c {W : Nat → Nat → Nat} {n m K k : Nat} {st : Nat → Int32} {ρ : jS} (hS : RSite n m ρ) (hN : RNow n ρ) (hk : k < 30) (hf : rg (g_i ρ 108 k) 0 9) (hW : ∀ p t, p < 50 → t < 64 → g_i ρ 115 (64 * p + t) = nI (W p t) ∧ W p t < 2 ^ n) (hT : TR W n 0 ρ) (hK : K ≤ 59) (hm : MinR W (2 ^ n - 1) K 0 0) (hg : Gs W (2 ^ n - 1) st K 0 0 0) : ∃ ρ', f_X11_darkOn nmM (nI k) (nI K) ρ = some (nI (sd (2 ^ n - 1) (az st (Vf ρ n (g_i ρ 108 k).toInt) K)), ρ') ∧ ux wSk ρ ρ' := by
  have hn := hS.1.1
  have hp0 := Nat.two_pow_pos n
  have u2 : ux wSk ρ (s_i (s_i ρ 101 36 0) 101 37 0) := ux_s (ux_s (ux_refl _ _) rfl) rfl
  have e36 : g_i (s_i (s_i ρ 101 36 0) 101 37 0) 101 36 = nI 0 := (s_i_k (by decide)).trans (s_i_eq _ _ _ _)
  have e37 : g_i (s_i (s_i ρ 101 36 0) 101 37 0) 101 37 = nI 0 := s_i_eq _ _ _ _
  unfold f_X11_darkOn
  rw [bdx, bdx]
  show ∃ ρ', (lp (f_X11_darkOn_L15 nmM (nI k) (nI K)) fu (0, 0, s_i (s_i ρ 101 36 0) 101 37 0)).bind _ = some (nI (sd (2 ^ n - 1) (az st (Vf ρ n (g_i ρ 108 k).toInt) K)), ρ') ∧ _
  generalize s_i (s_i ρ 101 36 0) 101 37 0 = ρ2 at *
  have loop : ∃ ρ', lp (f_X11_darkOn_L15 nmM (nI k) (nI K)) fu (0, 0, ρ2) = some (nI (az st (Vf ρ n (g_i ρ 108 k).toInt) K), ρ') ∧ ux wSk ρ ρ' := by
    suffices wp (lp (f_X11_darkOn_L15 nmM (nI k) (nI K)) fu (0, 0, ρ2)) (fun y => y.1 = nI (az st (Vf ρ n (g_i ρ 108 k).toInt) K) ∧ ux wSk ρ y.2) by
      obtain ⟨⟨y1, y2⟩, e, h1, h2⟩ := this
      have h1 : y1 = _ := h1
      subst h1
      exact ⟨y2, e, h2⟩
    refine wp_up K (fun i s => s.1 = nI (az st (Vf ρ n (g_i ρ 108 k).toInt) i) ∧ s.2.1 = nI i ∧ ux wSk ρ s.2.2 ∧ ∃ r p S, i + r = K ∧ p = pz st i ∧ g_i s.2.2 101 36 = nI S ∧ g_i s.2.2 101 37 = nI p ∧ S < 2 ^ n ∧ p < 50 ∧ MinR W (2 ^ n - 1) r p S ∧ Gs W (2 ^ n - 1) st r i p S) (i := 0) (by omega) (by omega) ⟨rfl, rfl, u2, K, 0, 0, by omega, rfl, e36, e37, hp0, by omega, hm, hg⟩ ?_
    rintro i ⟨v3, v4, υ⟩ hi ⟨hv3, hv4, hu, r, p, S, hr, hpz, a36, a37, hS0, hp, hM, hG⟩
    have hv3 : v3 = nI (az st (Vf ρ n (g_i ρ 108 k).toInt) i) := hv3
    have hv4 : v4 = nI i := hv4
    have hu : ux wSk ρ υ := hu
    have a36 : g_i υ 101 36 = nI S := a36
    have a37 : g_i υ 101 37 = nI p := a37
    subst hv3 hv4
    unfold f_X11_darkOn_L15
    show wp (if nI K ≤ nI i then some (Sum.inr (nI (az st (Vf ρ n (g_i ρ 108 k).toInt) i), υ)) else _) _
    refine wp_ite (fun hc => ?_) (fun hc => ?_)
    · rw [nI_le' (by omega) (by omega)] at hc
      have : i = K := by omega
      subst this
      exact wp_some ⟨rfl, hu⟩
    · rw [nI_le' (by omega) (by omega)] at hc
      cases r with
      | zero => omega
      | succ r =>
        obtain ⟨τ', p', S', es, us, b36, b37, hS', hp', hM', hG', hwh⟩ := step_c (τ := υ) hn (fun p t h1 h2 => by rw [hu 115 _ rfl]; exact hW p t h1 h2) (sk_tr hu hT) a36 a37 hS0 hp (by omega) hM hG
        have hu' : ux wSk ρ τ' := ux_tr hu us
        refine wp_bd (fun x3 h3 => wp_bindE es ?_)
        have h3 : x3 = nI p := h3.trans a37
        rcases hwh with ⟨t, ht, e, rfl, rfl⟩ | ⟨e, rfl, rfl⟩
        · show wp (if 64 ≤ st i then _ else _) _
          rw [e, if_neg (show ¬ (64 : Int32) ≤ nI t from nle_lit (a := 64) ht (by omega))]
          refine wp_gd (nI_in' hk (by omega)) ?_
          have hSτ := site_sc (sk_sc hu') hS
          have hNτ := now_sc (sk_sc hu') hN
          have hwk := wakesBy_eq (σ := τ') (p := nI p') (nt := nI t) (lo := g_i τ' 31 10) (cold := g_i ρ 108 k) hn hSτ.2.1.2.2.2.2 (mok hSτ hNτ) hf (nI_rg (by omega) (by omega) (by omega)) (nI_rg (by omega) (by omega) (by omega)) hSτ.2.2.2.2.2.1.1
          rw [nI_ti (by omega), nI_ti (by omega), hdm_V hSτ hNτ, Vf_cg hu' (fun a k h1 h2 => decide_eq_false (by omega))] at hwk
          rw [h3, nI_cl (by omega), show g_i τ' (nmM 0) 7 = g_i τ' 31 10 from hSτ.2.2.2.2.2.1.2, show g_i τ' (nmM 7) k = g_i ρ 108 k from hu' 108 k rfl]
          refine wp_bindE hwk (wp_bd (fun x8 h8 => wp_some ⟨by omega, ?_, nI_1 i, hu', r, p', _, by omega, ?_, b36, b37, hS', hp', hM', hG'⟩))
          · show x8 = _
            rw [h8, nI_or, az_hum ht e, hpz]
          · rw [pz_hum ht e]; exact hpz
        · show wp (if 64 ≤ st i then _ else _) _
          rw [e, if_pos (show (64 : Int32) ≤ nI 64 by decide)]
          refine wp_bd (fun x6 h6 => wp_some ⟨by omega, ?_, nI_1 i, hu', r, p + 1, _, by omega, ?_, b36, b37, hS', hp', hM', hG'⟩)
          · show x6 = _
            rw [h6, az_on e]
            show nI _ ||| nI 0 = _
            rw [nI_or, Nat.or_zero]
          · rw [pz_on e, ← hpz]
  obtain ⟨ρ', el, ul⟩ := loop
  rw [el, bnd]
  have eall : f_X11_all nmM ρ' = some (nI (2 ^ n - 1)) := by
    show some (((1 : Int32) <<< (g_i ρ' 101 0 &&& 31)) - 1) = _
    rw [ul 101 0 rfl, hS.2.1.2.2.2.2, all_eq n hn]
  refine ⟨ρ', ?_, ul⟩
  show (f_X11_all nmM ρ').bind _ = _
  rw [eall, bnd, nI_sd]
