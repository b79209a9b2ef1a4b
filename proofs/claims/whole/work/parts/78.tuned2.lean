/-! tuned: the class's table and the reference's -/
def TC (nt : Nat → Nat) (u st nL n lo : Nat) (σ : jS) : Prop := ∀ S, lo ≤ S → S < 2 ^ nL → popc S ≤ n → g_i σ 100 S = nI (Rf nt u st nL (n - popc S) (popc S) S)
theorem lnot {n k u st : Nat} (hk : k < n) (h : u + (n - 1) * st ≤ 63) : u + k * st ≤ 63 := by
  have : k * st ≤ (n - 1) * st := Nat.mul_le_mul_right st (by omega)
  omega
theorem leastSum_c {nm : Nat → Nat} {nL n u st : Nat} {nt : Nat → Nat} {σ : jS} (hm : filNm nm) (hn : nL ≤ 10) (h32 : g_i σ 32 1 = nI nL) (hnt : ∀ l, l < nL → g_i σ 58 l = nI (nt l) ∧ nt l ≤ 63) (hn1 : n ≤ 10) (hun : u + (n - 1) * st ≤ 63) : ∃ τ, f_X0_leastSum nm (nI u) (nI st) (nI n) σ = some (if Rf nt u st nL n 0 0 < 100000 then nI (Rf nt u st nL n 0 0) else -1, τ) ∧ ux (fun a _ => decide (a = 100)) σ τ ∧ TC nt u st nL n 0 τ := by
  have hp := pow10 hn
  have hp0 : 0 < 2 ^ nL := Nat.two_pow_pos nL
  have p0 : popc 0 = 0 := by decide
  suffices wp (f_X0_leastSum nm (nI u) (nI st) (nI n) σ) (fun x => x.1 = (if Rf nt u st nL n 0 0 < 100000 then nI (Rf nt u st nL n 0 0) else -1) ∧ ux (fun a _ => decide (a = 100)) σ x.2 ∧ TC nt u st nL n 0 x.2) by
    obtain ⟨⟨r, τ⟩, e, h1, h2⟩ := this
    have h1 : r = _ := h1
    rw [h1] at e
    exact ⟨τ, e, h2⟩
  unfold f_X0_leastSum
  have hal : f_X6_allLamps (jn nm [1, 2, 3, 4, 5, 6, 7, 8, 9, 10, 11, 12, 13, 14, 15, 16, 17]) σ = some (nI (2 ^ nL) - 1) := by
    show some (((1 : Int32) <<< (g_i σ (nm 2) 1 &&& 31)) - 1) = _
    rw [hm.1, h32, all_eq nL hn]
    exact congrArg some (nI_sb (a := 2 ^ nL) (b := 1) (by omega)).symm
  refine wp_bindE hal (wp_bind ?_)
  refine wp_lp (fun N s => N ≤ 2 ^ nL ∧ s.1 = nI N - 1 ∧ ux (fun a _ => decide (a = 100)) σ s.2 ∧ TC nt u st nL n N s.2) (n := 2 ^ nL) (by omega) ⟨Nat.le_refl _, rfl, ux_refl _ _, fun S h1 h2 => by omega⟩ ?_
  rintro N ⟨v, τ⟩ ⟨hN, hv, hu, ht⟩
  have hv : v = nI N - 1 := hv
  have hu : ux (fun a _ => decide (a = 100)) σ τ := hu
  have ht : TC nt u st nL n N τ := ht
  subst hv
  unfold f_X0_leastSum_L16
  show wp (if nI N - 1 < 0 then some (Sum.inr τ) else _) _
  cases N with
  | zero =>
    rw [if_pos neg1_lt]
    refine wp_some ?_
    refine wp_gd (nI_in' (n := 0) (by omega) (by omega)) ?_
    have e0 : g_i τ (nm 24) (0 : Int32).toNatClampNeg = nI (Rf nt u st nL n 0 0) := by
      rw [hm.2.2]
      have := ht 0 (Nat.le_refl _) hp0 (by rw [p0]; omega)
      rw [p0] at this
      exact this
    rw [e0]
    have hb := Rf_le nt u st nL n 0 0
    by_cases hc : Rf nt u st nL n 0 0 < 100000
    · rw [if_neg (show ¬ (100000 : Int32) ≤ nI (Rf nt u st nL n 0 0) from fun e => by
        have e : nI 100000 ≤ _ := e
        rw [nI_le' (by omega) (by omega)] at e; omega), if_pos hc]
      exact wp_gd (nI_in' (n := 0) (by omega) (by omega)) (wp_some ⟨rfl, hu, ht⟩)
    · rw [if_pos (show (100000 : Int32) ≤ nI (Rf nt u st nL n 0 0) from (nI_le' (a := 100000) (by omega) (by omega)).mpr (by omega)), if_neg hc]
      exact wp_some ⟨rfl, hu, ht⟩
  | succ S =>
    rw [nI_p1m, if_neg (nI_neg0 (by omega))]
    refine wp_bindE (bc_eq S (by omega)) ?_
    have hpc : popc S ≤ 10 := cntB_le _ _
    rw [if_neg (show ¬ (1024 : Int32) ≤ nI S from fun e => by
        have e : nI 1024 ≤ nI S := e
        rw [nI_le' (by omega) (by omega)] at e; omega), nI_a1]
    refine wp_ite (fun hc => ?_) (fun hc => ?_)
    · rw [nI_lt' (by omega) (by omega)] at hc
      refine wp_some ⟨S, by omega, by omega, rfl, hu, fun S' h1 h2 h3 => ?_⟩
      by_cases e : S' = S
      · rw [e] at h3; omega
      · exact ht S' (by omega) h2 h3
    · rw [nI_lt' (by omega) (by omega)] at hc
      have val : (if nI (popc S) = nI n then some 0 else (f_X0_leastRest nm (nI S) (nI u + (nI (popc S) * nI st)) τ).bind (fun q3 => some q3)) = some (nI (Rf nt u st nL (n - popc S) (popc S) S)) := by
        by_cases he : popc S = n
        · rw [if_pos (by rw [he]), he, Nat.sub_self]; rfl
        · rw [if_neg (fun e => he ((nI_inj (by omega) (by omega)).mp e)), nI_mul, nI_add]
          rw [leastRest_c (nt := nt) (V := Rf nt u st nL (n - popc S - 1) (popc S + 1)) hm hn ((hu 32 1 rfl).trans h32) (by omega) (fun l hl => by rw [hu 58 l rfl]; exact hnt l hl) (lnot (by omega) hun) (fun l hl hb => by
            have hpo := popc_or (show l < 10 by omega) hb
            have := ht (S ||| 2 ^ l) (by have := or_gt hb; omega) (or_lt2 (by omega) hl) (by omega)
            rw [hpo] at this
            rw [this, Nat.sub_sub]) (fun x => Rf_le _ _ _ _ _ _ _), bnd]
          rw [show n - popc S = (n - popc S - 1) + 1 by omega]
          rfl
      refine wp_bindE val ?_
      unfold f_X0_leastSum_J70
      refine wp_gd (nI_in' (by omega) (by omega)) (wp_bd (fun s hs => wp_some ⟨S, by omega, by omega, nI_a1 _, ?_, fun S' h1 h2 h3 => ?_⟩))
      · rw [hs, hm.2.2]; exact ux_s hu (decide_eq_true rfl)
      · show g_i s 100 S' = _
        rw [hs, hm.2.2, nI_cl (by omega)]
        by_cases e : S' = S
        · rw [e]; exact s_i_eq _ _ _ _
        · rw [s_i_k e]; exact ht S' (by omega) h2 h3
def mv (x : Nat) : Int32 := if x < 100000 then nI x else 1000000
theorem mv_ti {x : Nat} : (mv x).toInt = if x < 100000 then (x : Int) else 1000000 := by
  unfold mv
  by_cases h : x < 100000
  · rw [if_pos h, if_pos h, nI_ti (by omega)]
  · rw [if_neg h, if_neg h]; decide
def TM (nt : Nat → Nat) (u st nL n lo : Nat) (σ : jS) : Prop := ∀ S, lo ≤ S → S < 2 ^ nL → popc S ≤ n → g_i σ 123 S = mv (Rf nt u st nL (n - popc S) (popc S) S)
theorem bits_c {S : Nat} : f_X11_bits (nI S) = some (nI (popc S)) := by
  refine wp_eq ?_
  unfold f_X11_bits
  refine wp_bind ?_
  refine wp_up 10 (fun i s => s = (nI (cntB (fun k => S.testBit k) i), nI i)) (i := 0) (by omega) (by omega) rfl ?_
  rintro i s hi rfl
  unfold f_X11_bits_L4
  show wp (if nI 10 ≤ nI i then some (Sum.inr (nI (cntB (fun k => S.testBit k) i))) else _) _
  refine wp_ite (fun hc => ?_) (fun hc => ?_)
  · rw [nI_le' (by omega) (by omega)] at hc
    have : i = 10 := by omega
    subst this
    exact wp_some (wp_some rfl)
  · rw [nI_le' (by omega) (by omega)] at hc
    refine wp_bd (fun x hx => wp_some ⟨by omega, ?_⟩)
    rw [hx, bit0 (by omega), nI_1]
    show _ = (nI (cntB (fun k => S.testBit k) i + if S.testBit i = true then 1 else 0), _)
    cases S.testBit i with
    | true => rw [if_pos rfl, if_pos rfl, nI_1]
    | false => rw [if_neg (by decide), if_neg (by decide)]; congr 1; exact (congrArg nI (Nat.add_zero _)) ▸ (by show nI _ + nI 0 = _; rw [nI_add])
def tv (nt : Nat → Nat) (note S : Nat) (V : Nat → Nat) (l : Nat) : Int32 := if note < nt l then 1000000 else nI (note - nt l) + mv (V (S ||| 2 ^ l))
theorem tv_ti {nt : Nat → Nat} {note S l : Nat} {V : Nat → Nat} (hno : note ≤ 63) (hV2 : V (S ||| 2 ^ l) < 100000 → V (S ||| 2 ^ l) ≤ 630) : (tv nt note S V l).toInt = if note < nt l then 1000000 else ((note - nt l : Nat) : Int) + (mv (V (S ||| 2 ^ l))).toInt := by
  have hb : 0 ≤ (mv (V (S ||| 2 ^ l))).toInt ∧ (mv (V (S ||| 2 ^ l))).toInt ≤ 1000000 := by
    rw [mv_ti]; split <;> omega
  unfold tv
  by_cases hc : note < nt l
  · rw [if_pos hc, if_pos hc]; decide
  · rw [if_neg hc, if_neg hc, ti_add (by rw [nI_ti (by omega)]; omega) (by rw [nI_ti (by omega)]; omega), nI_ti (by omega)]
theorem tune_c {nL S l note : Nat} {nt V : Nat → Nat} {σ : jS} (hn : nL ≤ 10) (hl : l < nL) (hS : S < 2 ^ nL) (hnt : g_i σ 102 (4 * l + 1) = nI (nt l) ∧ nt l ≤ 63) (hno : note ≤ 63) (hV : g_i σ 123 (S ||| 2 ^ l) = mv (V (S ||| 2 ^ l))) : f_X11_tuneBy nmM (nI S) (nI l) (nI note) σ = some (tv nt note S V l) := by
  have hp := pow10 hn
  have ho := or_lt2 hS hl
  have e1 : (4 * nI l + 1).toNatClampNeg = 4 * l + 1 := nI_41c (c := 1) (by omega)
  have g1 : vp_in (4 * nI l + 1) 40 := nI_41 (c := 1) (by omega) (by omega)
  have g2 : g_i σ (nmM 1) (4 * l + 1) = nI (nt l) := hnt.1
  have hV' : g_i σ (nmM 22) (S ||| 2 ^ l) = mv (V (S ||| 2 ^ l)) := hV
  unfold f_X11_tuneBy tv
  rw [gd_t g1, e1, g2]
  by_cases hc : note < nt l
  · rw [if_pos (by rw [nI_lt' (by omega) (by omega)]; exact hc), if_pos hc]
  · rw [if_neg (by rw [nI_lt' (by omega) (by omega)]; exact hc), if_neg hc, gd_t g1, nI_orb (by omega), gd_t (nI_in' (by omega) (by omega)), nI_cl (by omega), hV', nI_sb (by omega)]
theorem lesser_c {nt : Nat → Nat} {note S l a : Nat} {V : Nat → Nat} (ha : a ≤ 100000) (hb : S.testBit l = false) (hno : note ≤ 63) (hV2 : V (S ||| 2 ^ l) < 100000 → V (S ||| 2 ^ l) ≤ 630) : f_X11_lesser (mv a) (tv nt note S V l) = some (mv (min a (fW nt note S V l))) := by
  have t1 := tv_ti (nt := nt) hno hV2
  have t2 := mv_ti (x := a)
  have t3 := mv_ti (x := V (S ||| 2 ^ l))
  have t4 := mv_ti (x := min a (fW nt note S V l))
  rw [t3] at t1
  have hf : fW nt note S V l = if note < nt l then 100000 else note - nt l + V (S ||| 2 ^ l) := by
    unfold fW
    by_cases hc : note < nt l
    · rw [if_pos (Or.inr hc), if_pos hc]
    · rw [if_neg (by rintro (h | h); rw [hb] at h; cases h; exact hc h), if_neg hc]
  rw [hf] at t4 ⊢
  unfold f_X11_lesser
  generalize V (S ||| 2 ^ l) = z at t1 t3 t4 hV2 ⊢
  by_cases hle : tv nt note S V l ≤ mv a
  · rw [if_pos hle]
    have hle := Int32.le_iff_toInt_le.mp hle
    congr 1
    apply Int32.toInt_inj.mp
    rw [t1, t4]
    rw [t1, t2] at hle
    by_cases c1 : note < nt l
    · simp only [if_pos c1] at hle ⊢
      by_cases c2 : a < 100000
      · rw [if_pos c2] at hle; omega
      · rw [if_neg (by omega)]
    · simp only [if_neg c1] at hle ⊢
      by_cases c3 : z < 100000
      · rw [if_pos c3] at hle ⊢
        have := hV2 c3
        by_cases c2 : a < 100000
        · rw [if_pos c2] at hle
          rw [if_pos (by omega)]; omega
        · rw [if_pos (by omega)]; omega
      · rw [if_neg c3] at hle ⊢
        by_cases c2 : a < 100000
        · rw [if_pos c2] at hle; omega
        · rw [if_neg c2] at hle
          rw [if_neg (by omega)]; omega
  · rw [if_neg hle]
    have hle := mt Int32.le_iff_toInt_le.mpr hle
    congr 1
    apply Int32.toInt_inj.mp
    rw [t2, t4]
    rw [t1, t2] at hle
    by_cases c1 : note < nt l
    · simp only [if_pos c1] at hle ⊢
      by_cases c2 : a < 100000
      · rw [if_pos c2, if_pos (by omega)]; omega
      · rw [if_neg c2, if_neg (by omega)]
    · simp only [if_neg c1] at hle ⊢
      by_cases c3 : z < 100000
      · rw [if_pos c3] at hle
        have := hV2 c3
        by_cases c2 : a < 100000
        · rw [if_pos c2] at hle ⊢
          rw [if_pos (by omega)]; omega
        · rw [if_neg c2] at hle
          omega
      · rw [if_neg c3] at hle
        by_cases c2 : a < 100000
        · rw [if_pos c2, if_pos (by omega)]; omega
        · rw [if_neg c2, if_neg (by omega)]
theorem mtable_c {nL n u st : Nat} {j : Int32} {nt : Nat → Nat} {σ : jS} (hn : nL ≤ 10) (h0 : g_i σ 101 0 = nI nL) (hnt : ∀ l, l < nL → g_i σ 102 (4 * l + 1) = nI (nt l) ∧ nt l ≤ 63) (hn1 : n ≤ 10) (hun : u + (n - 1) * st ≤ 63) : ∃ τ, lp (f_X11_tuned_L70 nmM (nI u) (nI st) (nI n) j) fu (nI (2 ^ nL) - 1, σ) = some τ ∧ ux (fun a _ => decide (a = 123)) σ τ ∧ TM nt u st nL n 0 τ := by
  have hp := pow10 hn
  suffices wp (lp (f_X11_tuned_L70 nmM (nI u) (nI st) (nI n) j) fu (nI (2 ^ nL) - 1, σ)) (fun τ => ux (fun a _ => decide (a = 123)) σ τ ∧ TM nt u st nL n 0 τ) by
    obtain ⟨τ, e, h⟩ := this
    exact ⟨τ, e, h⟩
  refine wp_lp (fun N s => N ≤ 2 ^ nL ∧ s.1 = nI N - 1 ∧ ux (fun a _ => decide (a = 123)) σ s.2 ∧ TM nt u st nL n N s.2) (n := 2 ^ nL) (by omega) ⟨Nat.le_refl _, rfl, ux_refl _ _, fun S h1 h2 => by omega⟩ ?_
  rintro N ⟨v, τ⟩ ⟨hN, hv, hu, ht⟩
  have hv : v = nI N - 1 := hv
  have hu : ux (fun a _ => decide (a = 123)) σ τ := hu
  have ht : TM nt u st nL n N τ := ht
  subst hv
  unfold f_X11_tuned_L70
  show wp (if nI N - 1 < 0 then some (Sum.inr τ) else _) _
  cases N with
  | zero =>
    rw [if_pos neg1_lt]
    exact wp_some ⟨hu, ht⟩
  | succ S =>
    rw [nI_p1m, if_neg (nI_neg0 (by omega))]
    refine wp_bindE bits_c ?_
    have hpc : popc S ≤ 10 := cntB_le _ _
    generalize hk : popc S = k at hpc
    have val : (if nI k < nI n then some (1000000 : Int32) else some 0) = some (if k < n then 1000000 else 0) := by
      by_cases hc : k < n
      · rw [if_pos (by rw [nI_lt' (by omega) (by omega)]; exact hc), if_pos hc]
      · rw [if_neg (by rw [nI_lt' (by omega) (by omega)]; exact hc), if_neg hc]
    refine wp_bindE val ?_
    unfold f_X11_tuned_J101
    refine wp_gd (nI_in' (by omega) (by omega)) (wp_bd (fun s7 hs7 => ?_))
    rw [nI_cl (by omega)] at hs7
    have hs7 : s7 = s_i τ 123 S (if k < n then 1000000 else 0) := hs7
    have u7 : ux (fun a _ => decide (a = 123)) σ s7 := by rw [hs7]; exact ux_s hu (decide_eq_true rfl)
    have o7 : ∀ S', S' ≠ S → g_i s7 123 S' = g_i τ 123 S' := fun S' h => by rw [hs7]; exact s_i_k h
    have e7 : g_i s7 123 S = if k < n then 1000000 else 0 := by rw [hs7]; exact s_i_eq _ _ _ _
    have inner : wp (lp (f_X11_tuned_L105 nmM (nI u) (nI st) (nI n) j (nI S) (nI k)) fu (0, s7)) (fun ρ => ux (fun a _ => decide (a = 123)) σ ρ ∧ (∀ S', S' ≠ S → g_i ρ 123 S' = g_i τ 123 S') ∧ (k ≤ n → g_i ρ 123 S = mv (Rf nt u st nL (n - k) k S))) := by
      refine wp_up nL (fun i s => s.1 = nI i ∧ ux (fun a _ => decide (a = 123)) σ s.2 ∧ (∀ S', S' ≠ S → g_i s.2 123 S' = g_i τ 123 S') ∧ (k < n → g_i s.2 123 S = mv (mn (fW nt (u + k * st) S (Rf nt u st nL (n - k - 1) (k + 1))) i)) ∧ (k = n → g_i s.2 123 S = 0)) (i := 0) (by omega) (by omega) ⟨rfl, u7, o7, fun h => by rw [e7, if_pos h]; rfl, fun h => by rw [e7, if_neg (by omega)]⟩ ?_
      rintro i ⟨v, ρ⟩ hi ⟨hv, hur, hor, hkr, hnr⟩
      have hv : v = nI i := hv
      have hur : ux (fun a _ => decide (a = 123)) σ ρ := hur
      have hor : ∀ S', S' ≠ S → g_i ρ 123 S' = g_i τ 123 S' := hor
      have hkr : k < n → g_i ρ 123 S = mv (mn (fW nt (u + k * st) S (Rf nt u st nL (n - k - 1) (k + 1))) i) := hkr
      have hnr : k = n → g_i ρ 123 S = 0 := hnr
      subst hv
      unfold f_X11_tuned_L105
      show wp (if g_i ρ (nmM 0) 0 ≤ nI i then some (Sum.inr ρ) else _) _
      rw [show g_i ρ (nmM 0) 0 = nI nL from (hur 101 0 rfl).trans h0]
      refine wp_ite (fun hc => ?_) (fun hc => ?_)
      · rw [nI_le' (by omega) (by omega)] at hc
        have : i = nL := by omega
        subst this
        refine wp_some ⟨hur, hor, fun hkn => ?_⟩
        by_cases e : k = n
        · rw [hnr e, e, Nat.sub_self]; rfl
        · rw [hkr (by omega), show n - k = (n - k - 1) + 1 by omega]; rfl
      · rw [nI_le' (by omega) (by omega)] at hc
        refine wp_ite (fun hc2 => ?_) (fun hc2 => ?_)
        · rw [nI_le' (by omega) (by omega)] at hc2
          refine wp_some ⟨hur, hor, fun hkn => ?_⟩
          have e : k = n := by omega
          rw [hnr e, e, Nat.sub_self]; rfl
        · rw [nI_le' (by omega) (by omega)] at hc2
          have hkn : k < n := by omega
          refine wp_bindE (has_eq (by omega)) ?_
          have hcur := hkr hkn
          have val : (if (if S.testBit i then (1 : Int32) else 0) = 0 then gd (vp_in (nI S) 1024) ((f_X11_tuneBy nmM (nI S) (nI i) (nI u + (nI st * nI k)) ρ).bind (fun q9 => (f_X11_lesser (g_i ρ (nmM 22) (nI S).toNatClampNeg) q9).bind (fun q10 => some q10))) else gd (vp_in (nI S) 1024) (some (g_i ρ (nmM 22) (nI S).toNatClampNeg))) = some (mv (mn (fW nt (u + k * st) S (Rf nt u st nL (n - k - 1) (k + 1))) (i + 1))) := by
            have eS : g_i ρ (nmM 22) (nI S).toNatClampNeg = mv (mn (fW nt (u + k * st) S (Rf nt u st nL (n - k - 1) (k + 1))) i) := by
              rw [nI_cl (by omega)]; exact hcur
            rw [eS, mn_s]
            cases hb : S.testBit i with
            | true =>
              rw [if_neg (by rw [if_pos rfl]; decide), gd_t (nI_in' (by omega) (by omega))]
              have hf : fW nt (u + k * st) S (Rf nt u st nL (n - k - 1) (k + 1)) i = 100000 := by unfold fW; rw [if_pos (Or.inl hb)]
              have := mn_le (fW nt (u + k * st) S (Rf nt u st nL (n - k - 1) (k + 1))) i
              rw [hf, Nat.min_eq_left this]
            | false =>
              rw [if_pos (by rw [if_neg (by decide)]), gd_t (nI_in' (by omega) (by omega)), nI_mul, nI_add, Nat.mul_comm st k]
              have hpo := popc_or (show i < 10 by omega) hb
              rw [hk] at hpo
              have hgt := or_gt hb
              have hT := ht (S ||| 2 ^ i) (by omega) (or_lt2 (by omega) (by omega)) (by omega)
              rw [hpo] at hT
              rw [tune_c (V := Rf nt u st nL (n - k - 1) (k + 1)) hn (by omega) (by omega) (by rw [hur 102 _ rfl]; exact hnt i (by omega)) (lnot hkn hun) (by rw [hor _ (by omega), hT, Nat.sub_sub]), bnd, lesser_c (mn_le _ _) hb (lnot hkn hun) (fun hz => by
                have := Rf_fin (nt := nt) (nL := nL) (n - k - 1) (k + 1) (S ||| 2 ^ i) (fun j hj => lnot (show j < n by omega) hun) hz
                omega), bnd]
          refine wp_bindE val ?_
          unfold f_X11_tuned_J170
          refine wp_gd (nI_in' (by omega) (by omega)) (wp_bd (fun s hs => wp_some ⟨by omega, nI_1 i, ?_, fun S' h => ?_, fun _ => ?_, fun h => by omega⟩))
          · rw [hs]; exact ux_s hur (decide_eq_true rfl)
          · rw [hs, nI_cl (by omega)]
            show g_i (s_i ρ 123 S _) 123 S' = _
            rw [s_i_k h]; exact hor S' h
          · rw [hs, nI_cl (by omega)]
            exact s_i_eq ρ 123 S _
    obtain ⟨ρ, er, ur, or, kr⟩ := inner
    refine wp_bindE er (wp_some ⟨S, by omega, by omega, nI_a1 _, ur, fun S' h1 h2 h3 => ?_⟩)
    by_cases e : S' = S
    · rw [e] at h3 ⊢
      rw [hk] at h3 ⊢
      exact kr h3
    · show g_i ρ 123 S' = _
      rw [or S' e]; exact ht S' (by omega) h2 h3
