/-! fewest: which notes, class side; the reference's table -/
theorem lst_one {Fam : Nat → Prop} {v c M : Nat} (hl : Lst Fam v M) (h1 : Cv Fam c M) (h2 : ∀ j, j < c → ¬ Cv Fam j M) : v = c := by
  rcases hl with ⟨-, a2, a3⟩ | ⟨-, a2⟩
  · have : ¬ c < v := fun z => a3 c z h1
    have : ¬ v < c := fun z => h2 v z a2
    omega
  · exact absurd h1 (a2 c)
theorem useful_c {nm : Nat → Nat} {R : Nat → Nat} {M c k : Nat} {σ : jS} (hm : whNm nm) (hM : M < 1024) (hT : TL (FN R 0) M (M + 1) σ) (h90 : ∀ t, t < 64 → g_i σ 90 t = nI (R t &&& M)) (hR : ∀ t, R t < 1024) (h1 : Cv (FN R 0) c M) (h2 : ∀ j, j < c → ¬ Cv (FN R 0) j M) (hk : k < c) : f_X9_firstUseful nm (nI (sqM R c M k)) σ = some (nI (sqN R c M k)) := by
  have m9 := hm.2.2.2.2.2.2.2
  obtain ⟨i1, i2, i3⟩ := sq_ok h1 h2 k (by omega)
  obtain ⟨f1, f2, f3⟩ := sq_ex h1 h2 hk
  have hX := sub_le i3
  generalize hXe : sqM R c M k = X at i1 i2 i3 hX f2 f3
  generalize hQe : sqN R c M k = Q at f1 f2 f3
  obtain ⟨v, ev, hl, hvb⟩ := hT X (by omega) i3
  have hv : v = c - k := lst_one hl i1 i2
  refine wp_eq ?_
  unfold f_X9_firstUseful
  refine wp_bind ?_
  refine wp_up 64 (fun t s => s = nI t ∧ t ≤ Q) (i := 0) (by omega) (by omega) ⟨rfl, by omega⟩ ?_
  rintro t s ht ⟨rfl, htQ⟩
  unfold f_X9_firstUseful_L2
  rw [if_neg (show ¬ (64 : Int32) ≤ nI t from fun e => by
    have e : nI 64 ≤ nI t := e
    rw [nI_le' (by omega) (by omega)] at e; omega)]
  refine wp_gd (nI_in' (by omega) (by omega)) ?_
  rw [nI_cl (by omega), m9, h90 t (by omega), nI_sd, sd_and i3]
  have hYs : sub (sd X (R t)) M := sub_trans (sd_sub _ _) i3
  have hY := sub_le hYs
  refine wp_bindE (lfor_c hm (by omega)) (wp_bindE (lfor_c hm (by omega)) ?_)
  obtain ⟨vy, evy, hly, hvyb⟩ := hT (sd X (R t)) (by omega) hYs
  rw [ev, evy]
  have hvy : vy ≤ 100000 := by rcases hvyb with h | h <;> omega
  have hvv : v ≤ 100000 := by rcases hvb with h | h <;> omega
  have iff1 : vy < v ↔ US R X (c - k) t = true := by
    rw [US_t]
    constructor
    · intro h
      rcases hly with ⟨a1, a2, a3⟩ | ⟨a1, a2⟩
      · exact cv_le (by omega) a2
      · omega
    · intro h
      rcases hly with ⟨a1, a2, a3⟩ | ⟨a1, a2⟩
      · have : ¬ c - k - 1 < vy := fun z => a3 _ z h
        omega
      · exact absurd h (a2 _)
  refine wp_ite (fun hle => ?_) (fun hle => ?_)
  · rw [nI_le' (by omega) (by omega)] at hle
    have hne : t ≠ Q := fun e => by
      rw [← e] at f2
      have := iff1.mpr f2
      omega
    exact wp_some ⟨by omega, nI_1 t, by omega⟩
  · rw [nI_le' (by omega) (by omega)] at hle
    have hu := iff1.mp (by omega)
    have : t = Q := by
      by_cases e : t = Q
      · exact e
      · rw [f3 t (by omega)] at hu; cases hu
    rw [this]
    exact wp_some (wp_some rfl)
theorem nof_c {nm : Nat → Nat} {R : Nat → Nat} {M c i : Nat} {σ : jS} (hm : whNm nm) (hM : M < 1024) (hT : TL (FN R 0) M (M + 1) σ) (h90 : ∀ t, t < 64 → g_i σ 90 t = nI (R t &&& M)) (hR : ∀ t, R t < 1024) (h1 : Cv (FN R 0) c M) (h2 : ∀ j, j < c → ¬ Cv (FN R 0) j M) (hi : i < c) (hc : c < 100000) : f_X9_noteOfFewest nm (nI M) (nI i) σ = some (nI (sqN R c M i)) := by
  have m9 := hm.2.2.2.2.2.2.2
  refine wp_eq ?_
  unfold f_X9_noteOfFewest
  refine wp_bind ?_
  refine wp_up (i + 1) (fun k s => s = (nI (sqM R c M k), (if k = 0 then -1 else nI (sqN R c M (k - 1))), nI k)) (i := 0) (by omega) (by omega) rfl ?_
  rintro k s hk rfl
  unfold f_X9_noteOfFewest_L8
  show wp (if nI i < nI k then some (Sum.inr (Sum.inl (if k = 0 then -1 else nI (sqN R c M (k - 1))))) else (f_X9_firstUseful nm (nI (sqM R c M k)) σ).bind _) _
  refine wp_ite (fun hc1 => ?_) (fun hc1 => ?_)
  · rw [nI_lt' (by omega) (by omega)] at hc1
    have : k = i + 1 := by omega
    subst this
    refine wp_some (wp_some ?_)
    rw [if_neg (by omega)]; rfl
  · rw [nI_lt' (by omega) (by omega)] at hc1
    refine wp_bindE (useful_c hm hM hT h90 hR h1 h2 (by omega)) ?_
    obtain ⟨f1, -, -⟩ := sq_ex h1 h2 (show k < c by omega)
    obtain ⟨-, -, i3⟩ := sq_ok h1 h2 k (by omega)
    rw [if_neg (fun e => by
      have e := congrArg Int32.toInt e
      rw [nI_ti (by omega)] at e
      have z : (-1 : Int32).toInt = -1 := by decide
      rw [z] at e; omega)]
    refine wp_gd (nI_in' (by omega) (by omega)) (wp_bd (fun x2 hx2 => wp_some ⟨by omega, ?_⟩))
    rw [hx2, nI_cl (by omega), m9, h90 _ f1, nI_sd, sd_and i3, nI_1, if_neg (by omega)]
    rfl
/-! the reference -/
def LF (R : Nat → Nat) (n v M : Nat) : Prop := (v + n ≤ 64 ∧ Cv (FN R n) v M ∧ ∀ j, j < v → ¬ Cv (FN R n) j M) ∨ (v = 1000000 ∧ ∀ j, ¬ Cv (FN R n) j M)
theorem lf_64 (R : Nat → Nat) (M : Nat) : LF R 64 (if M = 0 then 0 else 1000000) M := by
  by_cases h : M = 0
  · rw [if_pos h]; exact Or.inl ⟨by omega, h, fun j hj => absurd hj (Nat.not_lt_zero j)⟩
  · rw [if_neg h]; exact Or.inr ⟨rfl, fun j hc => h (fn_64 hc)⟩
theorem lf_step {R : Nat → Nat} {n v1 v2 M : Nat} (hn : n < 64) (h1 : LF R (n + 1) v1 M) (h2 : LF R (n + 1) v2 (sd M (R n))) : LF R n (min v1 (1 + v2)) M := by
  have low : ∀ j, Cv (FN R n) j M → v1 ≤ j ∨ 1 + v2 ≤ j := fun j hc => by
    have b1 : ∀ j, Cv (FN R (n + 1)) j M → v1 ≤ j := fun j hc => by
      rcases h1 with ⟨-, -, a⟩ | ⟨-, a⟩
      · exact Nat.le_of_not_lt (fun z => a j z hc)
      · exact absurd hc (a j)
    have b2 : ∀ j, Cv (FN R (n + 1)) j (sd M (R n)) → v2 ≤ j := fun j hc => by
      rcases h2 with ⟨-, -, a⟩ | ⟨-, a⟩
      · exact Nat.le_of_not_lt (fun z => a j z hc)
      · exact absurd hc (a j)
    cases j with
    | zero => exact Or.inl (b1 0 hc)
    | succ j =>
      rcases fn_st j M hc with h | h
      · exact Or.inl (b1 _ h)
      · have := b2 _ h; exact Or.inr (by omega)
  have fin1 : v1 + (n + 1) ≤ 64 → Cv (FN R n) v1 M := fun h => by
    rcases h1 with ⟨-, a, -⟩ | ⟨a, -⟩
    · exact fn_dn a
    · omega
  have fin2 : v2 + (n + 1) ≤ 64 → Cv (FN R n) (1 + v2) M := fun h => by
    rcases h2 with ⟨-, a, -⟩ | ⟨a, -⟩
    · rw [Nat.add_comm]; exact fn_bk hn a
    · omega
  have c1 : v1 + (n + 1) ≤ 64 ∨ v1 = 1000000 := by rcases h1 with ⟨a, -, -⟩ | ⟨a, -⟩; exact Or.inl a; exact Or.inr a
  have c2 : v2 + (n + 1) ≤ 64 ∨ v2 = 1000000 := by rcases h2 with ⟨a, -, -⟩ | ⟨a, -⟩; exact Or.inl a; exact Or.inr a
  by_cases hle : v1 ≤ 1 + v2
  · rw [Nat.min_eq_left hle]
    rcases c1 with h | h
    · exact Or.inl ⟨by omega, fin1 h, fun j hj hc => by rcases low j hc with z | z <;> omega⟩
    · refine Or.inr ⟨h, fun j hc => ?_⟩
      rcases h1 with ⟨a, -, -⟩ | ⟨-, a1⟩
      · omega
      · rcases h2 with ⟨a, -, -⟩ | ⟨-, a2⟩
        · omega
        · cases j with
          | zero => exact a1 0 hc
          | succ j =>
            rcases fn_st j M hc with z | z
            · exact a1 _ z
            · exact a2 _ z
  · rw [Nat.min_eq_right (by omega)]
    rcases c2 with h | h
    · exact Or.inl ⟨by omega, fin2 h, fun j hj hc => by rcases low j hc with z | z <;> omega⟩
    · omega
theorem mreach_c {n m to : Nat} {a0 v4 lo : Int32} {σ : jS} (hS : RSite n m σ) (hN : RNow n σ) (hlo : rg lo 1 50) (ht : to < 2 ^ n) : ∃ τ, lp (f_X11_fewest_L44 nmM a0 (nI to) lo v4) fu (0, σ) = some τ ∧ ux (fun a _ => decide (a = 119)) σ τ ∧ ∀ t, t < 64 → g_i τ 119 t = nI (Rn (Wt σ n lo) to t) := by
  have hp := pow10 hS.1.1
  suffices wp (lp (f_X11_fewest_L44 nmM a0 (nI to) lo v4) fu (0, σ)) (fun τ => ux (fun a _ => decide (a = 119)) σ τ ∧ ∀ t, t < 64 → g_i τ 119 t = nI (Rn (Wt σ n lo) to t)) by
    obtain ⟨τ, e, h⟩ := this
    exact ⟨τ, e, h⟩
  refine wp_up 64 (fun i s => s.1 = nI i ∧ ux (fun a _ => decide (a = 119)) σ s.2 ∧ ∀ t, t < i → g_i s.2 119 t = nI (Rn (Wt σ n lo) to t)) (i := 0) (by omega) (by omega) ⟨rfl, ux_refl _ _, fun t ht => absurd ht (Nat.not_lt_zero t)⟩ ?_
  rintro i ⟨v, τ⟩ hi ⟨hv, hu, hk⟩
  have hv : v = nI i := hv
  have hu : ux (fun a _ => decide (a = 119)) σ τ := hu
  have hk : ∀ t, t < i → g_i τ 119 t = nI (Rn (Wt σ n lo) to t) := hk
  subst hv
  unfold f_X11_fewest_L44
  show wp (if nI 64 ≤ nI i then some (Sum.inr τ) else _) _
  refine wp_ite (fun hc => ?_) (fun hc => ?_)
  · rw [nI_le' (by omega) (by omega)] at hc
    exact wp_some ⟨hu, fun t ht => hk t (by omega)⟩
  · rw [nI_le' (by omega) (by omega)] at hc
    refine wp_gd (nI_in' (by omega) (by omega)) (wp_bd (fun s4 h4 => wp_bind ?_))
    rw [nI_cl (by omega)] at h4
    have h4 : s4 = s_i τ 119 i 0 := h4
    refine wp_up 50 (fun p s => s.1 = nI p ∧ ux (fun a _ => decide (a = 119)) σ s.2 ∧ (∀ t, t < i → g_i s.2 119 t = nI (Rn (Wt σ n lo) to t)) ∧ g_i s.2 119 i = nI (unN (fun p => if sd (Wt σ n lo p i) to = 0 then Wt σ n lo p i else 0) p)) (i := 0) (by omega) (by omega) ⟨rfl, by rw [h4]; exact ux_s hu (decide_eq_true rfl), fun t ht => by rw [h4]; exact (s_i_k (by omega)).trans (hk t ht), by rw [h4]; exact s_i_eq _ _ _ _⟩ ?_
    rintro p ⟨v, ρ⟩ hp' ⟨hv, hur, hkr, hir⟩
    have hv : v = nI p := hv
    have hur : ux (fun a _ => decide (a = 119)) σ ρ := hur
    have hkr : ∀ t, t < i → g_i ρ 119 t = nI (Rn (Wt σ n lo) to t) := hkr
    have hir : g_i ρ 119 i = nI (unN (fun p => if sd (Wt σ n lo p i) to = 0 then Wt σ n lo p i else 0) p) := hir
    subst hv
    unfold f_X11_fewest_L62
    show wp (if nI 50 ≤ nI p then some (Sum.inr ρ) else _) _
    refine wp_ite (fun hc2 => ?_) (fun hc2 => ?_)
    · rw [nI_le' (by omega) (by omega)] at hc2
      have : p = 50 := by omega
      subst this
      refine wp_some (wp_some ⟨by omega, nI_1 i, hur, fun t ht => ?_⟩)
      show g_i ρ 119 t = _
      by_cases e : t = i
      · rw [e]; exact hir
      · exact hkr t (by omega)
    · rw [nI_le' (by omega) (by omega)] at hc2
      have usc : ux wSc σ ρ := ux_w hur (fun a k hk => by
        have hk := of_decide_eq_false hk
        exact decide_eq_false (by omega))
      have hwk := mwk (site_sc usc hS) (now_sc usc hN) (show p < 50 by omega) (show i < 64 by omega) hlo
      rw [Wt_sc usc] at hwk
      refine wp_bindE hwk (wp_gd (nI_in' (by omega) (by omega)) ?_)
      have wl := Wt_lt σ n lo p i
      have hs : (nI (Wt σ n lo p i) &&& (nI to ^^^ (-1))) = 0 ↔ sub (Wt σ n lo p i) to := nI_sub (Nat.lt_of_lt_of_le (show Wt σ n lo p i < 1024 by omega) (by decide))
      have ey : (if (nI (Wt σ n lo p i) &&& (nI to ^^^ (-1))) = 0 then some (nI (Wt σ n lo p i)) else some 0) = some (nI (if sd (Wt σ n lo p i) to = 0 then Wt σ n lo p i else 0)) := by
        by_cases h : sub (Wt σ n lo p i) to
        · rw [if_pos (hs.mpr h), if_pos (show sd (Wt σ n lo p i) to = 0 from h)]
        · rw [if_neg (fun z => h (hs.mp z)), if_neg (show ¬ sd (Wt σ n lo p i) to = 0 from h)]; rfl
      refine wp_bindE ey ?_
      unfold f_X11_fewest_J107
      rw [nI_cl (by omega), show g_i ρ (nmM 18) i = nI (unN (fun p => if sd (Wt σ n lo p i) to = 0 then Wt σ n lo p i else 0) p) from hir, nI_or]
      refine wp_gd (nI_in' (by omega) (by omega)) (wp_bd (fun s7 h7 => wp_some ⟨by omega, nI_1 p, ?_, fun t ht => ?_, ?_⟩))
      · rw [h7]; exact ux_s hur (decide_eq_true rfl)
      · show g_i s7 119 t = _
        rw [h7]
        exact (s_i_k (by omega)).trans (hkr t ht)
      · show g_i s7 119 i = _
        rw [h7]
        exact s_i_eq ρ 119 i _
theorem n1024 (a b : Nat) : (1024 : Int32) * nI a + nI b = nI (1024 * a + b) := by
  rw [show (1024 : Int32) * nI a = nI (1024 * a) from nI_mul 1024 a, nI_add]
def TF (R : Nat → Nat) (N n : Nat) (σ : jS) : Prop := ∀ k, n ≤ k → k ≤ 64 → ∀ M, M < 2 ^ N → ∃ v, v ≤ 1000000 ∧ g_i σ 120 (1024 * k + M) = nI v ∧ LF R k v M
theorem lf_le {R : Nat → Nat} {n v M : Nat} (h : LF R n v M) : v ≤ 1000000 := by
  rcases h with ⟨a, -, -⟩ | ⟨a, -⟩ <;> omega
theorem mtab_c {R : Nat → Nat} {N : Nat} {a0 b0 v4 : Int32} {σ : jS} (hN : N ≤ 10) (h0 : g_i σ 101 0 = nI N) (hR : ∀ t, t < 64 → g_i σ 119 t = nI (R t)) : ∃ τ, lp (f_X11_fewest_L125 nmM a0 b0 v4) fu (64, σ) = some τ ∧ ux (fun a _ => decide (a = 120)) σ τ ∧ TF R N 0 τ := by
  have hp := pow10 hN
  have hp1 := Nat.two_pow_pos N
  suffices wp (lp (f_X11_fewest_L125 nmM a0 b0 v4) fu (64, σ)) (fun τ => ux (fun a _ => decide (a = 120)) σ τ ∧ TF R N 0 τ) by
    obtain ⟨τ, e, h⟩ := this
    exact ⟨τ, e, h⟩
  refine wp_lp (fun q s => q ≤ 65 ∧ s.1 = nI q - 1 ∧ ux (fun a _ => decide (a = 120)) σ s.2 ∧ TF R N q s.2) (n := 65) (by omega) ⟨by omega, (by decide : (64 : Int32) = nI 65 - 1), ux_refl _ _, fun k h1 h2 => by omega⟩ ?_
  rintro q ⟨v, τ⟩ ⟨hq, hv, hu, hT⟩
  have hv : v = nI q - 1 := hv
  have hu : ux (fun a _ => decide (a = 120)) σ τ := hu
  have hT : TF R N q τ := hT
  subst hv
  unfold f_X11_fewest_L125
  show wp (if nI q - 1 < 0 then some (Sum.inr τ) else _) _
  cases q with
  | zero =>
    rw [if_pos neg1_lt]
    exact wp_some ⟨hu, hT⟩
  | succ n =>
    rw [nI_p1m, if_neg (nI_neg0 (by omega))]
    refine wp_bind ?_
    refine wp_up (2 ^ N) (fun i s => s.1 = nI i ∧ ux (fun a _ => decide (a = 120)) σ s.2 ∧ TF R N (n + 1) s.2 ∧ ∀ M, M < i → ∃ v, v ≤ 1000000 ∧ g_i s.2 120 (1024 * n + M) = nI v ∧ LF R n v M) (i := 0) (by omega) (by omega) ⟨rfl, hu, hT, fun M hM => absurd hM (Nat.not_lt_zero M)⟩ ?_
    rintro i ⟨v, ρ⟩ hi ⟨hv, hur, hTr, hir⟩
    have hv : v = nI i := hv
    have hur : ux (fun a _ => decide (a = 120)) σ ρ := hur
    have hTr : TF R N (n + 1) ρ := hTr
    have hir : ∀ M, M < i → ∃ v, v ≤ 1000000 ∧ g_i ρ 120 (1024 * n + M) = nI v ∧ LF R n v M := hir
    subst hv
    unfold f_X11_fewest_L133
    have eall : f_X11_all nmM ρ = some (nI (2 ^ N - 1)) := by
      show some (((1 : Int32) <<< (g_i ρ 101 0 &&& 31)) - 1) = _
      rw [hur 101 0 rfl, h0, all_eq N hN]
    show wp ((f_X11_all nmM ρ).bind _) _
    refine wp_bindE eall ?_
    refine wp_ite (fun hc => ?_) (fun hc => ?_)
    · rw [nI_lt' (by omega) (by omega)] at hc
      refine wp_some (wp_some ⟨n, by omega, by omega, nI_a1 _, hur, fun k h1 h2 M hM => ?_⟩)
      by_cases e : k = n
      · rw [e]; exact hir M (by omega)
      · exact hTr k (by omega) h2 M hM
    · rw [nI_lt' (by omega) (by omega)] at hc
      have hiN : i < 2 ^ N := by omega
      -- both values
      have vals : ∃ v1 w2, v1 ≤ 1000000 ∧ w2 ≤ 1000001 ∧ (if nI n = 64 then (if nI i = 0 then some (0 : Int32) else some 1000000) else gd (vp_in ((1024 * (nI n + 1)) + nI i) 66560) (some (g_i ρ (nmM 19) ((1024 * (nI n + 1)) + nI i).toNatClampNeg))) = some (nI v1) ∧ (if nI n = 64 then some (1000000 : Int32) else gd (vp_in (nI n) 64) (gd (vp_in ((1024 * (nI n + 1)) + (nI i &&& ((g_i ρ (nmM 18) (nI n).toNatClampNeg) ^^^ (-1)))) 66560) (some (1 + (g_i ρ (nmM 19) ((1024 * (nI n + 1)) + (nI i &&& ((g_i ρ (nmM 18) (nI n).toNatClampNeg) ^^^ (-1)))).toNatClampNeg))))) = some (nI w2) ∧ LF R n (min v1 w2) i := by
        by_cases h64 : n = 64
        · subst h64
          refine ⟨if i = 0 then 0 else 1000000, 1000000, by split <;> omega, by omega, ?_, ?_, ?_⟩
          · rw [if_pos (show nI 64 = (64 : Int32) from rfl)]
            by_cases e : i = 0
            · rw [if_pos (by rw [e]; rfl), if_pos e]; rfl
            · rw [if_neg (fun z => e ((nI_z (by omega)).mp z)), if_neg e]; rfl
          · rw [if_pos (show nI 64 = (64 : Int32) from rfl)]; rfl
          · have := lf_64 R i
            rw [Nat.min_eq_left (by split <;> omega)]
            exact this
        · have hne : ¬ nI n = 64 := fun e => by
            have e : nI n = nI 64 := e
            rw [nI_inj (by omega) (by omega)] at e; exact h64 e
          have hsl : sd i (R n) < 2 ^ N := sd_lt hiN
          obtain ⟨v1, b1, e1, l1⟩ := hTr (n + 1) (Nat.le_refl _) (by omega) i hiN
          obtain ⟨v2, b2, e2, l2⟩ := hTr (n + 1) (Nat.le_refl _) (by omega) (sd i (R n)) hsl
          refine ⟨v1, 1 + v2, b1, by omega, ?_, ?_, lf_step (by omega) l1 l2⟩
          · rw [if_neg hne, nI_1, n1024, gd_t (nI_in' (by omega) (by omega)), nI_cl (by omega)]
            exact congrArg some e1
          · rw [if_neg hne, gd_t (nI_in' (by omega) (by omega)), nI_1, nI_cl (show n < 2147483648 by omega), show g_i ρ (nmM 18) n = nI (R n) from (hur 119 n rfl).trans (hR n (by omega)), nI_sd, n1024, gd_t (nI_in' (by omega) (by omega)), nI_cl (by omega), show g_i ρ (nmM 19) (1024 * (n + 1) + sd i (R n)) = nI v2 from e2]
            show some (nI 1 + nI v2) = _
            rw [nI_add]
      obtain ⟨v1, w2, b1, b2, e1, e2, hl⟩ := vals
      refine wp_bindE e1 ?_
      unfold f_X11_fewest_J180
      refine wp_bindE e2 ?_
      unfold f_X11_fewest_J223
      have les : f_X11_lesser (nI v1) (nI w2) = some (nI (min v1 w2)) := by
        unfold f_X11_lesser
        by_cases hle : w2 ≤ v1
        · rw [if_pos (by rw [nI_le' (by omega) (by omega)]; exact hle), Nat.min_eq_right hle]
        · rw [if_neg (by rw [nI_le' (by omega) (by omega)]; exact hle), Nat.min_eq_left (by omega)]
      refine wp_bindE les ?_
      rw [n1024]
      refine wp_gd (nI_in' (by omega) (by omega)) (wp_bd (fun s14 h14 => wp_some ⟨by omega, nI_1 i, ?_, fun k h1 h2 M hM => ?_, fun M hM => ?_⟩))
      · rw [h14]; exact ux_s hur (decide_eq_true rfl)
      · obtain ⟨v, z1, z2, z3⟩ := hTr k h1 h2 M hM
        refine ⟨v, z1, ?_, z3⟩
        show g_i s14 120 _ = _
        rw [h14, nI_cl (by omega)]
        exact (s_i_k (by omega)).trans z2
      · show ∃ v, v ≤ 1000000 ∧ g_i s14 120 (1024 * n + M) = nI v ∧ _
        rw [h14, nI_cl (by omega)]
        show ∃ v, v ≤ 1000000 ∧ g_i (s_i ρ 120 (1024 * n + i) (nI (min v1 w2))) 120 (1024 * n + M) = nI v ∧ _
        by_cases e : M = i
        · rw [e, s_i_eq]; exact ⟨_, lf_le hl, rfl, hl⟩
        · rw [s_i_k (by omega)]; exact hir M (by omega)
