/-! tuned: which lamp; both -/
def fsN (P : Nat → Bool) : Nat → Nat → Nat
  | 0, i => i
  | f + 1, i => if P i = true then i else fsN P f (i + 1)
theorem fsN_ok {P : Nat → Bool} {l : Nat} : ∀ f i, i ≤ l → l < i + f → P l = true → P (fsN P f i) = true ∧ fsN P f i ≤ l ∧ i ≤ fsN P f i
  | 0, i, h1, h2, _ => by omega
  | f + 1, i, h1, h2, h => by
    unfold fsN
    by_cases hp : P i = true
    · rw [if_pos hp]; exact ⟨hp, h1, Nat.le_refl _⟩
    · rw [if_neg hp]
      have hne : i ≠ l := fun e => hp (by rw [e]; exact h)
      obtain ⟨a, b, c⟩ := fsN_ok f (i + 1) (by omega) (by omega) h
      exact ⟨a, b, by omega⟩
/-- the lamps chosen one by one: those that have a note, the last chosen -/
def selB (nt : Nat → Nat) (u st nL n k S l : Nat) : Bool := decide (fW nt (u + k * st) S (Rf nt u st nL (n - k - 1) (k + 1)) l = Rf nt u st nL (n - k) k S)
def pth (nt : Nat → Nat) (u st nL n : Nat) : Nat → Nat × Nat
  | 0 => (0, 0)
  | k + 1 => ((pth nt u st nL n k).1 ||| 2 ^ fsN (selB nt u st nL n k (pth nt u st nL n k).1) nL 0, fsN (selB nt u st nL n k (pth nt u st nL n k).1) nL 0)
theorem pth_ok {nt : Nat → Nat} {u st nL n : Nat} (hn : nL ≤ 10) (h : Rf nt u st nL n 0 0 < 100000) : ∀ k, k ≤ n → ((pth nt u st nL n k).1 < 2 ^ nL ∧ popc (pth nt u st nL n k).1 = k ∧ Rf nt u st nL (n - k) k (pth nt u st nL n k).1 < 100000)
  | 0, _ => ⟨Nat.two_pow_pos nL, (by decide : popc 0 = 0), h⟩
  | k + 1, hk => by
    obtain ⟨i1, i2, i3⟩ := pth_ok hn h k (by omega)
    show (pth nt u st nL n k).1 ||| 2 ^ fsN (selB nt u st nL n k (pth nt u st nL n k).1) nL 0 < 2 ^ nL ∧ popc ((pth nt u st nL n k).1 ||| 2 ^ fsN (selB nt u st nL n k (pth nt u st nL n k).1) nL 0) = k + 1 ∧ Rf nt u st nL (n - (k + 1)) (k + 1) ((pth nt u st nL n k).1 ||| 2 ^ fsN (selB nt u st nL n k (pth nt u st nL n k).1) nL 0) < 100000
    generalize (pth nt u st nL n k).1 = S at i1 i2 i3
    have e : Rf nt u st nL (n - k) k S = mn (fW nt (u + k * st) S (Rf nt u st nL (n - k - 1) (k + 1))) nL := by
      rw [show n - k = (n - k - 1) + 1 by omega]; rfl
    obtain ⟨l, hl, hf⟩ := mn_at _ nL (by rw [← e]; exact i3)
    obtain ⟨a, b, -⟩ := fsN_ok (P := selB nt u st nL n k S) (l := l) nL 0 (by omega) (by omega) (decide_eq_true (hf.trans e.symm))
    generalize fsN (selB nt u st nL n k S) nL 0 = q at a b
    have a := of_decide_eq_true a
    have hfin : fW nt (u + k * st) S (Rf nt u st nL (n - k - 1) (k + 1)) q < 100000 := by rw [a]; exact i3
    unfold fW at hfin
    by_cases hc : S.testBit q = true ∨ u + k * st < nt q
    · rw [if_pos hc] at hfin; omega
    · rw [if_neg hc] at hfin
      have hb : S.testBit q = false := Bool.eq_false_iff.mpr (fun e => hc (Or.inl e))
      refine ⟨or_lt2 i1 (by omega), by rw [popc_or (by omega) hb, i2], ?_⟩
      rw [← Nat.sub_sub]; omega
theorem sel_ex {nt : Nat → Nat} {u st nL n k S : Nat} (hk : k < n) (h3 : Rf nt u st nL (n - k) k S < 100000) : ∃ l, l < nL ∧ selB nt u st nL n k S l = true := by
  have e : Rf nt u st nL (n - k) k S = mn (fW nt (u + k * st) S (Rf nt u st nL (n - k - 1) (k + 1))) nL := by
    rw [show n - k = (n - k - 1) + 1 by omega]; rfl
  obtain ⟨l, hl, hf⟩ := mn_at _ nL (by rw [← e]; exact h3)
  exact ⟨l, hl, decide_eq_true (hf.trans e.symm)⟩
theorem fsN_step {P : Nat → Bool} {nL i : Nat} (hi : i < nL) (h : P i = false) (h0 : fsN P (nL - i) i = fsN P nL 0) : fsN P (nL - (i + 1)) (i + 1) = fsN P nL 0 := by
  rw [← h0, show nL - i = (nL - (i + 1)) + 1 by omega]
  show _ = (if P i = true then i else _)
  rw [if_neg (by rw [h]; decide)]
theorem fsN_here {P : Nat → Bool} {nL i : Nat} (hi : i < nL) (h : P i = true) (h0 : fsN P (nL - i) i = fsN P nL 0) : fsN P nL 0 = i := by
  rw [← h0, show nL - i = (nL - (i + 1)) + 1 by omega]
  show (if P i = true then i else _) = i
  rw [if_pos h]
theorem fks_c {nm : Nat → Nat} {nL n u st k S : Nat} {nt : Nat → Nat} {σ : jS} (hm : filNm nm) (hn : nL ≤ 10) (hn1 : n ≤ 10) (h32 : g_i σ 32 1 = nI nL) (hnt : ∀ l, l < nL → g_i σ 58 l = nI (nt l) ∧ nt l ≤ 63) (hun : u + (n - 1) * st ≤ 63) (ht : TC nt u st nL n 0 σ) (hk : k < n) (hS : S < 2 ^ nL) (hpc : popc S = k) (h3 : Rf nt u st nL (n - k) k S < 100000) : f_X0_firstKeepingSum nm (nI S) (nI (u + k * st)) σ = some (nI (fsN (selB nt u st nL n k S) nL 0)) := by
  have hp := pow10 hn
  obtain ⟨l0, hl0, hsel⟩ := sel_ex hk h3
  have hfs := fsN_ok (P := selB nt u st nL n k S) (l := l0) nL 0 (by omega) (by omega) hsel
  refine wp_eq ?_
  unfold f_X0_firstKeepingSum
  refine wp_bind ?_
  refine wp_up nL (fun i s => s = nI i ∧ i ≤ fsN (selB nt u st nL n k S) nL 0 ∧ fsN (selB nt u st nL n k S) (nL - i) i = fsN (selB nt u st nL n k S) nL 0) (i := 0) (by omega) (by omega) ⟨rfl, by omega, rfl⟩ ?_
  rintro i s hi ⟨rfl, hle, h0⟩
  unfold f_X0_firstKeepingSum_L2
  have hla : f_X6_lamps (jn nm [1, 2, 3, 4, 5, 6, 7, 8, 9, 10, 11, 12, 13, 14, 15, 16, 17]) σ = some (nI nL) := by
    show some (g_i σ (nm 2) 1) = _
    rw [hm.1, h32]
  refine wp_bindE hla ?_
  have hin : i < nL := by omega
  rw [if_neg (by rw [nI_le' (by omega) (by omega)]; omega), if_neg (show ¬ (1024 : Int32) ≤ nI S from fun e => by
    have e : nI 1024 ≤ nI S := e
    rw [nI_le' (by omega) (by omega)] at e; omega)]
  refine wp_bindE (rest_c (nt := nt) (V := Rf nt u st nL (n - k - 1) (k + 1)) hm hn hin hS (hnt i hin) (lnot hk hun) (fun hb => by
    have hpo := popc_or (show i < 10 by omega) hb
    have := ht (S ||| 2 ^ i) (Nat.zero_le _) (or_lt2 hS hin) (by omega)
    rw [hpo, hpc] at this
    rw [this, Nat.sub_sub])) ?_
  refine wp_gd (nI_in' (by omega) (by omega)) ?_
  have eS : g_i σ (nm 24) (nI S).toNatClampNeg = nI (Rf nt u st nL (n - k) k S) := by
    rw [nI_cl (by omega), hm.2.2]
    have := ht S (Nat.zero_le _) hS (by omega)
    rw [hpc] at this
    exact this
  rw [eS]
  have hfb : fW nt (u + k * st) S (Rf nt u st nL (n - k - 1) (k + 1)) i ≤ 200000 := by
    unfold fW
    have := Rf_le nt u st nL (n - k - 1) (k + 1) (S ||| 2 ^ i)
    have := lnot hk hun
    split <;> omega
  refine wp_ite (fun he => ?_) (fun he => ?_)
  · rw [nI_inj (by omega) (by omega)] at he
    refine wp_some (wp_some ?_)
    rw [fsN_here hin (decide_eq_true he) h0]
  · rw [nI_inj (by omega) (by omega)] at he
    have hf : selB nt u st nL n k S i = false := decide_eq_false he
    refine wp_some ⟨by omega, nI_1 i, ?_, fsN_step hin hf h0⟩
    by_cases e : i = fsN (selB nt u st nL n k S) nL 0
    · rw [← e, hf] at hfs; cases hfs.1
    · omega
theorem lot_c {nm : Nat → Nat} {nL n u st j : Nat} {nt : Nat → Nat} {σ : jS} (hm : filNm nm) (hn : nL ≤ 10) (hn1 : n ≤ 10) (h32 : g_i σ 32 1 = nI nL) (hnt : ∀ l, l < nL → g_i σ 58 l = nI (nt l) ∧ nt l ≤ 63) (hun : u + (n - 1) * st ≤ 63) (ht : TC nt u st nL n 0 σ) (hj : j < n) (h : Rf nt u st nL n 0 0 < 100000) : f_X0_lampOfTuned nm (nI u) (nI st) (nI j) σ = some (nI (pth nt u st nL n (j + 1)).2) := by
  have hp := pow10 hn
  refine wp_eq ?_
  unfold f_X0_lampOfTuned
  refine wp_bind ?_
  refine wp_up (j + 1) (fun k s => s = (nI (pth nt u st nL n k).1, (if k = 0 then -1 else nI (pth nt u st nL n k).2), nI k)) (i := 0) (by omega) (by omega) rfl ?_
  rintro k s hk rfl
  unfold f_X0_lampOfTuned_L9
  show wp (if nI j < nI k then some (Sum.inr (Sum.inl (if k = 0 then -1 else nI (pth nt u st nL n k).2))) else (f_X0_firstKeepingSum nm (nI (pth nt u st nL n k).1) (nI u + (nI k * nI st)) σ).bind _) _
  refine wp_ite (fun hc => ?_) (fun hc => ?_)
  · rw [nI_lt' (by omega) (by omega)] at hc
    have : k = j + 1 := by omega
    subst this
    refine wp_some (wp_some ?_)
    rw [if_neg (by omega)]
  · rw [nI_lt' (by omega) (by omega)] at hc
    obtain ⟨i1, i2, i3⟩ := pth_ok hn h k (by omega)
    rw [nI_mul, nI_add]
    refine wp_bindE (fks_c hm hn hn1 h32 hnt hun ht (by omega) i1 i2 i3) ?_
    obtain ⟨l0, hl0, hsel⟩ := sel_ex (show k < n by omega) i3
    have hfs := fsN_ok (P := selB nt u st nL n k (pth nt u st nL n k).1) (l := l0) nL 0 (by omega) (by omega) hsel
    rw [if_neg (fun e => by
      have e := congrArg Int32.toInt e
      rw [nI_ti (by omega)] at e
      have z : (-1 : Int32).toInt = -1 := by decide
      rw [z] at e; omega)]
    refine wp_bd (fun x hx => wp_some ⟨by omega, ?_⟩)
    rw [hx, nI_orb (by omega), nI_1, if_neg (by omega)]
    rfl
theorem mlot_c {nL n u st j : Nat} {nt : Nat → Nat} {σ : jS} (hn : nL ≤ 10) (hn1 : n ≤ 10) (hnt : ∀ l, l < nL → g_i σ 102 (4 * l + 1) = nI (nt l) ∧ nt l ≤ 63) (hun : u + (n - 1) * st ≤ 63) (ht : TM nt u st nL n 0 σ) (hj : j < n) (h : Rf nt u st nL n 0 0 < 100000) : lp (f_X11_tuned_L249 nmM (nI u) (nI st) (nI j) σ) fu (0, (-1), 0) = some (nI (pth nt u st nL n (j + 1)).2) := by
  have hp := pow10 hn
  refine wp_eq ?_
  refine wp_up (j + 1) (fun k s => s = (nI (pth nt u st nL n k).1, (if k = 0 then -1 else nI (pth nt u st nL n k).2), nI k)) (i := 0) (by omega) (by omega) rfl ?_
  rintro k s hk rfl
  unfold f_X11_tuned_L249
  show wp (if nI j < nI k then some (Sum.inr (if k = 0 then -1 else nI (pth nt u st nL n k).2)) else (lp (f_X11_tuned_L259 nmM (nI u) (nI st) (nI j) (nI (pth nt u st nL n k).1) (nI k) σ) fu 0).bind _) _
  refine wp_ite (fun hc => ?_) (fun hc => ?_)
  · rw [nI_lt' (by omega) (by omega)] at hc
    have : k = j + 1 := by omega
    subst this
    refine wp_some ?_
    rw [if_neg (by omega)]
  · rw [nI_lt' (by omega) (by omega)] at hc
    obtain ⟨i1, i2, i3⟩ := pth_ok hn h k (by omega)
    obtain ⟨l0, hl0, hsel⟩ := sel_ex (show k < n by omega) i3
    have hfs := fsN_ok (P := selB nt u st nL n k (pth nt u st nL n k).1) (l := l0) nL 0 (by omega) (by omega) hsel
    have hkn : k < n := by omega
    have inner : lp (f_X11_tuned_L259 nmM (nI u) (nI st) (nI j) (nI (pth nt u st nL n k).1) (nI k) σ) fu 0 = some (nI (fsN (selB nt u st nL n k (pth nt u st nL n k).1) nL 0)) := by
      generalize (pth nt u st nL n k).1 = S at i1 i2 i3 hfs hsel
      refine wp_eq ?_
      refine wp_up nL (fun i s => s = nI i ∧ i ≤ fsN (selB nt u st nL n k S) nL 0 ∧ fsN (selB nt u st nL n k S) (nL - i) i = fsN (selB nt u st nL n k S) nL 0) (i := 0) (by omega) (by omega) ⟨rfl, by omega, rfl⟩ ?_
      rintro i s hi ⟨rfl, hle, h0⟩
      have hin : i < nL := by omega
      unfold f_X11_tuned_L259
      refine wp_bindE (has_eq (by omega)) ?_
      cases hb : S.testBit i with
      | true =>
        rw [if_neg (show ¬ (if true = true then (1 : Int32) else 0) = 0 by decide)]
        have hf : selB nt u st nL n k S i = false := decide_eq_false (fun e => by
          unfold fW at e
          rw [if_pos (Or.inl hb)] at e
          omega)
        refine wp_some ⟨by omega, nI_1 i, ?_, fsN_step hin hf h0⟩
        by_cases e : i = fsN (selB nt u st nL n k S) nL 0
        · rw [← e, hf] at hfs; cases hfs.1
        · omega
      | false =>
        rw [if_pos (show (if false = true then (1 : Int32) else 0) = 0 by decide), nI_mul, nI_add, Nat.mul_comm st k]
        have hpo := popc_or (show i < 10 by omega) hb
        have hT := ht (S ||| 2 ^ i) (Nat.zero_le _) (or_lt2 i1 hin) (by omega)
        rw [hpo, i2] at hT
        have hV2 : Rf nt u st nL (n - k - 1) (k + 1) (S ||| 2 ^ i) < 100000 → Rf nt u st nL (n - k - 1) (k + 1) (S ||| 2 ^ i) ≤ 630 := fun hz => by
          have := Rf_fin (nt := nt) (nL := nL) (n - k - 1) (k + 1) (S ||| 2 ^ i) (fun j hj => lnot (show j < n by omega) hun) hz
          omega
        refine wp_bindE (tune_c (V := Rf nt u st nL (n - k - 1) (k + 1)) hn hin i1 (hnt i hin) (lnot hkn hun) (by rw [hT, Nat.sub_sub])) ?_
        refine wp_gd (nI_in' (by omega) (by omega)) ?_
        have eS : g_i σ (nmM 22) (nI S).toNatClampNeg = mv (Rf nt u st nL (n - k) k S) := by
          rw [nI_cl (by omega)]
          have := ht S (Nat.zero_le _) i1 (by omega)
          rw [i2] at this
          exact this
        rw [eS]
        have hiff : tv nt (u + k * st) S (Rf nt u st nL (n - k - 1) (k + 1)) i = mv (Rf nt u st nL (n - k) k S) ↔ selB nt u st nL n k S i = true := by
          have t1 := tv_ti (nt := nt) (S := S) (l := i) (lnot hkn hun) hV2
          have t3 := mv_ti (x := Rf nt u st nL (n - k - 1) (k + 1) (S ||| 2 ^ i))
          have t4 := mv_ti (x := Rf nt u st nL (n - k) k S)
          rw [t3] at t1
          rw [if_pos i3] at t4
          unfold selB
          rw [decide_eq_true_iff, ← Int32.toInt_inj, t1, t4]
          have hf : fW nt (u + k * st) S (Rf nt u st nL (n - k - 1) (k + 1)) i = if u + k * st < nt i then 100000 else u + k * st - nt i + Rf nt u st nL (n - k - 1) (k + 1) (S ||| 2 ^ i) := by
            unfold fW
            by_cases hc : u + k * st < nt i
            · rw [if_pos (Or.inr hc), if_pos hc]
            · rw [if_neg (by rintro (h | h); rw [hb] at h; cases h; exact hc h), if_neg hc]
          rw [hf]
          by_cases hc : u + k * st < nt i
          · rw [if_pos hc, if_pos hc]; omega
          · rw [if_neg hc, if_neg hc]
            by_cases hz : Rf nt u st nL (n - k - 1) (k + 1) (S ||| 2 ^ i) < 100000
            · rw [if_pos hz]; omega
            · rw [if_neg hz]; omega
        refine wp_ite (fun he => ?_) (fun he => ?_)
        · refine wp_some ?_
          rw [fsN_here hin (hiff.mp he) h0]
        · have hf : selB nt u st nL n k S i = false := Bool.eq_false_iff.mpr (fun e => he (hiff.mpr e))
          refine wp_some ⟨by omega, nI_1 i, ?_, fsN_step hin hf h0⟩
          by_cases e : i = fsN (selB nt u st nL n k S) nL 0
          · rw [← e, hf] at hfs; cases hfs.1
          · omega
    refine wp_bindE inner (wp_bd (fun x hx => wp_some ⟨by omega, ?_⟩))
    rw [hx, nI_orb (by omega), nI_1, if_neg (by omega)]
    rfl
theorem filX : filNm (jn nmX [98, 31, 32, 33, 34, 35, 36, 37, 38, 39, 40, 41, 42, 43, 44, 45, 46, 47, 57, 58, 59, 60, 61, 99, 100]) := ⟨rfl, rfl, rfl⟩
theorem st_tuned (a b d j : Int32) : sII Rel (fun σ => f_X10_tuned nmX a b d j σ) (fun σ => f_X11_tuned nmM a b d j σ) := by
  intro σ hR
  obtain ⟨nL, m, hS, hN⟩ := rel_s hR
  show ∃ r σ1 τ, f_X10_tuned nmX a b d j σ = some (r, σ1) ∧ f_X11_tuned nmM a b d j σ1 = some (r, τ) ∧ Rel τ
  have hn := hS.1.1
  have hp := pow10 hn
  have l0 : (0 : Int32).toInt = 0 := by decide
  have l63 : (63 : Int32).toInt = 63 := by decide
  have l1 : (1 : Int32).toInt = 1 := by decide
  have l9 : (9 : Int32).toInt = 9 := by decide
  have l10 : (10 : Int32).toInt = 10 := by decide
  unfold f_X10_tuned f_X11_tuned
  by_cases ha : ¬ (0 ≤ a.toInt ∧ a.toInt ≤ 63)
  · rw [within_no (by rw [l0, l63]; exact ha), bnd, if_pos rfl]
    refine ⟨_, σ, σ, rfl, ?_, hR⟩
    rw [in_no (by rw [ti64]; exact ha), bnd, if_pos rfl]
  have ha := Classical.not_not.mp ha
  rw [within_yes (by rw [l0]; exact ha.1) (by rw [l63]; exact ha.2), bnd, if_neg i10]
  rw [in_yes (by rw [ti64]; exact ha.1) (by rw [ti64]; exact ha.2)]
  simp only [bnd, if_neg i10]
  by_cases hb : ¬ (1 ≤ b.toInt ∧ b.toInt ≤ 9)
  · rw [within_no (by rw [l1, l9]; exact hb), bnd, if_pos rfl]
    refine ⟨_, σ, σ, rfl, ?_, hR⟩
    rw [in_no (by rw [ti64]; exact hb), bnd, if_pos rfl]
  have hb := Classical.not_not.mp hb
  rw [within_yes (by rw [l1]; exact hb.1) (by rw [l9]; exact hb.2), bnd, if_neg i10]
  rw [in_yes (by rw [ti64]; exact hb.1) (by rw [ti64]; exact hb.2)]
  simp only [bnd, if_neg i10]
  by_cases hd : ¬ (1 ≤ d.toInt ∧ d.toInt ≤ 10)
  · rw [within_no (by rw [l1, l10]; exact hd), bnd, if_pos rfl]
    refine ⟨_, σ, σ, rfl, ?_, hR⟩
    rw [in_no (by rw [ti64]; exact hd), bnd, if_pos rfl]
  have hd := Classical.not_not.mp hd
  rw [within_yes (by rw [l1]; exact hd.1) (by rw [l10]; exact hd.2), bnd, if_neg i10]
  rw [in_yes (by rw [ti64]; exact hd.1) (by rw [ti64]; exact hd.2)]
  simp only [bnd, if_neg i10]
  obtain ⟨u, hu, rfl⟩ := rg_nI (x := a) (hi := 63) ⟨ha.1, ha.2⟩
  obtain ⟨st, hst, rfl⟩ := rg_nI (x := b) (hi := 9) ⟨by omega, hb.2⟩
  obtain ⟨n, hn1, rfl⟩ := rg_nI (x := d) (hi := 10) ⟨by omega, hd.2⟩
  rw [nI_ti (by omega)] at hd
  have hla : f_X6_lamps (jn nmX [31, 32, 33, 34, 35, 36, 37, 38, 39, 40, 41, 42, 43, 44, 45, 46, 47]) σ = some (nI nL) := congrArg some hS.2.1.1
  rw [hla, bnd]
  have hn0 : ∀ τ : jS, g_i τ 101 0 = nI nL → g_i τ (nmM 0) 0 = nI nL := fun τ h => h
  by_cases hnL : nL < n
  · rw [if_pos (by rw [nI_lt' (by omega) (by omega)]; exact hnL)]
    refine ⟨_, σ, σ, rfl, ?_, hR⟩
    rw [hn0 σ hS.2.1.2.2.2.2, if_pos (by rw [nI_lt' (by omega) (by omega)]; exact hnL)]
  rw [if_neg (by rw [nI_lt' (by omega) (by omega)]; exact hnL)]
  have hmul : (n - 1) * st ≤ 9 * 9 := Nat.mul_le_mul (by omega) (by omega)
  have e1 : nI u + (nI n - 1) * nI st = nI (u + (n - 1) * st) := by
    rw [show nI n - 1 = nI (n - 1) from nI_sb (b := 1) (by omega), nI_mul, nI_add]
  have e2 : nI u + nI st * (nI n - 1) = nI (u + (n - 1) * st) := by
    rw [show nI n - 1 = nI (n - 1) from nI_sb (b := 1) (by omega), nI_mul, nI_add, Nat.mul_comm]
  rw [e1]
  by_cases hun : ¬ (u + (n - 1) * st ≤ 63)
  · rw [if_neg (show ¬ nI (u + (n - 1) * st) < (64 : Int32) from fun e => by
      have e : _ < nI 64 := e
      rw [nI_lt' (by omega) (by omega)] at e; omega)]
    refine ⟨_, σ, σ, rfl, ?_, hR⟩
    rw [hn0 σ hS.2.1.2.2.2.2, if_neg (by rw [nI_lt' (by omega) (by omega)]; exact hnL), e2, if_neg (show ¬ nI (u + (n - 1) * st) ≤ (63 : Int32) from fun e => by
      have e : _ ≤ nI 63 := e
      rw [nI_le' (by omega) (by omega)] at e; omega)]
  have hun := Classical.not_not.mp hun
  rw [if_pos (show nI (u + (n - 1) * st) < (64 : Int32) from (nI_lt' (b := 64) (by omega) (by omega)).mpr (by omega))]
  obtain ⟨nt, hnt⟩ : ∃ nt : Nat → Nat, ∀ l, l < nL → g_i σ 58 l = nI (nt l) ∧ nt l ≤ 63 := by
    refine ⟨fun l => (g_i σ 58 l).toInt.toNat, fun l hl => ?_⟩
    have h := hN.1.1 l hl
    have h1 : 0 ≤ (g_i σ 58 l).toInt := h.1
    have h2 : (g_i σ 58 l).toInt ≤ 63 := h.2
    exact ⟨nI_oft h1, by show (g_i σ 58 l).toInt.toNat ≤ 63; omega⟩
  obtain ⟨τ, et, ut, tt⟩ := leastSum_c (n := n) (u := u) (st := st) filX hn hS.2.1.1 hnt hn1 hun
  have uts : ux wSc σ τ := ux_w ut (fun a k hk => by
    have hk := of_decide_eq_false hk
    exact decide_eq_false (by omega))
  have hntM : ∀ l, l < nL → g_i τ 102 (4 * l + 1) = nI (nt l) ∧ nt l ≤ 63 := fun l hl => by
    rw [ut 102 _ rfl, hN.2.1 l hl]; exact hnt l hl
  have h0τ : g_i τ 101 0 = nI nL := (ut 101 0 rfl).trans hS.2.1.2.2.2.2
  obtain ⟨ρ, er, ur, tr⟩ := mtable_c (n := n) (u := u) (st := st) (j := j) hn h0τ hntM hn1 hun
  have urs : ux wSc τ ρ := ux_w ur (fun a k hk => by
    have hk := of_decide_eq_false hk
    exact decide_eq_false (by omega))
  have hRρ : Rel ρ := rel_sc (ux_tr uts urs) hR
  have eall : f_X11_all nmM τ = some (nI (2 ^ nL) - 1) := by
    show some (((1 : Int32) <<< (g_i τ (nmM 0) 0 &&& 31)) - 1) = _
    rw [hn0 τ h0τ, all_eq nL hn]
    exact congrArg some (nI_sb (a := 2 ^ nL) (b := 1) (by have := Nat.two_pow_pos nL; omega)).symm
  have hv : g_i ρ (nmM 22) (0 : Int32).toNatClampNeg = mv (Rf nt u st nL n 0 0) := by
    have := tr 0 (Nat.le_refl _) (Nat.two_pow_pos nL) (by rw [show popc 0 = 0 by decide]; omega)
    rw [show popc 0 = 0 by decide] at this
    exact this
  have lE : (1000000 : Int32).toInt = 1000000 := by decide
  have v01 : vp_in 0 1024 := nI_in' (n := 0) (by omega) (by omega)
  rw [et, bnd]
  have mpre : ∀ r, (if (1000000 : Int32) ≤ mv (Rf nt u st nL n 0 0) then f_X11_tuned_J201 nmM ρ else if j = (-1) then f_X11_tuned_J201 nmM ρ else (f_X11_in (j.toInt64) 0 ((nI n - 1).toInt64)).bind (fun q15 => if q15 = 0 then some ((-1), ρ) else (lp (f_X11_tuned_L249 nmM (nI u) (nI st) j ρ) fu (0, (-1), 0)).bind (fun e20 => some (e20, ρ)))) = some (r, ρ) → (if g_i τ (nmM 0) 0 < nI n then some ((-1003 : Int32), τ) else if nI u + nI st * (nI n - 1) ≤ 63 then (f_X11_all nmM τ).bind (fun q4 => (lp (f_X11_tuned_L70 nmM (nI u) (nI st) (nI n) j) fu (q4, τ)).bind (fun s14 => gd (vp_in 0 1024) (if 1000000 ≤ g_i s14 (nmM 22) (0 : Int32).toNatClampNeg then f_X11_tuned_J201 nmM s14 else if j = (-1) then f_X11_tuned_J201 nmM s14 else (f_X11_in (j.toInt64) 0 ((nI n - 1).toInt64)).bind (fun q15 => if q15 = 0 then some ((-1), s14) else (lp (f_X11_tuned_L249 nmM (nI u) (nI st) j s14) fu (0, (-1), 0)).bind (fun e20 => some (e20, s14)))))) else some ((-1003), τ)) = some (r, ρ) := fun r h => by
    rw [hn0 τ h0τ, if_neg (by rw [nI_lt' (by omega) (by omega)]; exact hnL), e2, if_pos (show nI (u + (n - 1) * st) ≤ (63 : Int32) from (nI_le' (b := 63) (by omega) (by omega)).mpr hun), eall, bnd, er, bnd, gd_t v01, hv]
    exact h
  have j201 : f_X11_tuned_J201 nmM ρ = some (if Rf nt u st nL n 0 0 < 100000 then nI (Rf nt u st nL n 0 0) else -1, ρ) := by
    unfold f_X11_tuned_J201
    rw [gd_t v01, gd_t v01, hv]
    by_cases hc : Rf nt u st nL n 0 0 < 100000
    · rw [if_pos (Int32.lt_iff_toInt_lt.mpr (by rw [mv_ti, if_pos hc, lE]; omega)), if_pos hc]
      unfold mv; rw [if_pos hc]
    · rw [if_neg (fun e => by have := Int32.lt_iff_toInt_lt.mp e; rw [mv_ti, if_neg hc, lE] at this; omega), if_neg hc]
  by_cases hc : Rf nt u st nL n 0 0 < 100000
  · have hnE : ¬ (1000000 : Int32) ≤ mv (Rf nt u st nL n 0 0) := fun e => by
      have := Int32.le_iff_toInt_le.mp e
      rw [mv_ti, if_pos hc, lE] at this; omega
    rw [if_pos hc] at j201 ⊢
    have hne : ¬ nI (Rf nt u st nL n 0 0) = -1 := fun e => by
      have e := congrArg Int32.toInt e
      rw [nI_ti (by omega)] at e
      have z : (-1 : Int32).toInt = -1 := by decide
      rw [z] at e; omega
    show ∃ r σ1 τ', (if j = -1 then some (nI (Rf nt u st nL n 0 0), τ) else if nI (Rf nt u st nL n 0 0) = -1 then some (nI (Rf nt u st nL n 0 0), τ) else if j < 0 then some (-1, τ) else if nI n ≤ j then some (-1, τ) else (f_X0_lampOfTuned (jn nmX [98, 31, 32, 33, 34, 35, 36, 37, 38, 39, 40, 41, 42, 43, 44, 45, 46, 47, 57, 58, 59, 60, 61, 99, 100]) (nI u) (nI st) j τ).bind (fun q7 => some (q7, τ))) = some (r, σ1) ∧ _
    by_cases hj : j = -1
    · rw [if_pos hj]
      exact ⟨_, τ, ρ, rfl, mpre _ (by rw [if_neg hnE, if_pos hj]; exact j201), hRρ⟩
    rw [if_neg hj, if_neg hne]
    have hnm1 : ((nI n - 1).toInt64).toInt = (n : Int) - 1 := by rw [ti64, nI_sub1 (by omega)]
    by_cases hjr : 0 ≤ j.toInt ∧ j.toInt ≤ (n : Int) - 1
    · have hin := in_yes (x := j.toInt64) (y := 0) (z := (nI n - 1).toInt64) (by rw [ti64]; exact hjr.1) (by rw [ti64, hnm1]; exact hjr.2)
      obtain ⟨jj, hjj, rfl⟩ := (nI_iff (a := j) (n := n) (by omega)).mpr ⟨hjr.1, by omega⟩
      rw [if_neg (nI_neg0 (by omega)), if_neg (by rw [nI_le' (by omega) (by omega)]; omega)]
      rw [lot_c filX hn hn1 ((ut 32 1 rfl).trans hS.2.1.1) (fun l hl => by rw [ut 58 l rfl]; exact hnt l hl) hun tt hjj hc, bnd]
      exact ⟨_, τ, ρ, rfl, mpre _ (by rw [if_neg hnE, if_neg hj, hin, bnd, if_neg i10, mlot_c hn hn1 (fun l hl => by rw [ur 102 _ rfl]; exact hntM l hl) hun tr hjj hc, bnd]), hRρ⟩
    · have hin := in_no (x := j.toInt64) (y := 0) (z := (nI n - 1).toInt64) (by rw [ti64, hnm1]; exact hjr)
      have hx : (if j < 0 then some ((-1 : Int32), τ) else if nI n ≤ j then some (-1, τ) else (f_X0_lampOfTuned (jn nmX [98, 31, 32, 33, 34, 35, 36, 37, 38, 39, 40, 41, 42, 43, 44, 45, 46, 47, 57, 58, 59, 60, 61, 99, 100]) (nI u) (nI st) j τ).bind (fun q7 => some (q7, τ))) = some (-1, τ) := by
        by_cases h0 : j < 0
        · rw [if_pos h0]
        · rw [if_neg h0, if_pos]
          have h0 := mt Int32.lt_iff_toInt_lt.mpr h0
          rw [l0] at h0
          rw [Int32.le_iff_toInt_le, nI_ti (by omega)]
          omega
      rw [hx]
      exact ⟨_, τ, ρ, rfl, mpre _ (by rw [if_neg hnE, if_neg hj, hin, bnd, if_pos rfl]), hRρ⟩
  · have hnE : (1000000 : Int32) ≤ mv (Rf nt u st nL n 0 0) := Int32.le_iff_toInt_le.mpr (by rw [mv_ti, if_neg hc, lE]; omega)
    rw [if_neg hc] at j201 ⊢
    refine ⟨-1, τ, ρ, ?_, mpre _ (by rw [if_pos hnE]; exact j201), hRρ⟩
    show (if j = -1 then some ((-1 : Int32), τ) else if (-1 : Int32) = -1 then some (-1, τ) else _) = _
    by_cases hj : j = -1
    · rw [if_pos hj]
    · rw [if_neg hj, if_pos rfl]
