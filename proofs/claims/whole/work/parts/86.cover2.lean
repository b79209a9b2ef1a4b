/-! how few sets hold all of one: the class's table -/
def Cv (Fam : Nat → Prop) : Nat → Nat → Prop
  | 0, M => M = 0
  | k + 1, M => M = 0 ∨ ∃ w, Fam w ∧ Cv Fam k (sd M w)
theorem sd_zero (w : Nat) : sd 0 w = 0 := by
  apply Nat.eq_of_testBit_eq
  intro i
  rw [sd_bit, Nat.zero_testBit]; rfl
theorem cv_zero (Fam : Nat → Prop) : ∀ k, Cv Fam k 0
  | 0 => rfl
  | _ + 1 => Or.inl rfl
theorem cv_up {Fam : Nat → Prop} : ∀ k M, Cv Fam k M → Cv Fam (k + 1) M
  | 0, _, h => Or.inl h
  | k + 1, M, h => by
    rcases h with h | ⟨w, hw, h⟩
    · exact Or.inl h
    · exact Or.inr ⟨w, hw, cv_up k _ h⟩
theorem cv_le {Fam : Nat → Prop} {k j M : Nat} (hkj : k ≤ j) (h : Cv Fam k M) : Cv Fam j M := by
  obtain ⟨d, rfl⟩ : ∃ d, j = k + d := ⟨j - k, by omega⟩
  clear hkj
  induction d with
  | zero => exact h
  | succ d ih => exact cv_up _ _ ih
theorem sub_zero {M : Nat} (h : sub M 0) : M = 0 := by
  apply Nat.eq_of_testBit_eq
  intro i
  rw [Nat.zero_testBit]
  cases hb : M.testBit i with
  | false => rfl
  | true => have := sub_iff.mp h i hb; rw [Nat.zero_testBit] at this; cases this
theorem sd_mono {M M' w w' : Nat} (h : sub M M') (hw : sub w' w) : sub (sd M w) (sd M' w') := sub_iff.mpr (fun i hi => by
  rw [sd_bit] at hi ⊢
  obtain ⟨h1, h2⟩ := Bool.and_eq_true_iff.mp hi
  rw [sub_iff.mp h i h1]
  cases hb : w'.testBit i with
  | false => rfl
  | true => rw [sub_iff.mp hw i hb] at h2; cases h2)
theorem cv_sub {Fam : Nat → Prop} : ∀ k M M', sub M M' → Cv Fam k M' → Cv Fam k M
  | 0, M, M', h, hc => by
    have hc : M' = 0 := hc
    rw [hc] at h
    exact sub_zero h
  | k + 1, M, M', h, hc => by
    rcases hc with hc | ⟨w, hw, hc⟩
    · rw [hc] at h; exact Or.inl (sub_zero h)
    · exact Or.inr ⟨w, hw, cv_sub k _ _ (sd_mono h (sub_refl w)) hc⟩
theorem sd_comm3 (M w w' : Nat) : sd (sd M w) w' = sd (sd M w') w := by
  apply Nat.eq_of_testBit_eq
  intro i
  rw [sd_bit, sd_bit, sd_bit, sd_bit]
  cases M.testBit i <;> cases w.testBit i <;> cases w'.testBit i <;> rfl
theorem cv_bit {Fam : Nat → Prop} {b : Nat} : ∀ k M, Cv Fam (k + 1) M → M.testBit b = true → ∃ w, Fam w ∧ w.testBit b = true ∧ Cv Fam k (sd M w)
  | 0, M, h, hb => by
    rcases h with h | ⟨w, hw, h⟩
    · rw [h, Nat.zero_testBit] at hb; cases hb
    · have h : sd M w = 0 := h
      exact ⟨w, hw, sub_iff.mp h b hb, h⟩
  | k + 1, M, h, hb => by
    rcases h with h | ⟨w, hw, h⟩
    · rw [h, Nat.zero_testBit] at hb; cases hb
    · cases hwb : w.testBit b with
      | true => exact ⟨w, hw, hwb, h⟩
      | false =>
        obtain ⟨w', hw', hb', h'⟩ := cv_bit k (sd M w) h (by rw [sd_bit, hb, hwb]; rfl)
        refine ⟨w', hw', hb', Or.inr ⟨w, hw, ?_⟩⟩
        rw [← sd_comm3]; exact h'
def GOk (Fam : Nat → Prop) (top : Nat) (a : Nat → Nat) (n : Nat) : Prop := (∀ k, k < n → ∃ w, Fam w ∧ a k = w &&& top) ∧ (∀ w, Fam w → w &&& top ≠ 0 → ∃ k, k < n ∧ sub (w &&& top) (a k))
def Lst (Fam : Nat → Prop) (v M : Nat) : Prop := (v < 100000 ∧ Cv Fam v M ∧ ∀ j, j < v → ¬ Cv Fam j M) ∨ (v = 100000 ∧ ∀ j, ¬ Cv Fam j M)
theorem sd_and {M w top : Nat} (h : sub M top) : sd M (w &&& top) = sd M w := by
  apply Nat.eq_of_testBit_eq
  intro i
  rw [sd_bit, sd_bit, Nat.testBit_and]
  cases hm : M.testBit i with
  | false => rfl
  | true => rw [sub_iff.mp h i hm, Bool.and_true]
theorem sd_sub (M w : Nat) : sub (sd M w) M := sub_iff.mpr (fun i hi => by rw [sd_bit] at hi; exact (Bool.and_eq_true_iff.mp hi).1)
theorem sub_le {a b : Nat} (h : sub a b) : a ≤ b := by
  have : a &&& b = a := by
    apply Nat.eq_of_testBit_eq
    intro i
    rw [Nat.testBit_and]
    cases ha : a.testBit i with
    | false => rfl
    | true => rw [sub_iff.mp h i ha]; rfl
  rw [← this]; exact Nat.and_le_right
theorem sd_lt2 {M w b : Nat} (h1 : M.testBit b = true) (h2 : w.testBit b = true) : sd M w < M := by
  have hle := sub_le (sd_sub M w)
  have hne : sd M w ≠ M := fun e => by
    have := congrArg (fun z => z.testBit b) e
    simp only [sd_bit] at this
    rw [h1, h2] at this; cases this
  omega
theorem mn_le_at {f : Nat → Nat} {k : Nat} : ∀ {n : Nat}, k < n → mn f n ≤ f k
  | 0, h => absurd h (Nat.not_lt_zero k)
  | n + 1, h => by
    rw [mn_s]
    by_cases e : k = n
    · rw [e]; omega
    · have := mn_le_at (f := f) (show k < n by omega); omega
theorem lst_step {Fam : Nat → Prop} {top n M b : Nat} {a vv : Nat → Nat} (hG : GOk Fam top a n) (hM : sub M top) (hb : M.testBit b = true) (hM2 : M < 1024) (hv : ∀ x, x < M → sub x top → Lst Fam (vv x) x ∧ (vv x = 100000 ∨ vv x ≤ x)) : Lst Fam (mn (fun k => if (a k).testBit b = true then vv (sd M (a k)) + 1 else 100000) n) M ∧ (mn (fun k => if (a k).testBit b = true then vv (sd M (a k)) + 1 else 100000) n = 100000 ∨ mn (fun k => if (a k).testBit b = true then vv (sd M (a k)) + 1 else 100000) n ≤ M) := by
  have key : ∀ j, Cv Fam j M → ∃ k, k < n ∧ (a k).testBit b = true ∧ vv (sd M (a k)) + 1 ≤ j ∧ vv (sd M (a k)) < 1024 := fun j hj => by
    cases j with
    | zero =>
      have hj : M = 0 := hj
      rw [hj, Nat.zero_testBit] at hb; cases hb
    | succ j =>
      obtain ⟨w, hw, hwb, hc⟩ := cv_bit j M hj hb
      have hwt : (w &&& top).testBit b = true := by rw [Nat.testBit_and, hwb, sub_iff.mp hM b hb]; rfl
      obtain ⟨k, hk, hs⟩ := hG.2 w hw (fun e => by rw [e, Nat.zero_testBit] at hwt; cases hwt)
      have hkb := sub_iff.mp hs b hwt
      have hlt := sd_lt2 hb hkb
      have hc2 : Cv Fam j (sd M (a k)) := by
        refine cv_sub j _ _ ?_ hc
        rw [← sd_and (w := w) hM]
        exact sd_mono (sub_refl M) hs
      obtain ⟨hl, hbd⟩ := hv _ hlt (sub_trans (sd_sub M (a k)) hM)
      refine ⟨k, hk, hkb, ?_, ?_⟩
      · rcases hl with ⟨-, -, h3⟩ | ⟨-, h3⟩
        · have : ¬ j < vv (sd M (a k)) := fun z => h3 j z hc2
          omega
        · exact absurd hc2 (h3 j)
      · rcases hl with ⟨h1, -, -⟩ | ⟨-, h3⟩
        · rcases hbd with h | h <;> omega
        · exact absurd hc2 (h3 j)
  generalize hf : (fun k => if (a k).testBit b = true then vv (sd M (a k)) + 1 else 100000) = f
  have hfk : ∀ k, f k = if (a k).testBit b = true then vv (sd M (a k)) + 1 else 100000 := fun k => by rw [← hf]
  by_cases hc : mn f n < 100000
  · obtain ⟨k, hk, hkv⟩ := mn_at f n hc
    rw [hfk] at hkv
    by_cases hkb : (a k).testBit b = true
    · rw [if_pos hkb] at hkv
      have hlt := sd_lt2 hb hkb
      obtain ⟨hl, hbd⟩ := hv _ hlt (sub_trans (sd_sub M (a k)) hM)
      refine ⟨Or.inl ⟨hc, ?_, fun j hj hcj => ?_⟩, Or.inr (by rcases hbd with h | h <;> omega)⟩
      · rcases hl with ⟨-, h2, -⟩ | ⟨h1, -⟩
        · rw [← hkv]
          obtain ⟨w, hw, ew⟩ := hG.1 k hk
          refine Or.inr ⟨w, hw, ?_⟩
          rw [← sd_and (w := w) hM, ← ew]; exact h2
        · omega
      · obtain ⟨k', hk', hkb', hle, -⟩ := key j hcj
        have := mn_le_at (f := f) hk'
        rw [hfk, if_pos hkb'] at this
        omega
    · rw [if_neg hkb] at hkv; omega
  · have hle := mn_le f n
    refine ⟨Or.inr ⟨by omega, fun j hcj => ?_⟩, Or.inl (by omega)⟩
    obtain ⟨k', hk', hkb', -, hfin⟩ := key j hcj
    have := mn_le_at (f := f) hk'
    rw [hfk, if_pos hkb'] at this
    omega
def lowb (M : Nat) : Nat := fsN (fun i => M.testBit i) 10 0
theorem low_eq : ∀ M, M < 1024 → M ≠ 0 → (nI M &&& -(nI M)) = nI (2 ^ lowb M) ∧ M.testBit (lowb M) = true ∧ lowb M < 10 := by decide +kernel
theorem and_pow {x b : Nat} : x &&& 2 ^ b = 0 ↔ x.testBit b = false := by
  constructor
  · intro h
    have := congrArg (fun z => z.testBit b) h
    simp only [Nat.testBit_and, Nat.testBit_two_pow_self, Bool.and_true, Nat.zero_testBit] at this
    exact this
  · intro h
    apply Nat.eq_of_testBit_eq
    intro i
    rw [Nat.testBit_and, Nat.testBit_two_pow, Nat.zero_testBit]
    by_cases e : b = i
    · rw [← e, h]; rfl
    · rw [decide_eq_false e, Bool.and_false]
/-- the cells of Whistles: the sounded sets, the largest, the least counts -/
def whNm (nm : Nat → Nat) : Prop := nm 2 = 82 ∧ nm 3 = 84 ∧ nm 4 = 85 ∧ nm 5 = 86 ∧ nm 6 = 87 ∧ nm 7 = 88 ∧ nm 8 = 89 ∧ nm 9 = 90
theorem lfor_c {nm : Nat → Nat} {x : Nat} {σ : jS} (hm : whNm nm) (hx : x < 1024) : f_X9_leastFor nm (nI x) σ = some (g_i σ 89 x) := by
  unfold f_X9_leastFor
  rw [if_neg (nI_neg0 (by omega)), if_neg (show ¬ (1024 : Int32) ≤ nI x from fun e => by
    have e : nI 1024 ≤ nI x := e
    rw [nI_le' (by omega) (by omega)] at e; omega), gd_t (nI_in' (by omega) (by omega)), nI_cl (by omega), hm.2.2.2.2.2.2.1]
theorem lbl_c {nm : Nat → Nat} {n M : Nat} {a vv : Nat → Nat} {σ : jS} (hm : whNm nm) (hr : RowS 87 88 a n σ) (hn : n ≤ 256) (hM : M < 1024) (hM0 : M ≠ 0) (hv : ∀ k, k < n → (a k).testBit (lowb M) = true → g_i σ 89 (sd M (a k)) = nI (vv (sd M (a k))) ∧ vv (sd M (a k)) ≤ 100000) : f_X9_leastByLowest nm (nI M) σ = some (nI (mn (fun k => if (a k).testBit (lowb M) = true then vv (sd M (a k)) + 1 else 100000) n)) := by
  obtain ⟨l1, l2, l3⟩ := low_eq M hM hM0
  have m6 := hm.2.2.2.2.1
  have m7 := hm.2.2.2.2.2.1
  refine wp_eq ?_
  unfold f_X9_leastByLowest
  refine wp_bd (fun x1 hx1 => wp_bind ?_)
  rw [hx1, l1]
  generalize hf : (fun k => if (a k).testBit (lowb M) = true then vv (sd M (a k)) + 1 else 100000) = f
  have hfk : ∀ k, f k = if (a k).testBit (lowb M) = true then vv (sd M (a k)) + 1 else 100000 := fun k => by rw [← hf]
  refine wp_up n (fun i s => s = (nI (mn f i), nI i)) (i := 0) (by omega) (by omega) rfl ?_
  rintro i s hi rfl
  unfold f_X9_leastByLowest_L11
  have hsz : f_X4_size (jn nm [6, 7]) 256 σ = some (nI n) := by
    show some (g_i σ (nm 6) 1) = _
    rw [m6, hr.1]
  show wp ((f_X4_size (jn nm [6, 7]) 256 σ).bind _) _
  refine wp_bindE hsz ?_
  have hmi := mn_le f i
  refine wp_ite (fun hc => ?_) (fun hc => ?_)
  · rw [nI_le' (by omega) (by omega)] at hc
    have : i = n := by omega
    subst this
    exact wp_some (wp_some rfl)
  · rw [nI_le' (by omega) (by omega)] at hc
    obtain ⟨q1, q2⟩ := hr.2 i (by omega)
    have hat : f_X4_at (jn nm [6, 7]) 256 (nI i) σ = some (nI (a i)) := by
      rw [row_atI (n := n) (by show g_i σ (nm 6) 1 = _; rw [m6]; exact hr.1) hn (by omega) (by omega)]
      show some (g_i σ (nm 7) i) = _
      rw [m7, q1]
    refine wp_bindE hat ?_
    rw [nI_and]
    have hz : nI (a i &&& 2 ^ lowb M) = 0 ↔ (a i).testBit (lowb M) = false := by
      rw [nI_z (Nat.lt_of_le_of_lt Nat.and_le_left (by omega)), and_pow]
    refine wp_ite (fun hb => ?_) (fun hb => ?_)
    · have hb := hz.mp hb
      refine wp_some ⟨by omega, ?_⟩
      rw [nI_1, mn_s, hfk, if_neg (by rw [hb]; decide), Nat.min_eq_left hmi]
    · have hb : (a i).testBit (lowb M) = true := by
        cases h : (a i).testBit (lowb M) with
        | true => rfl
        | false => exact absurd (hz.mpr h) hb
      obtain ⟨v1, v2⟩ := hv i (by omega) hb
      rw [nI_sd]
      refine wp_bindE (lfor_c hm (by have := sd_lt (b := a i) (show M < 2 ^ 10 from hM); omega)) ?_
      rw [v1, nI_1]
      refine wp_bd (fun x5 h5 => wp_some ⟨by omega, ?_⟩)
      rw [h5, nI_1, mn_s, hfk, if_pos hb]
      congr 1
      apply Int32.toInt_inj.mp
      rw [ti_min, nI_ti (by omega), nI_ti (by omega), nI_ti (by omega)]
      omega
def TL (Fam : Nat → Prop) (top i : Nat) (σ : jS) : Prop := ∀ M, M < i → sub M top → ∃ v, g_i σ 89 M = nI v ∧ Lst Fam v M ∧ (v = 100000 ∨ v ≤ M)
theorem hold_c {nm : Nat → Nat} {Fam : Nat → Prop} {n top : Nat} {a : Nat → Nat} {σ : jS} (hm : whNm nm) (hr : RowS 87 88 a n σ) (hn : n ≤ 256) (ht : top < 1024) (hG : GOk Fam top a n) : ∃ τ v, f_X9_fewestThatHold nm (nI top) σ = some (if v < 100000 then nI v else -1, τ) ∧ ux (fun a _ => decide (a = 89)) σ τ ∧ Lst Fam v top ∧ v ≤ 100000 ∧ TL Fam top (top + 1) τ := by
  have m8 := hm.2.2.2.2.2.2.1
  have v0 : vp_in 0 1024 := nI_in' (n := 0) (by omega) (by omega)
  unfold f_X9_fewestThatHold
  rw [gd_t v0, bdx, m8]
  show ∃ τ v, (lp (f_X9_fewestThatHold_L9 nm (nI top)) fu (1, s_i σ 89 0 0)).bind _ = some (if v < 100000 then nI v else -1, τ) ∧ _
  have lst0 : Lst Fam 0 0 := Or.inl ⟨by omega, rfl, fun j hj => absurd hj (Nat.not_lt_zero j)⟩
  have loop : ∃ τ, lp (f_X9_fewestThatHold_L9 nm (nI top)) fu (1, s_i σ 89 0 0) = some τ ∧ ux (fun a _ => decide (a = 89)) σ τ ∧ TL Fam top (top + 1) τ := by
    suffices wp (lp (f_X9_fewestThatHold_L9 nm (nI top)) fu (1, s_i σ 89 0 0)) (fun τ => ux (fun a _ => decide (a = 89)) σ τ ∧ TL Fam top (top + 1) τ) by
      obtain ⟨τ, e, h⟩ := this
      exact ⟨τ, e, h⟩
    refine wp_up (top + 1) (fun i s => 1 ≤ i ∧ s.1 = nI i ∧ ux (fun a _ => decide (a = 89)) σ s.2 ∧ TL Fam top i s.2) (i := 1) (by omega) (by omega) ⟨by omega, rfl, ux_s (ux_refl _ _) (decide_eq_true rfl), fun M hM _ => ⟨0, by
      have : M = 0 := by omega
      rw [this]; exact s_i_eq _ _ _ _, by
      have : M = 0 := by omega
      rw [this]; exact lst0, Or.inr (Nat.zero_le _)⟩⟩ ?_
    rintro M ⟨v, τ⟩ hM ⟨hM1, hv, hu, hT⟩
    have hv : v = nI M := hv
    have hu : ux (fun a _ => decide (a = 89)) σ τ := hu
    have hT : TL Fam top M τ := hT
    subst hv
    unfold f_X9_fewestThatHold_L9
    show wp (if nI top < nI M then some (Sum.inr τ) else _) _
    refine wp_ite (fun hc => ?_) (fun hc => ?_)
    · rw [nI_lt' (by omega) (by omega)] at hc
      have : M = top + 1 := by omega
      subst this
      exact wp_some ⟨hu, hT⟩
    · rw [nI_lt' (by omega) (by omega)] at hc
      rw [if_neg (show ¬ (1024 : Int32) ≤ nI M from fun e => by
        have e : nI 1024 ≤ nI M := e
        rw [nI_le' (by omega) (by omega)] at e; omega)]
      have hs' : (nI M &&& (nI top ^^^ (-1))) = 0 ↔ sub M top := nI_sub (Nat.lt_of_lt_of_le (show M < 1024 by omega) (by decide))
      refine wp_ite (fun hs => ?_) (fun hs => ?_)
      · have hs := hs'.mp hs
        obtain ⟨l1, l2, l3⟩ := low_eq M (by omega) (by omega)
        have hrτ : RowS 87 88 a n τ := ⟨(hu 87 1 rfl).trans hr.1, fun k hk => by rw [hu 88 k rfl]; exact hr.2 k hk⟩
        have hvv : ∀ x, x < M → sub x top → g_i τ 89 x = nI ((g_i τ 89 x).toInt.toNat) ∧ (g_i τ 89 x).toInt.toNat ≤ 100000 ∧ Lst Fam ((g_i τ 89 x).toInt.toNat) x ∧ ((g_i τ 89 x).toInt.toNat = 100000 ∨ (g_i τ 89 x).toInt.toNat ≤ x) := fun x hx hxs => by
          obtain ⟨v, e, hl, hb⟩ := hT x hx hxs
          have hv : v ≤ 100000 := by rcases hb with h | h <;> omega
          rw [e, nI_ti (by omega)]
          exact ⟨rfl, by omega, hl, hb⟩
        refine wp_bindE (lbl_c (vv := fun x => (g_i τ 89 x).toInt.toNat) hm hrτ hn (by omega) (by omega) (fun k hk hkb => by
          have hlt := sd_lt2 l2 hkb
          obtain ⟨q1, q2, -⟩ := hvv _ hlt (sub_trans (sd_sub M (a k)) hs)
          exact ⟨q1, q2⟩)) ?_
        have hstep := lst_step (vv := fun x => (g_i τ 89 x).toInt.toNat) hG hs l2 (by omega) (fun x hx hxs => (hvv x hx hxs).2.2)
        refine wp_gd (nI_in' (by omega) (by omega)) (wp_bd (fun s3 h3 => wp_some ⟨by omega, by omega, nI_1 M, ?_, fun M' hM' hs2 => ?_⟩))
        · rw [h3, m8]; exact ux_s hu (decide_eq_true rfl)
        · show ∃ v, g_i s3 89 M' = nI v ∧ _
          rw [h3, m8, nI_cl (by omega)]
          by_cases e : M' = M
          · rw [e, s_i_eq]
            exact ⟨_, rfl, hstep⟩
          · rw [s_i_k e]; exact hT M' (by omega) hs2
      · have hs : ¬ sub M top := fun z => hs (hs'.mpr z)
        refine wp_some ⟨by omega, by omega, nI_1 M, hu, fun M' hM' hs2 => ?_⟩
        by_cases e : M' = M
        · rw [e] at hs2; exact absurd hs2 hs
        · exact hT M' (by omega) hs2
  obtain ⟨τ, e, hu, hT⟩ := loop
  rw [e, bnd]
  unfold f_X9_fewestThatHold_J46
  rw [lfor_c hm ht, bnd]
  obtain ⟨v, ev, hl, hb⟩ := hT top (by omega) (sub_refl top)
  have hv : v ≤ 100000 := by rcases hb with h | h <;> omega
  refine ⟨τ, v, ?_, hu, hl, hv, hT⟩
  rw [ev]
  by_cases hc : v < 100000
  · rw [if_neg (show ¬ (100000 : Int32) ≤ nI v from fun e => by
      have e : nI 100000 ≤ nI v := e
      rw [nI_le' (by omega) (by omega)] at e; omega), if_pos hc]
  · rw [if_pos (show (100000 : Int32) ≤ nI v from (nI_le' (a := 100000) (by omega) (by omega)).mpr (by omega)), if_neg hc]
