/-! where; what only scribbles -/
def wSc (a k : Nat) : Bool := decide ((62 ≤ a ∧ a ≤ 66) ∨ (81 ≤ a ∧ a ≤ 90) ∨ (92 ≤ a ∧ a ≤ 95) ∨ (98 ≤ a ∧ a ≤ 100) ∨ (114 ≤ a ∧ a ≤ 115) ∨ (117 ≤ a ∧ a ≤ 123) ∨ a = 125 ∨ (a = 101 ∧ (k = 36 ∨ k = 37)))
theorem rel_sc {σ τ : jS} (u : ux wSc σ τ) (h : Rel σ) : Rel τ := by
  obtain ⟨n, m, hSi, hN, hSo, hD, hSg, hL, hI0, hI1, hT, hF, hTo⟩ := h
  refine ⟨n, m, ?_, ?_, ?_, ?_, ?_, ?_, ?_, ?_, ?_, ?_, ?_⟩
  · exact RSite.cg u ⟨fun _ => rfl, fun _ => rfl, fun _ => rfl, fun _ => rfl, fun _ => rfl, fun _ => rfl, fun _ => rfl, fun _ => rfl, fun _ => rfl, fun _ => rfl, fun _ => rfl, fun _ => rfl, fun _ => rfl, fun _ => rfl, fun _ => rfl, fun _ => rfl, fun _ => rfl, rfl, rfl, rfl, rfl, rfl⟩ (fun l _ => ⟨rfl, rfl, rfl⟩) hSi
  · exact RNow.cg u ⟨fun _ => rfl, fun _ => rfl, fun _ => rfl, fun _ => rfl, fun _ => rfl, fun _ => rfl, fun _ => rfl, rfl, rfl, rfl, rfl, rfl, rfl, rfl, rfl⟩ (fun _ _ => rfl) hN
  · exact RSongs.cg u ⟨fun _ => rfl, fun _ => rfl, fun _ => rfl, fun _ => rfl, fun _ => rfl, fun _ => rfl, fun _ => rfl, rfl⟩ hSo
  · exact RDays.cg u ⟨fun _ => rfl, fun _ => rfl, fun _ => rfl, rfl⟩ hD
  · exact RSig.cg u ⟨fun _ => rfl, fun _ => rfl, fun _ => rfl, rfl⟩ hSg
  · exact RLog.cg u ⟨fun _ => rfl, fun _ => rfl, fun _ => rfl, rfl⟩ hL
  · exact RImg.cg u ⟨fun _ => rfl, fun _ => rfl, fun _ => rfl, fun _ => rfl, fun _ => rfl, fun _ => rfl, fun _ => rfl⟩ hI0
  · exact RImg.cg u ⟨fun _ => rfl, fun _ => rfl, fun _ => rfl, fun _ => rfl, fun _ => rfl, fun _ => rfl, fun _ => rfl⟩ hI1
  · exact RText.cg u ⟨fun _ => rfl, fun _ => rfl, fun _ => rfl, rfl⟩ hT
  · exact RFault.cg u ⟨rfl, rfl⟩ hF
  · exact RTour.cg u ⟨fun _ => rfl, fun _ => rfl, fun _ => rfl, fun _ => rfl, fun _ => rfl, fun _ => rfl, fun _ => rfl, rfl, rfl⟩ hTo
theorem sc82 {σ τ : jS} (u : ux w82 σ τ) : ux wSc σ τ := ux_w u (fun a k hk => by
  have hk := of_decide_eq_false hk
  exact decide_eq_false (by omega))
theorem rel_s {σ : jS} (h : Rel σ) : ∃ n m, RSite n m σ ∧ RNow n σ := by
  obtain ⟨n, m, hSi, hN, -⟩ := h
  exact ⟨n, m, hSi, hN⟩
def anyB (f : Nat → Bool) : Nat → Bool
  | 0 => false
  | n + 1 => anyB f n || f n
def cntB (f : Nat → Bool) : Nat → Nat
  | 0 => 0
  | n + 1 => cntB f n + (if f n = true then 1 else 0)
theorem anyB_t {f : Nat → Bool} {i : Nat} : ∀ {n : Nat}, i < n → f i = true → anyB f n = true
  | 0, h, _ => absurd h (Nat.not_lt_zero i)
  | n + 1, h, hf => by
    unfold anyB
    by_cases e : i = n
    · rw [← e, hf, Bool.or_true]
    · rw [anyB_t (show i < n by omega) hf, Bool.true_or]
theorem anyB_f {f : Nat → Bool} : ∀ {n : Nat}, (∀ i, i < n → f i = false) → anyB f n = false
  | 0, _ => rfl
  | n + 1, h => by
    unfold anyB
    rw [anyB_f (fun i hi => h i (by omega)), h n (by omega)]; rfl
theorem anyB_iff {f : Nat → Bool} {n : Nat} : anyB f n = true ↔ ∃ i, i < n ∧ f i = true := by
  constructor
  · intro h
    refine Classical.byContradiction (fun hn => ?_)
    rw [anyB_f (fun i hi => by
      cases hf : f i with
      | false => rfl
      | true => exact absurd ⟨i, hi, hf⟩ hn)] at h
    cases h
  · rintro ⟨i, hi, hf⟩; exact anyB_t hi hf
theorem cntB_le (f : Nat → Bool) : ∀ n, cntB f n ≤ n
  | 0 => Nat.le_refl _
  | n + 1 => by
    have := cntB_le f n
    unfold cntB
    split <;> omega
theorem known_eq {σ : jS} {n m : Nat} (hS : RSite n m σ) (a : Int32) : ∃ v, f_X10_isKnown nmX a σ = some v ∧ f_X11_areLamps nmM a σ = some v ∧ ((v = 1 ∧ ∃ S, S < 2 ^ n ∧ a = nI S) ∨ (v = 0 ∧ ¬ ∃ S, S < 2 ^ n ∧ a = nI S)) := by
  by_cases h : ∃ S, S < 2 ^ n ∧ a = nI S
  · obtain ⟨S, hS2, rfl⟩ := h
    exact ⟨1, xk_yes hS.2.1.1 hS.1.1 hS2, mk_yes hS.2.1.2.2.2.2 hS.1.1 hS2, Or.inl ⟨rfl, S, hS2, rfl⟩⟩
  · exact ⟨0, xk_no hS.2.1.1 hS.1.1 h, mk_no hS.2.1.2.2.2.2 hS.1.1 h, Or.inr ⟨rfl, h⟩⟩
theorem hearX : hearNm (jn nmX [81, 82, 57, 31, 32, 33, 34, 35, 36, 37, 38, 39, 40, 41, 42, 43, 44, 45, 46, 47, 58, 59, 60, 61]) := ⟨rfl, rfl, rfl, rfl, rfl, ⟨⟨rfl, rfl, rfl, rfl, rfl, rfl, rfl, rfl⟩, rfl, rfl, rfl, rfl⟩⟩
theorem hd_82 {σ τ : jS} (u : ux w82 σ τ) : hd τ 57 = hd σ 57 := by
  funext p nt lo l
  unfold hd
  rw [u (57 + 1) l rfl, u 39 l rfl, u 57 6 rfl, u 37 l rfl, u 33 l rfl]
/-- the set that a sound at p of note t wakes -/
def Wt (σ : jS) (n : Nat) (lo : Int32) (p t : Nat) : Nat := bs (hd σ 57 (p : Int) (t : Int) lo.toInt) n
theorem Wt_lt (σ : jS) (n : Nat) (lo : Int32) (p t : Nat) : Wt σ n lo p t < 2 ^ n := bs_lt _ _
theorem mwk {n m : Nat} {σ : jS} {lo : Int32} {p t : Nat} (hS : RSite n m σ) (hN : RNow n σ) (hp : p < 50) (ht : t < 64) (hlo : rg lo 1 50) : f_X11_wakesBy nmM (nI p) (nI t) lo (g_i σ (nmM 0) 15) σ = some (nI (Wt σ n lo p t)) := by
  have e : g_i σ (nmM 0) 15 = g_i σ 57 6 := hN.2.2.2.2.1
  rw [mwakes hS hN e (nI_rg (by omega) (by omega) (by omega)) (nI_rg (by omega) (by omega) (by omega)) hlo, nI_ti (by omega), nI_ti (by omega)]
  rfl
theorem hasJust_c {nm : Nat → Nat} {p : Nat} {v : Int32} {σ : jS} (h1 : nm 1 = 82) (hp : p < 50) : f_X1_hasJust nm (nI p) v σ = some (if anyB (fun t => decide (g_i σ 82 (64 * p + t) = v)) 64 = true then 1 else 0) := by
  refine wp_eq ?_
  unfold f_X1_hasJust
  refine wp_bind ?_
  refine wp_up 64 (fun i s => s = nI i ∧ ∀ t, t < i → g_i σ 82 (64 * p + t) ≠ v) (i := 0) (by omega) (by omega) ⟨rfl, fun j hj => absurd hj (Nat.not_lt_zero j)⟩ ?_
  rintro i s hi ⟨rfl, hk⟩
  unfold f_X1_hasJust_L2
  show wp (if nI 64 ≤ nI i then _ else _) _
  refine wp_ite (fun hc => ?_) (fun hc => ?_)
  · rw [nI_le' (by omega) (by omega)] at hc
    refine wp_some (wp_some ?_)
    rw [if_neg]
    rw [anyB_f (fun t ht => decide_eq_false (hk t (by omega)))]; decide
  · rw [nI_le' (by omega) (by omega)] at hc
    refine wp_bindE (hat_c h1 hp (by omega)) ?_
    refine wp_ite (fun he => ?_) (fun he => ?_)
    · refine wp_some (wp_some ?_)
      rw [if_pos (anyB_t (i := i) (by omega) (decide_eq_true he))]
    · refine wp_some ⟨by omega, nI_1 i, fun t ht => ?_⟩
      by_cases hti : t = i
      · rw [hti]; exact he
      · exact hk t (by omega)
theorem xwhere_lp {v : Int32} {σ : jS} : lp (f_X10_where_L40 nmX v σ) fu (0, 0) = some (nI (cntB (fun p => anyB (fun t => decide (g_i σ 82 (64 * p + t) = v)) 64) 50)) := by
  refine wp_eq ?_
  refine wp_up 50 (fun i s => s = (nI (cntB (fun p => anyB (fun t => decide (g_i σ 82 (64 * p + t) = v)) 64) i), nI i)) (i := 0) (by omega) (by omega) rfl ?_
  rintro i s hi rfl
  unfold f_X10_where_L40
  show wp (if nI 50 ≤ nI i then some (Sum.inr (nI (cntB (fun p => anyB (fun t => decide (g_i σ 82 (64 * p + t) = v)) 64) i))) else (f_X1_hasJust (jn nmX [81, 82]) (nI i) v σ).bind _) _
  refine wp_ite (fun hc => ?_) (fun hc => ?_)
  · rw [nI_le' (by omega) (by omega)] at hc
    have : i = 50 := by omega
    subst this
    exact wp_some rfl
  · rw [nI_le' (by omega) (by omega)] at hc
    refine wp_bindE (hasJust_c rfl (by omega)) ?_
    by_cases hb : anyB (fun t => decide (g_i σ 82 (64 * i + t) = v)) 64 = true
    · rw [if_pos hb, if_neg i10]
      refine wp_some ⟨by omega, ?_⟩
      rw [nI_1, nI_1]
      show _ = (nI (cntB _ i + if anyB _ 64 = true then 1 else 0), _)
      rw [if_pos hb]
    · rw [if_neg hb, if_pos rfl]
      refine wp_some ⟨by omega, ?_⟩
      rw [nI_1]
      show _ = (nI (cntB _ i + if anyB _ 64 = true then 1 else 0), _)
      rw [if_neg hb]; rfl
theorem mwhere_lp {n m : Nat} {v lo : Int32} {σ : jS} (hS : RSite n m σ) (hN : RNow n σ) (hlo : rg lo 1 50) : lp (f_X11_where_L28 nmM v lo σ) fu (0, 0) = some (nI (cntB (fun p => anyB (fun t => decide (nI (Wt σ n lo p t) = v)) 64) 50)) := by
  refine wp_eq ?_
  refine wp_up 50 (fun i s => s = (nI (cntB (fun p => anyB (fun t => decide (nI (Wt σ n lo p t) = v)) 64) i), nI i)) (i := 0) (by omega) (by omega) rfl ?_
  rintro i s hi rfl
  unfold f_X11_where_L28
  show wp (if nI 50 ≤ nI i then some (Sum.inr (nI (cntB (fun p => anyB (fun t => decide (nI (Wt σ n lo p t) = v)) 64) i))) else (lp (f_X11_where_L41 nmM v lo (nI (cntB (fun p => anyB (fun t => decide (nI (Wt σ n lo p t) = v)) 64) i)) (nI i) σ) fu (0, 0)).bind _) _
  generalize hcn : nI (cntB (fun p => anyB (fun t => decide (nI (Wt σ n lo p t) = v)) 64) i) = cn
  refine wp_ite (fun hc => ?_) (fun hc => ?_)
  · rw [nI_le' (by omega) (by omega)] at hc
    have : i = 50 := by omega
    subst this
    exact wp_some hcn.symm
  · rw [nI_le' (by omega) (by omega)] at hc
    have inner : lp (f_X11_where_L41 nmM v lo cn (nI i) σ) fu (0, 0) = some (if anyB (fun t => decide (nI (Wt σ n lo i t) = v)) 64 = true then 1 else 0) := by
      refine wp_eq ?_
      refine wp_up 64 (fun j s => s = ((if anyB (fun t => decide (nI (Wt σ n lo i t) = v)) j = true then 1 else 0), nI j)) (i := 0) (by omega) (by omega) rfl ?_
      rintro j s hj rfl
      unfold f_X11_where_L41
      show wp (if nI 64 ≤ nI j then some (Sum.inr (if anyB (fun t => decide (nI (Wt σ n lo i t) = v)) j = true then 1 else 0)) else if (if anyB (fun t => decide (nI (Wt σ n lo i t) = v)) j = true then (1 : Int32) else 0) = 0 then (f_X11_wakesBy nmM (nI i) (nI j) lo (g_i σ (nmM 0) 15) σ).bind _ else _) _
      refine wp_ite (fun hc2 => ?_) (fun hc2 => ?_)
      · rw [nI_le' (by omega) (by omega)] at hc2
        have : j = 64 := by omega
        subst this
        exact wp_some rfl
      · rw [nI_le' (by omega) (by omega)] at hc2
        by_cases hb : anyB (fun t => decide (nI (Wt σ n lo i t) = v)) j = true
        · rw [if_pos hb, if_neg i10]
          refine wp_some ⟨by omega, ?_⟩
          rw [nI_1, if_pos (show anyB _ (j + 1) = true by unfold anyB; rw [hb]; rfl)]
        · rw [if_neg hb, if_pos rfl]
          refine wp_bindE (mwk hS hN (by omega) (by omega) hlo) ?_
          have hbf : anyB (fun t => decide (nI (Wt σ n lo i t) = v)) j = false := Bool.eq_false_iff.mpr hb
          refine wp_ite (fun he => ?_) (fun he => ?_)
          · refine wp_some ⟨by omega, ?_⟩
            rw [nI_1, if_pos (show anyB _ (j + 1) = true by unfold anyB; rw [decide_eq_true he, Bool.or_true])]
          · refine wp_some ⟨by omega, ?_⟩
            rw [nI_1, if_neg (show ¬ anyB _ (j + 1) = true by unfold anyB; rw [decide_eq_false he, hbf]; decide)]
    refine wp_bindE inner ?_
    by_cases hb : anyB (fun t => decide (nI (Wt σ n lo i t) = v)) 64 = true
    · rw [if_pos hb, if_neg i10]
      refine wp_bd (fun x hx => wp_some ⟨by omega, ?_⟩)
      rw [hx, ← hcn, nI_1, nI_1]
      show _ = (nI (cntB _ i + if anyB _ 64 = true then 1 else 0), _)
      rw [if_pos hb]
    · rw [if_neg hb, if_pos rfl]
      refine wp_bd (fun x hx => wp_some ⟨by omega, ?_⟩)
      rw [hx, ← hcn, nI_1]
      show (nI _ + nI 0, _) = (nI (cntB _ i + if anyB _ 64 = true then 1 else 0), _)
      rw [if_neg hb, nI_add]
theorem st_where (a l : Int32) : sIP Rel (fun σ => f_X10_where nmX a l σ) (fun σ => f_X11_where nmM a l σ) := by
  intro σ hR
  obtain ⟨n, m, hS, hN⟩ := rel_s hR
  show ∃ r σ1, f_X10_where nmX a l σ = some (r, σ1) ∧ f_X11_where nmM a l σ1 = some r ∧ Rel σ1
  unfold f_X10_where f_X11_where
  obtain ⟨v, e1, e2, hv⟩ := known_eq hS a
  obtain ⟨w, e3, e4, hw⟩ := loud_eq l
  rw [e1, bnd]
  rcases hv with ⟨rfl, hv⟩ | ⟨rfl, hv⟩
  · rw [if_neg i10, e3, bnd]
    rcases hw with ⟨rfl, hlo⟩ | ⟨rfl, hlo⟩
    · rw [if_neg i10]
      obtain ⟨τ, et, ut, kt⟩ := listen_c hearX (sok hS hN.1) hlo
      rw [et, bnd, xwhere_lp, bnd]
      have hRτ : Rel τ := rel_sc (sc82 ut) hR
      have hSτ : RSite n m τ := RSite.cg ut ⟨fun _ => rfl, fun _ => rfl, fun _ => rfl, fun _ => rfl, fun _ => rfl, fun _ => rfl, fun _ => rfl, fun _ => rfl, fun _ => rfl, fun _ => rfl, fun _ => rfl, fun _ => rfl, fun _ => rfl, fun _ => rfl, fun _ => rfl, fun _ => rfl, fun _ => rfl, rfl, rfl, rfl, rfl, rfl⟩ (fun l _ => ⟨rfl, rfl, rfl⟩) hS
      have hNτ : RNow n τ := RNow.cg ut ⟨fun _ => rfl, fun _ => rfl, fun _ => rfl, fun _ => rfl, fun _ => rfl, fun _ => rfl, fun _ => rfl, rfl, rfl, rfl, rfl, rfl, rfl, rfl, rfl⟩ (fun _ _ => rfl) hN
      refine ⟨_, τ, rfl, ?_, hRτ⟩
      obtain ⟨v', -, e2', hv'⟩ := known_eq hSτ a
      rcases hv' with ⟨rfl, -⟩ | ⟨rfl, hv'⟩
      · rw [e2', bnd, if_neg i10, e4, bnd, if_neg i10, mwhere_lp hSτ hNτ hlo, bnd]
        have : cntB (fun p => anyB (fun t => decide (nI (Wt τ n l p t) = a)) 64) 50 = cntB (fun p => anyB (fun t => decide (g_i τ 82 (64 * p + t) = a)) 64) 50 := by
          have cc : ∀ (f g : Nat → Bool) N, (∀ i, i < N → f i = g i) → cntB f N = cntB g N := fun f g N h => by
            induction N with
            | zero => rfl
            | succ N ih => unfold cntB; rw [ih (fun i hi => h i (by omega)), h N (by omega)]
          have ac : ∀ (f g : Nat → Bool) N, (∀ i, i < N → f i = g i) → anyB f N = anyB g N := fun f g N h => by
            induction N with
            | zero => rfl
            | succ N ih => unfold anyB; rw [ih (fun i hi => h i (by omega)), h N (by omega)]
          refine cc _ _ _ (fun p hp => ac _ _ _ (fun t ht => ?_))
          show decide (nI (Wt τ n l p t) = a) = decide (g_i τ 82 (64 * p + t) = a)
          rw [kt p t hp ht]
          unfold Wt
          rw [hd_82 ut]
        rw [this]
      · exact absurd hv hv'
    · rw [if_pos rfl]
      refine ⟨_, σ, rfl, ?_, hR⟩
      rw [e2, bnd, if_neg i10, e4, bnd, if_pos rfl]
  · rw [if_pos rfl]
    refine ⟨_, σ, rfl, ?_, hR⟩
    rw [e2, bnd, if_pos rfl]
